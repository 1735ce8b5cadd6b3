/-! the reference's richOf(): what it takes, and which numbers it gives -/
/-- INSTANCES of one CASE, c what * may be -/
def gIl (xs : List tQ) (y : tY) (c : Nat) : Nat := (xs.map (fun q => if (q.1 = 0 ∧ yK y = 2) ∨ (q.1 = 1 ∧ yK y = 4) ∨ (q.1 = 2 ∧ yK y = 5) then (if q.2.2.2.1 = true then c else 1) else 0)).sum
theorem gIn_len (nq : tQ → Int) : ∀ (xs : List tQ) (y : tY) (S : List gN), (gIn nq xs y S).length = gIl xs y S.length
  | [], _, _ => rfl
  | q :: xs, y, S => by
    rw [gIn_cons, List.length_append, gIn_len nq xs y S]
    unfold gIl
    rw [List.map_cons, List.sum_cons]
    congr 1
    by_cases c : (q.1 = 0 ∧ yK y = 2) ∨ (q.1 = 1 ∧ yK y = 4) ∨ (q.1 = 2 ∧ yK y = 5)
    · rw [if_pos c, if_pos c]
      unfold gIq
      by_cases d : q.2.2.2.1 = true
      · rw [if_pos d, if_pos d, List.length_map]
      · rw [if_neg d, if_neg d]
        rfl
    · rw [if_neg c, if_neg c]
      rfl
def yIc (xs : List tQ) : tY → Nat → Nat
  | .leaf, _ => 0
  | .inner k _ _ l r, c => if k = 0 then yIc xs l c + yIc xs r (c + if gMs l = true then 1 else 0) else if k = 2 then 0 else gIl xs (.inner k () () l r) c
def ySx : tY → Nat
  | .leaf => 0
  | .inner k _ _ l r => if k = 0 then max (ySx l) (ySx r + if gMs l = true then 1 else 0) else 0
theorem mAn_st {m : gTm} {k : Nat} {l r : tY} (h : m.2.2.1 = .inner k () () l r) : (mAn m).2.2.2.2.length = m.2.2.2.2.length + if gMs l = true then 1 else 0 := by
  show (if gMs (yL m.2.2.1) = true then m.2.2.2.2 ++ [mPn m] else m.2.2.2.2).length = _
  rw [h]
  show (if gMs l = true then m.2.2.2.2 ++ [mPn m] else m.2.2.2.2).length = _
  split
  · rw [List.length_append]; rfl
  · rfl
theorem mIs_c {Γ : uGm} : ∀ (y : tY) (m : gTm), m.2.2.1 = y → mIs Γ y m = yIc Γ.2.2.2.1 y m.2.2.2.2.length
  | .leaf, _, _ => rfl
  | .inner k _ _ l r, m, h => by
    show (if k = 0 then mIs Γ l (mTk m) + mIs Γ r (mAn m) else if k = 2 then 0 else _) = (if k = 0 then _ else if k = 2 then 0 else _)
    by_cases z : k = 0
    · rw [if_pos z, if_pos z, mIs_c l (mTk m) (by show yL m.2.2.1 = l; rw [h]; rfl), mIs_c r (mAn m) (by show yR m.2.2.1 = r; rw [h]; rfl), mAn_st h]
      rfl
    · rw [if_neg z, if_neg z]
      split
      · rfl
      · rw [gIn_len, h]
theorem mSx_c : ∀ (y : tY) (m : gTm), m.2.2.1 = y → mSx y m = m.2.2.2.2.length + ySx y
  | .leaf, _, _ => rfl
  | .inner k _ _ l r, m, h => by
    show (if k = 0 then max (mSx l (mTk m)) (mSx r (mAn m)) else _) = _ + (if k = 0 then _ else 0)
    by_cases z : k = 0
    · rw [if_pos z, if_pos z, mSx_c l (mTk m) (by show yL m.2.2.1 = l; rw [h]; rfl), mSx_c r (mAn m) (by show yR m.2.2.1 = r; rw [h]; rfl), mAn_st h, show (mTk m).2.2.2.2 = m.2.2.2.2 from rfl]
      omega
    · rw [if_neg z, if_neg z]
      rfl
/-- numbers don't hang on what * may be -/
theorem mOk_st {Γ : uGm} : ∀ (y : tY) (m m' : gTm) (fb cb : Nat), m'.1 = m.1 → m'.2.1 = m.2.1 → m'.2.2.2.1 = m.2.2.2.1 → mOk Γ y m fb cb → mOk Γ y m' fb cb
  | .leaf, _, _, _, _, _, _, _, _ => trivial
  | .inner k _ _ l r, m, m', fb, cb, h1, h2, h3, h => by
    have pn : mPn m' = mPn m := by unfold mPn; rw [h1, h2, h3]
    by_cases z : k = 0
    · have h : if k = 0 then _ else _ := h
      rw [if_pos z] at h
      show if k = 0 then _ else _
      rw [if_pos z, pn, h3]
      exact ⟨h.1, mOk_st l (mTk m) (mTk m') _ _ h1 (by show m'.2.1 ++ [false] = _; rw [h2]; rfl) rfl h.2.1, mOk_st r (mAn m) (mAn m') _ _ h1 (by show m'.2.1 ++ [true] = _; rw [h2]; rfl) (by show m'.2.2.2.1.tail = _; rw [h3]; rfl) h.2.2⟩
    · have h : if k = 0 then _ else _ := h
      rw [if_neg z] at h
      show if k = 0 then _ else _
      rw [if_neg z, h1, h2]
      exact h
/-- a TEMPLATE takes -/
def tpC (xs : List tQ) (y : tY) (c q : Nat) : Nat → Nat := fun k => if k = 75 then yNd y else if k = 79 then yLs y else if k = 98 then yLs y else if k = 99 then yIc xs y c else if k = 100 then yFz y q else 0
theorem tmC_c {Γ : uGm} {y : tY} {key : Nat} {p : List Bool} {ns : List Nat} {st : List gN} : tmC Γ y (key, p, y, ns, st) = tpC Γ.2.2.2.1 y st.length ns.length := by
  funext k
  unfold tmC tpC
  rw [mIs_c y (key, p, y, ns, st) rfl]
def cE1 : Nat → Nat := fun k => if k = 75 ∨ k = 79 ∨ k = 85 then 1 else 0
def cAt (c n : Nat) : Nat → Nat := fun k => if k = c then n else 0
/-- put() takes -/
def ptC (y : tY) : Nat → Nat := fun k => if k = 75 then yNd y else if k = 79 then yLs y else if k = 91 then yLs y else 0
def yM1 (y : tY) : Nat := if gMs y = true then 1 else 0
section GCO
variable (f pp ee : Nat → Int32) (tE tN : Nat → tY) (xs : List tQ)
/-- parameters that are measured -/
def yPm : Nat → Nat → Nat
  | 0, _ => 0
  | q + 1, w => yM1 (tN w) + yPm q (w + 1)
/-- **what richOf() takes**, c what * may be there, y what ARGS go to, or the type of if -/
def gTc : tT → List Nat → tY → Nat → Nat → Nat
  | .leaf, _, _, _ => fun _ => 0
  | .inner g d _ a b, env, y, c =>
    if g = 1 then fun k => tpC xs (tE d.1) c 0 k + gTc a env y c k + cAt 109 1 k + gTc b (env ++ [d.1 + 1]) y (c + yM1 (tN (d.1 + 1))) k + fitC (tE d.1) k
    else if g = 2 then fun k => tpC xs (tE d.1) c 0 k + tpC xs (tN (d.1 + 2)) c d.2.1 k + cAt 109 (1 + d.2.1) k + gTc a (env ++ ([d.1 + 2] ++ List.range' (d.1 + 3) d.2.1)) y (c + yPm tN d.2.1 (d.1 + 3)) k + fitC (yRs d.2.1 (tN (d.1 + 2))) k + gTc b (env ++ [d.1 + 2]) y c k + fitC (tE d.1) k
    else if g = 3 then fun k => tpC xs (tE d.1) c 1 k + cAt 109 1 k + gTc a (env ++ [d.1 + 1]) y (c + yM1 (tN (d.1 + 1))) k + fitC (yR (tE d.1)) k
    else if g = 4 then fun k => tpC xs (tE d.1) c 0 k + cAt 110 2 k + gTc b env (tE d.1) c k
    else if g = 5 then fun k => cAt 123 1 k + cAt 110 1 k + gTc b env y c k
    else if g = 6 then fun k => cAt 123 2 k + gTc a env y c k
    else if g = 7 then fun k => cAt 123 1 k + cE1 k
    else if g = 8 ∨ g = 9 ∨ g = 10 ∨ g = 17 ∨ g = 18 then cE1
    else if g = 11 ∨ g = 12 ∨ g = 13 then fun k => cAt 123 1 k + cE1 k + cAt 85 1 k
    else if g = 14 then fun k => cAt 123 2 k + cE1 k
    else if g = 15 then gTc a env (tN (gNu f pp ee env d.1)) c
    else if g = 16 then gTc a env y c
    else if g = 19 then fun k => tpC xs (tE d.1) c 0 k + cAt 110 2 k + gTc a env y c k + fitC (tE d.1) k + cAt 109 2 k + 2 * cE1 k + gTc b (env ++ [d.2.1, d.2.1 + 1]) y (c + 2) k + fitC (tE d.1) k
    else if g = 31 then fun k => gTc a env y c k + fitC y k + gTc b env y c k + fitC y k
    else if g = 33 then fun k => cE1 k + fitC (yL y) k + ptC (yR y) k + gTc b env (yR y) c k
    else if g = 34 then fun k => gTc a env y c k + fitC (yL y) k + gTc b env (yR y) c k
    else fun k => cE1 k + gTc b env (yR y) c k
/-- CASES, NAMES without a word, of all its TEMPLATES -/
def g98 : tT → Nat
  | .leaf => 0
  | .inner g d _ a b =>
    if g = 1 ∨ g = 19 then yLs (tE d.1) + g98 a + g98 b
    else if g = 2 then yLs (tE d.1) + yLs (tN (d.1 + 2)) + g98 a + g98 b
    else if g = 3 then yLs (tE d.1) + g98 a
    else if g = 4 then yLs (tE d.1) + g98 b
    else if g = 5 ∨ g = 33 ∨ g = 35 then g98 b
    else if g = 6 ∨ g = 15 ∨ g = 16 then g98 a
    else if g = 31 ∨ g = 34 then g98 a + g98 b
    else 0
def g100 : tT → Nat
  | .leaf => 0
  | .inner g d _ a b =>
    if g = 1 ∨ g = 19 then yFz (tE d.1) 0 + g100 a + g100 b
    else if g = 2 then yFz (tE d.1) 0 + yFz (tN (d.1 + 2)) d.2.1 + g100 a + g100 b
    else if g = 3 then yFz (tE d.1) 1 + g100 a
    else if g = 4 then yFz (tE d.1) 0 + g100 b
    else if g = 5 ∨ g = 33 ∨ g = 35 then g100 b
    else if g = 6 ∨ g = 15 ∨ g = 16 then g100 a
    else if g = 31 ∨ g = 34 then g100 a + g100 b
    else 0
/-- **TEMPLATES have the numbers that the reference gives them**, from fb, cb on -/
def gNb (Γ : uGm) : tT → Nat → Nat → Prop
  | .leaf, _, _ => True
  | .inner g d _ a b, fb, cb =>
    if g = 1 ∨ g = 19 then mOk Γ (tE d.1) (2 * d.1, [], tE d.1, [], []) fb cb ∧ gNb Γ a (fb + yFz (tE d.1) 0) (cb + yLs (tE d.1)) ∧ gNb Γ b (fb + yFz (tE d.1) 0 + g100 tE tN a) (cb + yLs (tE d.1) + g98 tE tN a)
    else if g = 2 then mOk Γ (tE d.1) (2 * d.1, [], tE d.1, [], []) fb cb ∧ mOk Γ (tN (d.1 + 2)) (2 * d.1 + 1, [], tN (d.1 + 2), List.range' (d.1 + 3) d.2.1, []) (fb + yFz (tE d.1) 0) (cb + yLs (tE d.1)) ∧ gNb Γ a (fb + yFz (tE d.1) 0 + yFz (tN (d.1 + 2)) d.2.1) (cb + yLs (tE d.1) + yLs (tN (d.1 + 2))) ∧ gNb Γ b (fb + yFz (tE d.1) 0 + yFz (tN (d.1 + 2)) d.2.1 + g100 tE tN a) (cb + yLs (tE d.1) + yLs (tN (d.1 + 2)) + g98 tE tN a)
    else if g = 3 then mOk Γ (tE d.1) (2 * d.1, [], tE d.1, [d.1 + 1], []) fb cb ∧ gNb Γ a (fb + yFz (tE d.1) 1) (cb + yLs (tE d.1))
    else if g = 4 then mOk Γ (tE d.1) (2 * d.1, [], tE d.1, [], []) fb cb ∧ gNb Γ b (fb + yFz (tE d.1) 0) (cb + yLs (tE d.1))
    else if g = 5 ∨ g = 33 ∨ g = 35 then gNb Γ b fb cb
    else if g = 6 ∨ g = 15 ∨ g = 16 then gNb Γ a fb cb
    else if g = 31 ∨ g = 34 then gNb Γ a fb cb ∧ gNb Γ b (fb + g100 tE tN a) (cb + g98 tE tN a)
    else True
/-- types are neither too deep nor have too many parameters; let rec has some -/
def gCp : tT → Nat → Prop
  | .leaf, _ => True
  | .inner g d _ a b, c =>
    (g = 1 ∨ g = 2 ∨ g = 3 ∨ g = 4 ∨ g = 19 → c + ySx (tE d.1) ≤ 60 ∧ yDp (tE d.1) ≤ 100) ∧ (g = 2 → 1 ≤ d.2.1 ∧ c + ySx (tN (d.1 + 2)) ≤ 60) ∧
    (if g = 4 ∨ g = 5 then True else gCp a (if g = 2 then c + yPm tN d.2.1 (d.1 + 3) else if g = 3 then c + yM1 (tN (d.1 + 1)) else c)) ∧ gCp b (if g = 1 then c + yM1 (tN (d.1 + 1)) else if g = 19 then c + 2 else c)
end GCO
