/-! simple types as the equations leave them: what fits what -/
section GOK
variable (f pp ee : Nat → Int32) (tE tN : Nat → tY)
/-- a function of q parameters from word w on -/
def gFn : Nat → Nat → tY → tY
  | 0, _, y => y
  | q + 1, w, y => yA (tN w) (gFn q (w + 1) y)
/-- NAMES of an S have their types -/
def gSo (env : List Nat) (ps : List tP) : Prop := ∀ p, p ∈ ps → p.1 ≠ 0 → tN (gNu f pp ee env p.2.2) = yB (mPk p.1)
/-- the type of an S -/
def gSk (env : List Nat) (ps : List tP) : tY := if isN ps = true then tN (gNu f pp ee env (ps.headD (0, false, 0)).2.2) else yB 0
/-- NAMES of a C have their types -/
def gCk (env : List Nat) : tT → Prop
  | .leaf => True
  | .inner g d _ a b => if g = 24 then tN (gNu f pp ee env d.1) = yB 1 else if g = 25 then gSo f pp ee tN env d.2.2.2.1.2 ∧ gSo f pp ee tN env d.2.2.2.2.2 else gCk env a ∧ gCk env b
def yRs : Nat → tY → tY
  | 0, y => y
  | q + 1, y => yRs q (yR y)
/-- **an E has the type y**; ARGS go to what has the type y -/
def gOk : tT → List Nat → tY → Prop
  | .leaf, _, _ => True
  | .inner g d _ a b, env, y =>
    if g = 1 then tE d.1 = y ∧ gOk a env (tN (d.1 + 1)) ∧ gOk b (env ++ [d.1 + 1]) y
    else if g = 2 then tE d.1 = y ∧ (∃ r, tN (d.1 + 2) = gFn tN d.2.1 (d.1 + 3) r ∧ gOk a (env ++ ([d.1 + 2] ++ List.range' (d.1 + 3) d.2.1)) r) ∧ gOk b (env ++ [d.1 + 2]) y
    else if g = 3 then tE d.1 = y ∧ ∃ r, y = yA (tN (d.1 + 1)) r ∧ gOk a (env ++ [d.1 + 1]) r
    else if g = 4 then tE d.1 = y ∧ gCk f pp ee tN env a ∧ gOk b env y
    else if g = 5 then gCk f pp ee tN env a ∧ gOk b env y
    else if g = 6 then tN (gNu f pp ee env (d.1 + 1)) = yB 2 ∧ (gSo f pp ee tN env d.2.2.2.1.2 ∧ gSo f pp ee tN env d.2.2.2.2.2) ∧ gOk a env y
    else if g = 7 then y = yB 2 ∧ gSo f pp ee tN env d.2.2.2.1.2
    else if g = 8 ∨ g = 9 then y = yB 1
    else if g = 10 then y = gSk f pp ee tN env d.2.2.2.1.2 ∧ (isN d.2.2.2.1.2 = false → gSo f pp ee tN env d.2.2.2.1.2)
    else if g = 11 ∨ g = 12 ∨ g = 13 then y = yB 0 ∧ gSo f pp ee tN env d.2.2.2.1.2 ∧ gSo f pp ee tN env d.2.2.2.2.2
    else if g = 14 then y = yB 0 ∧ tN (gNu f pp ee env d.1) = yB 2 ∧ gSo f pp ee tN env d.2.2.2.1.2
    else if g = 15 then y = yRs (tQn a) (tN (gNu f pp ee env d.1)) ∧ gOk a env (tN (gNu f pp ee env d.1))
    else if g = 16 then gOk a env y
    else if g = 17 then y = yB 3
    else if g = 18 then y = yB 3 ∧ tN (gNu f pp ee env d.2.1) = yB 3 ∧ gSo f pp ee tN env d.2.2.2.1.2
    else if g = 19 then tE d.1 = y ∧ tN (gNu f pp ee env (d.1 + 1)) = yB 3 ∧ (tN d.2.1 = yB 0 ∧ tN (d.2.1 + 1) = yB 3) ∧ gOk a env y ∧ gOk b (env ++ [d.2.1, d.2.1 + 1]) y
    else if g = 31 then gOk a env y ∧ gOk b env y
    else if g = 33 then yIs y ∧ (yL y = gSk f pp ee tN env d.2.2.2.1.2 ∧ (d.2.1 = 1 ∨ isN d.2.2.2.1.2 = false → gSo f pp ee tN env d.2.2.2.1.2)) ∧ gOk b env (yR y)
    else if g = 34 then yIs y ∧ gOk a env (yL y) ∧ gOk b env (yR y)
    else yIs y ∧ yL y = yB 1 ∧ gOk b env (yR y)
end GOK
section MOK
variable {f pp ee : Nat → Int32} {tE tN : Nat → tY} {α : Nat → tY}
theorem gNu_in (env : List Nat) (w : Nat) : gNu f pp ee env w = 0 ∨ gNu f pp ee env w ∈ env := by
  unfold gNu
  cases e : nFind f pp ee env w with
  | none => exact Or.inl rfl
  | some u =>
    obtain ⟨k, -, ek⟩ := nFind_mem e
    exact Or.inr (List.mem_of_getElem? ek)
theorem mLe.al {W : List Nat} {s s' : mS} (h : mLe W s s') (g : mAll s'.1 α) : mAll s.1 α := by
  obtain ⟨⟨l, e⟩, -⟩ := h
  rw [e] at g
  exact (mAll_ap.mp g).1
/-- NAMES that count have these types -/
def mHe (α : Nat → tY) (tN : Nat → tY) (env : List Nat) (s : mS) : Prop := ∀ u, u = 0 ∨ u ∈ env → tN u = s.2.2.1 u α
theorem mHe.nu {env : List Nat} {s : mS} (h : mHe α tN env s) (w : Nat) : tN (gNu f pp ee env w) = mNm f pp ee env w s α := h _ (gNu_in env w)
theorem mHe.le {env W : List Nat} {s s' : mS} (h : mHe α tN env s) (l : mLe W s s') (hw : ∀ u, u = 0 ∨ u ∈ env → u ∉ W) : mHe α tN env s' := fun u hu => by rw [l.2.2 u (hw u hu)]; exact h u hu
theorem mHe.no {env : List Nat} {s s' : mS} (h : mHe α tN env s) (l : mLe [] s s') : mHe α tN env s' := h.le l (fun _ _ z => by cases z)
theorem mMu_al {a b : mF} {pl : Int32} {s : mS} (h : mAll (mMu a b pl s).1 α) : a α = b α := h (_, pl) (List.mem_append_right _ (List.mem_singleton_self _))
theorem mPs_ok {env : List Nat} : ∀ (ps : List tP) (s : mS), mHe α tN env s → mAll (mPs f pp ee env ps s).1 α → gSo f pp ee tN env ps
  | [], s, _, _ => fun p hp => by cases hp
  | p :: ps, s, h, g => by
    have g : mAll (mPs f pp ee env ps (mPt f pp ee env p s)).1 α := g
    have I := mPs_ok ps (mPt f pp ee env p s) (h.no (mLe.pt env p s)) g
    intro q hq h0
    rcases List.mem_cons.mp hq with e | hq
    · subst e
      have g1 := (mLe.ps env ps (mPt f pp ee env q s)).al g
      unfold mPt at g1
      rw [if_neg h0] at g1
      rw [h.nu]
      exact mMu_al g1
    · exact I q hq h0
theorem mCt_ok {env : List Nat} : ∀ (t : tT) (s : mS), mHe α tN env s → mAll (mCt f pp ee env t s).1 α → gCk f pp ee tN env t
  | .leaf, _, _, _ => trivial
  | .inner g d _ a b, s, h, w => by
    unfold mCt at w
    unfold gCk
    by_cases c1 : g = 24
    · rw [if_pos c1] at w ⊢
      rw [h.nu]
      exact mMu_al w
    rw [if_neg c1] at w ⊢
    by_cases c2 : g = 25
    · rw [if_pos c2] at w ⊢
      exact ⟨mPs_ok _ _ h ((mLe.ps env _ _).al w), mPs_ok _ _ (h.no (mLe.ps env _ _)) w⟩
    rw [if_neg c2] at w ⊢
    exact ⟨mCt_ok a s h ((mLe.ct env b _).al w), mCt_ok b _ (h.no (mLe.ct env a s)) w⟩
theorem mSu_ok {env : List Nat} {ps : List tP} {s : mS} (h : mHe α tN env s) (g : mAll (mSu f pp ee env ps s).1.1 α) : (mSu f pp ee env ps s).2 α = gSk f pp ee tN env ps ∧ (isN ps = false → gSo f pp ee tN env ps) := by
  unfold mSu at g ⊢
  unfold gSk
  by_cases c : isN ps = true
  · rw [if_pos c, if_pos c]
    exact ⟨(h.nu _).symm, fun z => by rw [c] at z; cases z⟩
  · rw [if_neg c] at g ⊢
    rw [if_neg c]
    exact ⟨rfl, fun _ => mPs_ok _ _ h g⟩
theorem mOp_ok {pl : Int32} : ∀ (q : Nat) (t : mF) (s : mS), mAll (mOp pl q t s).1 α → ∀ i, i < q → yIs (yRs i (t α))
  | 0, _, _, _ => fun i hi => by omega
  | q + 1, t, s, h => fun i hi => by
    have h : mAll (mOp pl q (fun α => yR (t α)) (mAdd (fun α => yIs (t α)) pl s)).1 α := h
    cases i with
    | zero => exact ((mLe.op pl q _ _).al h) (_, pl) (List.mem_append_right _ (List.mem_singleton_self _))
    | succ i => exact mOp_ok q _ _ h i (by omega)
theorem mRs_y : ∀ (q : Nat) (t : mF), mRs q t α = yRs q (t α)
  | 0, _ => rfl
  | q + 1, t => mRs_y q (fun α => yR (t α))
theorem mPa_vi : ∀ (q w v : Nat) (s : mS) (i : Nat), i < q → (mPa q w v s).2.2.1 (w + i) = mV (v + i)
  | 0, _, _, _, i, h => by omega
  | q + 1, w, v, s, i, h => by
    show (mPa q (w + 1) (v + 1) (mNt w (mV v) s)).2.2.1 (w + i) = _
    cases i with
    | zero =>
      rw [(mLe.pa q (w + 1) (v + 1) (mNt w (mV v) s)).2.2 _ (fun z => by rw [List.mem_range'_1] at z; omega)]
      exact mUp_at _ _ _
    | succ i =>
      have := mPa_vi q (w + 1) (v + 1) (mNt w (mV v) s) i (by omega)
      rw [show w + (i + 1) = w + 1 + i by omega, show v + (i + 1) = v + 1 + i by omega]
      exact this
theorem mFu_fn : ∀ (q w v : Nat) (t : mF), (∀ i, i < q → tN (w + i) = α (v + i)) → mFu q v t α = gFn tN q w (t α)
  | 0, _, _, _, _ => rfl
  | q + 1, w, v, t, h => by
    show yA (α v) (mFu q (v + 1) t α) = yA (tN w) (gFn tN q (w + 1) (t α))
    rw [mFu_fn q (w + 1) (v + 1) t (fun i hi => by have := h (i + 1) (by omega); rw [show w + 1 + i = w + (i + 1) by omega, show v + 1 + i = v + (i + 1) by omega]; exact this), show tN w = α v from h 0 (by omega)]
/-- what the equations of a tree say, F the state behind all -/
def mG (f pp ee : Nat → Int32) (tE tN α : Nat → tY) (t : tT) (env : List Nat) (s : mS) (i j : Nat) : Prop := tRg t i j ∧ mAll (mE f pp ee t env s).1.1 α ∧ mHe α tN env s ∧ (∀ u, u ∈ tW t → tN u = (mE f pp ee t env s).1.2.2.1 u α) ∧ (∀ u, i ≤ u → u < j → tE u = (mE f pp ee t env s).1.2.2.2.1 u α) ∧ (∀ u, u = 0 ∨ u ∈ env → u ∉ tW t) ∧ (tW t).Nodup
/-- of a part, from what comes behind it -/
theorem mG.of {t : tT} {env W : List Nat} {s F : mS} {i j : Nat} (hr : tRg t i j) (hF : mAll F.1 α) (le : mLe W (mE f pp ee t env s).1 F) (hw : ∀ u, u ∈ tW t → u ∉ W ∧ tN u = F.2.2.1 u α) (hT : ∀ u, i ≤ u → u < j → tE u = F.2.2.2.1 u α ∧ F.2.2.2.1 u = (mE f pp ee t env s).1.2.2.2.1 u) (hE : mHe α tN env s) (hd : ∀ u, u = 0 ∨ u ∈ env → u ∉ tW t) (hn : (tW t).Nodup) : mG f pp ee tE tN α t env s i j := ⟨hr, le.al hF, hE, fun u hu => by rw [← le.2.2 u (hw u hu).1]; exact (hw u hu).2, fun u h1 h2 => by rw [← (hT u h1 h2).2]; exact (hT u h1 h2).1, hd, hn⟩
theorem mEt_at (w : Nat) (t : mF) (s : mS) : (mEt w t s).2.2.2.1 w = t := mUp_at _ _ _
theorem mEt_ne {w u : Nat} (t : mF) (s : mS) (h : u ≠ w) : (mEt w t s).2.2.2.1 u = s.2.2.2.1 u := mUp_ne _ _ h
set_option maxHeartbeats 1000000 in
theorem mok_1 {d : Nat × Nat × Nat × tS × tS} {z : Unit} {a b : tT} (Ia : ∀ env s i j, mG f pp ee tE tN α a env s i j → gOk f pp ee tE tN a env ((mE f pp ee a env s).2 α)) (Ib : ∀ env s i j, mG f pp ee tE tN α b env s i j → gOk f pp ee tE tN b env ((mE f pp ee b env s).2 α)) {env : List Nat} {s : mS} {i j : Nat} (h : mG f pp ee tE tN α (.inner 1 d z a b) env s i j) : gOk f pp ee tE tN (.inner 1 d z a b) env ((mE f pp ee (.inner 1 d z a b) env s).2 α) := by
  obtain ⟨hr, hA, hE, hN, hT, hd, hn⟩ := h
  obtain ⟨⟨r1, r2, -⟩, k, ⟨r3, -⟩, ra, rb⟩ := hr
  have ra : tRg a (d.1 + 1) k := ra
  have hn : ((d.1 + 1) :: (tW a ++ tW b)).Nodup := hn
  obtain ⟨n1, n2⟩ := List.nodup_cons.mp hn
  obtain ⟨na, nb, nab⟩ := List.nodup_append.mp n2
  have hd : ∀ u, u = 0 ∨ u ∈ env → u ∉ (d.1 + 1) :: (tW a ++ tW b) := hd
  have hN : ∀ u, u ∈ (d.1 + 1) :: (tW a ++ tW b) → _ := hN
  generalize e1 : mE f pp ee a env s = r1' at *
  generalize e2 : mNt (d.1 + 1) r1'.2 r1'.1 = s2 at *
  generalize e3 : mE f pp ee b (env ++ [d.1 + 1]) s2 = r3' at *
  have eM : mE f pp ee (.inner 1 d z a b) env s = (mEt d.1 r3'.2 r3'.1, r3'.2) := by
    subst e3 e2 e1
    rfl
  rw [eM] at hA hN hT ⊢
  have lb : mLe (tW b) s2 r3'.1 := e3 ▸ mLe.e b _ _
  have l2 : mLe [d.1 + 1] r1'.1 s2 := e2 ▸ mLe.nt _ _ _
  have la : mLe (tW a) s r1'.1 := e1 ▸ mLe.e a _ _
  have l12 : mLe ((d.1 + 1) :: tW b) r1'.1 (mEt d.1 r3'.2 r3'.1) := ((l2.mo (fun u hu => by rw [List.mem_singleton.mp hu]; exact List.mem_cons_self ..)).tr (lb.mo (fun u hu => List.mem_cons_of_mem _ hu))).tr ((mLe.et _ _ _).no _)
  have Ga : mG f pp ee tE tN α a env s (d.1 + 1) k := mG.of (F := mEt d.1 r3'.2 r3'.1) (W := (d.1 + 1) :: tW b) ra hA (by rw [e1]; exact l12) (fun u hu => ⟨fun w => by
      rcases List.mem_cons.mp w with w | w
      · exact n1 (by rw [← w]; exact List.mem_append_left _ hu)
      · exact nab u hu u w rfl, hN u (List.mem_cons_of_mem _ (List.mem_append_left _ hu))⟩) (fun u h1 h2 => ⟨hT u (by omega) (by have := rb.le; omega), by
      rw [mEt_ne _ _ (show u ≠ d.1 by omega), ← e3, mE_tab b _ _ k j u rb (Or.inl h2), ← e2, e1]
      rfl⟩) hE (fun u hu w => hd u hu (List.mem_cons_of_mem _ (List.mem_append_left _ w))) na
  have tn : tN (d.1 + 1) = r1'.2 α := by
    rw [hN _ (List.mem_cons_self ..)]
    show r3'.1.2.2.1 (d.1 + 1) α = _
    rw [lb.2.2 _ (fun w => n1 (List.mem_append_right _ w)), ← e2]
    show mUp _ _ _ _ α = _
    rw [mUp_at]
  have Gb : mG f pp ee tE tN α b (env ++ [d.1 + 1]) s2 k j := mG.of (F := mEt d.1 r3'.2 r3'.1) (W := []) rb hA (by rw [e3]; exact mLe.et _ _ _) (fun u hu => ⟨fun w => (by cases w), hN u (List.mem_cons_of_mem _ (List.mem_append_right _ hu))⟩) (fun u h1 h2 => ⟨hT u (by omega) (by omega), by rw [mEt_ne _ _ (show u ≠ d.1 by omega), e3]⟩) (fun u hu => by
      by_cases c : u = d.1 + 1
      · rw [c, tn, ← e2]
        show _ = mUp _ _ _ _ α
        rw [mUp_at]
      · have hu : u = 0 ∨ u ∈ env := by
          rcases hu with w | w
          · exact Or.inl w
          · rcases List.mem_append.mp w with w | w
            · exact Or.inr w
            · exact absurd (List.mem_singleton.mp w) c
        rw [l2.2.2 u (fun w => c (List.mem_singleton.mp w)), la.2.2 u (fun w => hd u hu (List.mem_cons_of_mem _ (List.mem_append_left _ w)))]
        exact hE u hu) (fun u hu w => by
      rcases hu with hu | hu
      · exact hd u (Or.inl hu) (List.mem_cons_of_mem _ (List.mem_append_right _ w))
      · rcases List.mem_append.mp hu with hu | hu
        · exact hd u (Or.inr hu) (List.mem_cons_of_mem _ (List.mem_append_right _ w))
        · exact n1 (by rw [← List.mem_singleton.mp hu]; exact List.mem_append_right _ w)) nb
  have ga := Ia _ _ _ _ Ga
  have gb := Ib _ _ _ _ Gb
  rw [e1, ← tn] at ga
  rw [e3] at gb
  refine ⟨?_, ga, gb⟩
  rw [hT d.1 r1 r2, mEt_at]
end MOK
