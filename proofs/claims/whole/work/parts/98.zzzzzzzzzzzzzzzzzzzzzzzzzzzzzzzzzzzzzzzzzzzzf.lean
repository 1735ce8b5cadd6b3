/-! what accepted() takes: TEMPLATES and what FITS, apart from the rest -/
/-- what must be SO, counted -/
def nNd : tT → Nat
  | .leaf => 0
  | .inner g d _ a b => (if g = 5 ∨ g = 6 ∨ g = 7 ∨ g = 12 ∨ g = 13 ∨ g = 14 then 1 else 0) + ((if g = 4 ∨ g = 5 then 0 else nNd a) + nNd b)
/-- taken() leaves the steps as they are -/
theorem rkD_tk (A : gTy) : gDq (gTk A) = gDq A := by
  obtain ⟨A1, G⟩ := A
  cases A1 with
  | inl x => rfl
  | inr m =>
    show (mTk m).2.1.count true = m.2.1.count true
    unfold mTk
    simp
/-- what an ARG takes -/
def kIw (y : tY) (X A : gTy) : Nat := if gMs y = true then (wFt y X (gTk A)).2 + 2 * gDq A else ((wFt y X (gTk A)).2 + 2 * t15 (gDq A)) - 49
theorem kIw_33 (y : tY) (X A : gTy) : (wSc (gMs y)).2 + t15 (gDq A) + (wFt y X (gTk A)).2 + (if gMs y = true then 17 + 2 * gDq A else t15 (gDq A)) ≤ 49 + kIw y X A := by
  unfold kIw wSc
  have := t15_le (gDq A)
  by_cases c : gMs y = true
  · rw [if_pos c, if_pos c, if_pos c]
    show 17 + _ + _ + _ ≤ _
    omega
  · rw [if_neg c, if_neg c, if_neg c]
    show 0 + _ + _ + _ ≤ _
    omega
theorem kIw_34 (y : tY) (X A : gTy) : t15 (gDq A) + (wFt y X (gTk A)).2 + t15 (gDq A) ≤ 49 + kIw y X A := by
  unfold kIw
  have := t15_le (gDq A)
  by_cases c : gMs y = true
  · rw [if_pos c]
    omega
  · rw [if_neg c]
    omega
/-- what a FIT leaves to be looked at -/
def yFn : tY → Nat
  | .leaf => 1
  | .inner k _ _ l r => if k = 0 then yFn l + yFn r else if k = 2 then 0 else 1
theorem gFi_ln : ∀ (y : tY) (A B : gTy) (sc : List gEn), (gFi y A B sc).length = yFn y
  | .leaf, _, _, _ => rfl
  | .inner k u v l r, A, B, sc => by
    unfold gFi yFn
    by_cases c : k = 0
    · rw [if_pos c, if_pos c, List.length_append, gFi_ln l, gFi_ln r]
    · rw [if_neg c, if_neg c]
      by_cases c2 : k = 2
      · rw [if_pos c2, if_pos c2]
        rfl
      · rw [if_neg c2, if_neg c2]
        rfl
theorem gFt_w (wt : Nat) (y : tY) (A B : gTy) (sc : List gEn) (s : gSt) : wt * (gFt (gFi y A B sc) s).2.1.length = wt * s.2.1.length + wt * yFn y := by
  show wt * (s.2.1 ++ gFi y A B sc).length = _
  rw [List.length_append, gFi_ln, Nat.mul_add]
/-- eight times what a FIT takes, wt for each thing that is looked at -/
def wFw (wt : Nat) (y : tY) (A B : gTy) : Nat := 8 * (wFt y A B).2 + wt * yFn y
def kIv (wt : Nat) (y : tY) (X A : gTy) : Nat := 8 * kIw y X A + wt * yFn y
section WXD
variable (T : Nat) (f pp ee : Nat → Int32) (tE tN : Nat → tY) (xs : List tQ) (wt : Nat)
/-- TEMPLATES and what FITS -/
def wX : tT → List Nat → List gEn → gTy → gSt → Nat
  | .leaf, _, _, _, _ => 0
  | .inner g d _ a b, env, sc, A, s =>
    if g = 1 then (fun r1 : gSt × gTy => (wX a env sc A s) + (8 * (wT xs (tE d.1) sc).2) + (wX b (env ++ [d.1 + 1]) (gNm (.inl (d.1 + 1)) r1.2 sc) A (gTn (d.1 + 1) r1.2 r1.1)) + (wFw wt (tE d.1) (gWk T f pp ee tE tN b (env ++ [d.1 + 1]) (gNm (.inl (d.1 + 1)) r1.2 sc) A (gTn (d.1 + 1) r1.2 r1.1)).2 (gTp (2 * d.1) (tE d.1) [] sc))) (gWk T f pp ee tE tN a env sc A s) else
    if g = 2 then (fun F : gTy => (fun p : List gEn × gTy × gSt => (fun r1 : gSt × gTy => (8 * (wT xs (tN (d.1 + 2)) sc).2) + (wX a (env ++ ([d.1 + 2] ++ List.range' (d.1 + 3) d.2.1)) p.1 A p.2.2) + (wFw wt (gSy p.2.1) r1.2 p.2.1) + (8 * (wT xs (tE d.1) sc).2) + (wX b (env ++ [d.1 + 2]) sc A (gFt (gFi (gSy p.2.1) r1.2 p.2.1 p.1) r1.1)) + (wFw wt (tE d.1) (gWk T f pp ee tE tN b (env ++ [d.1 + 2]) sc A (gFt (gFi (gSy p.2.1) r1.2 p.2.1 p.1) r1.1)).2 (gTp (2 * d.1) (tE d.1) [] sc))) (gWk T f pp ee tE tN a (env ++ ([d.1 + 2] ++ List.range' (d.1 + 3) d.2.1)) p.1 A p.2.2)) (gPa d.2.1 (d.1 + 3) F sc (gTn (d.1 + 2) F s))) (gTp (2 * d.1 + 1) (tN (d.1 + 2)) (List.range' (d.1 + 3) d.2.1) sc) else
    if g = 3 then (fun F : gTy => (8 * (wT xs (tE d.1) sc).2) + (wX a (env ++ [d.1 + 1]) (gNm (.inl (d.1 + 1)) (gTk F) sc) A (gTn (d.1 + 1) (gTk F) s)) + (wFw wt (yR (tE d.1)) (gWk T f pp ee tE tN a (env ++ [d.1 + 1]) (gNm (.inl (d.1 + 1)) (gTk F) sc) A (gTn (d.1 + 1) (gTk F) s)).2 (gAn F))) (gTp (2 * d.1) (tE d.1) [d.1 + 1] sc) else
    if g = 4 then (8 * (wT xs (tE d.1) sc).2) + (wX b env (.inr (.inl (a, env), true) :: sc) (gTp (2 * d.1) (tE d.1) [] sc) s) else
    if g = 5 then (wX b env (.inr (.inl (a, env), true) :: sc) A (gNe (sc, d.1, 0, a, [], env, 0) s)) else
    if g = 6 then wX a env sc A (gNe (sc, d.1 + 2, 3, .leaf, d.2.2.2.1.2, env, gNu f pp ee env (d.1 + 1)) s) else
    if g = 7 ∨ g = 10 then 0 else
    if g = 8 ∨ g = 9 ∨ g = 12 ∨ g = 14 then 0 else
    if g = 11 ∨ g = 17 ∨ g = 18 then 0 else
    if g = 13 then 0 else
    if g = 15 then wX a env sc (s.1 (gNu f pp ee env d.1)) s else
    if g = 16 then wX a env sc A s else
    if g = 19 then (fun l : Nat => (fun r1 : gSt × gTy => (fun sc2 : List gEn => (fun s2 : gSt => (8 * (wT xs (tE d.1) sc).2) + (wX a env (.inr (.inr l, true) :: sc) A s) + (wFw wt (tE d.1) r1.2 (gTp (2 * d.1) (tE d.1) [] sc)) + (wX b (env ++ [d.2.1, d.2.1 + 1]) sc2 A s2) + (wFw wt (tE d.1) (gWk T f pp ee tE tN b (env ++ [d.2.1, d.2.1 + 1]) sc2 A s2).2 (gTp (2 * d.1) (tE d.1) [] sc))) (gTn (d.2.1 + 1) (gEq (yB 3) (some (.inl l, 1), -1)) (gTn d.2.1 (gPl (yB 0)) (gFt (gFi (tE d.1) r1.2 (gTp (2 * d.1) (tE d.1) [] sc) (.inr (.inr l, true) :: sc)) r1.1)))) (gNm (.inl (d.2.1 + 1)) (gEq (yB 3) (some (.inl l, 1), -1)) (gNm (.inl d.2.1) (gPl (yB 0)) (.inr (.inr l, false) :: sc)))) (gWk T f pp ee tE tN a env (.inr (.inr l, true) :: sc) A s)) (gNu f pp ee env (d.1 + 1)) else
    if g = 31 then (fun r1 : gSt × gTy => (wX a env sc A s) + (wFw wt (gSy A) r1.2 A) + (wX b env (gFl sc) A (gFt (gFi (gSy A) r1.2 A sc) r1.1)) + (wFw wt (gSy A) (gWk T f pp ee tE tN b env (gFl sc) A (gFt (gFi (gSy A) r1.2 A sc) r1.1)).2 A)) (gWk T f pp ee tE tN a env sc A s) else
    if g = 33 then (kIv wt (yL (gSy A)) (gSu T f pp ee env d.2.2.2.1.2 s) A) + (wX b env sc (if gMs (yL (gSy A)) = true then gPu (gAn A) (gPn A) (gOf T f pp ee env d.2.2.2.1.2) else gAn A) (gFt (gFi (yL (gSy A)) (gSu T f pp ee env d.2.2.2.1.2 s) (gTk A) sc) s)) else
    if g = 34 then (fun r : gSt × gTy => (wX a env sc A s) + (kIv wt (yL (gSy A)) r.2 A) + (wX b env sc (gAn A) (gFt (gFi (yL (gSy A)) r.2 (gTk A) sc) r.1))) (gWk T f pp ee tE tN a env sc A s) else
    if g = 35 then (wX b env sc (gAn A) s) else
    0
end WXD
section WXT
variable {T : Nat} {f pp ee : Nat → Int32} {tE tN : Nat → tY} {xs : List tQ}
theorem nNd_b : ∀ t : tT, 5 * nNd t ≤ bW t
  | .leaf => Nat.le_refl _
  | .inner g d u a b => by
    have ia := nNd_b a
    have ib := nNd_b b
    unfold nNd bW
    by_cases c : g = 5 ∨ g = 6 ∨ g = 7 ∨ g = 12 ∨ g = 13 ∨ g = 14
    · rw [if_pos c]
      rcases c with rfl | rfl | rfl | rfl | rfl | rfl
      · show 5 * (1 + (0 + nNd b)) ≤ 9 + (0 + bW b); omega
      · show 5 * (1 + (nNd a + nNd b)) ≤ 5 + (bW a + bW b); omega
      · show 5 * (1 + (nNd a + nNd b)) ≤ 22 + (bW a + bW b); omega
      · show 5 * (1 + (nNd a + nNd b)) ≤ 20 + (bW a + bW b); omega
      · show 5 * (1 + (nNd a + nNd b)) ≤ 32 + (bW a + bW b); omega
      · show 5 * (1 + (nNd a + nNd b)) ≤ 20 + (bW a + bW b); omega
    · rw [if_neg c]
      refine Nat.le_trans ?_ (Nat.le_add_left _ _)
      by_cases c2 : g = 4 ∨ g = 5
      · rw [if_pos c2, if_pos c2]; omega
      · rw [if_neg c2, if_neg c2]; omega
set_option maxHeartbeats 4000000 in
/-- **what walk() takes, split** -/
theorem wCo_x {wt : Nat} : ∀ (t : tT) (env : List Nat) (sc : List gEn) (A : gTy) (s : gSt), 8 * (wCo T f pp ee tE tN xs t env sc A s).2 + 40 * nNd t + wt * (gWk T f pp ee tE tN t env sc A s).1.2.1.length ≤ 8 * bW t + wX T f pp ee tE tN xs wt t env sc A s + wt * s.2.1.length
  | .leaf, _, _, _, s => by
    show 0 + wt * s.2.1.length ≤ 0 + wt * s.2.1.length
    exact Nat.le_refl _
  | .inner g d u a b, env, sc, A, s => by
    have na := nNd_b a
    have nb := nNd_b b
    by_cases c1 : g = 1
    · subst c1
      obtain ⟨r1, hr1⟩ : ∃ z : gSt × gTy, z = (gWk T f pp ee tE tN a env sc A s) := ⟨_, rfl⟩
      have e : wCo T f pp ee tE tN xs (.inner 1 d u a b) env sc A s = wS [wCo T f pp ee tE tN xs a env sc A s, (1, 4), wT xs (tE d.1) sc, wCo T f pp ee tE tN xs b (env ++ [d.1 + 1]) (gNm (.inl (d.1 + 1)) r1.2 sc) A (gTn (d.1 + 1) r1.2 r1.1), wFt (tE d.1) (gWk T f pp ee tE tN b (env ++ [d.1 + 1]) (gNm (.inl (d.1 + 1)) r1.2 sc) A (gTn (d.1 + 1) r1.2 r1.1)).2 (gTp (2 * d.1) (tE d.1) [] sc)] := by subst hr1; rfl
      have ex : wX T f pp ee tE tN xs wt (.inner 1 d u a b) env sc A s = (wX T f pp ee tE tN xs wt a env sc A s) + (8 * (wT xs (tE d.1) sc).2) + (wX T f pp ee tE tN xs wt b (env ++ [d.1 + 1]) (gNm (.inl (d.1 + 1)) r1.2 sc) A (gTn (d.1 + 1) r1.2 r1.1)) + (wFw wt (tE d.1) (gWk T f pp ee tE tN b (env ++ [d.1 + 1]) (gNm (.inl (d.1 + 1)) r1.2 sc) A (gTn (d.1 + 1) r1.2 r1.1)).2 (gTp (2 * d.1) (tE d.1) [] sc)) := by subst hr1; rfl
      have n1 : nNd (.inner 1 d u a b) = 0 + (nNd a + nNd b) := rfl
      have n2 : bW (.inner 1 d u a b) = 4 + (bW a + bW b) := rfl
      have i1 := wCo_x (wt := wt) a env sc A s
      have i2 := wCo_x (wt := wt) b (env ++ [d.1 + 1]) (gNm (.inl (d.1 + 1)) r1.2 sc) A (gTn (d.1 + 1) r1.2 r1.1)
      rw [← hr1] at i1
      have t1 : wt * (gTn (d.1 + 1) r1.2 r1.1).2.1.length = wt * r1.1.2.1.length := rfl
      have lf : wt * (gWk T f pp ee tE tN (.inner 1 d u a b) env sc A s).1.2.1.length = wt * (gWk T f pp ee tE tN b (env ++ [d.1 + 1]) (gNm (.inl (d.1 + 1)) r1.2 sc) A (gTn (d.1 + 1) r1.2 r1.1)).1.2.1.length + wt * yFn (tE d.1) := by subst hr1; exact gFt_w wt (tE d.1) _ _ _ _
      rw [e, ex, n1, n2, lf]
      simp only [wS, wFw, kIv]
      omega
    by_cases c2 : g = 2
    · subst c2
      obtain ⟨F, hF⟩ : ∃ z : gTy, z = (gTp (2 * d.1 + 1) (tN (d.1 + 2)) (List.range' (d.1 + 3) d.2.1) sc) := ⟨_, rfl⟩
      obtain ⟨p, hp⟩ : ∃ z : List gEn × gTy × gSt, z = (gPa d.2.1 (d.1 + 3) F sc (gTn (d.1 + 2) F s)) := ⟨_, rfl⟩
      obtain ⟨r1, hr1⟩ : ∃ z : gSt × gTy, z = (gWk T f pp ee tE tN a (env ++ ([d.1 + 2] ++ List.range' (d.1 + 3) d.2.1)) p.1 A p.2.2) := ⟨_, rfl⟩
      have e : wCo T f pp ee tE tN xs (.inner 2 d u a b) env sc A s = wS [wT xs (tN (d.1 + 2)) sc, (1, 4), (4 * d.2.1, 19 * d.2.1), wCo T f pp ee tE tN xs a (env ++ ([d.1 + 2] ++ List.range' (d.1 + 3) d.2.1)) p.1 A p.2.2, wFt (gSy p.2.1) r1.2 p.2.1, wT xs (tE d.1) sc, wCo T f pp ee tE tN xs b (env ++ [d.1 + 2]) sc A (gFt (gFi (gSy p.2.1) r1.2 p.2.1 p.1) r1.1), wFt (tE d.1) (gWk T f pp ee tE tN b (env ++ [d.1 + 2]) sc A (gFt (gFi (gSy p.2.1) r1.2 p.2.1 p.1) r1.1)).2 (gTp (2 * d.1) (tE d.1) [] sc)] := by subst hr1; subst hp; subst hF; rfl
      have ex : wX T f pp ee tE tN xs wt (.inner 2 d u a b) env sc A s = (8 * (wT xs (tN (d.1 + 2)) sc).2) + (wX T f pp ee tE tN xs wt a (env ++ ([d.1 + 2] ++ List.range' (d.1 + 3) d.2.1)) p.1 A p.2.2) + (wFw wt (gSy p.2.1) r1.2 p.2.1) + (8 * (wT xs (tE d.1) sc).2) + (wX T f pp ee tE tN xs wt b (env ++ [d.1 + 2]) sc A (gFt (gFi (gSy p.2.1) r1.2 p.2.1 p.1) r1.1)) + (wFw wt (tE d.1) (gWk T f pp ee tE tN b (env ++ [d.1 + 2]) sc A (gFt (gFi (gSy p.2.1) r1.2 p.2.1 p.1) r1.1)).2 (gTp (2 * d.1) (tE d.1) [] sc)) := by subst hr1; subst hp; subst hF; rfl
      have n1 : nNd (.inner 2 d u a b) = 0 + (nNd a + nNd b) := rfl
      have n2 : bW (.inner 2 d u a b) = 4 + 19 * d.2.1 + (bW a + bW b) := rfl
      have i1 := wCo_x (wt := wt) a (env ++ ([d.1 + 2] ++ List.range' (d.1 + 3) d.2.1)) p.1 A p.2.2
      have i2 := wCo_x (wt := wt) b (env ++ [d.1 + 2]) sc A (gFt (gFi (gSy p.2.1) r1.2 p.2.1 p.1) r1.1)
      rw [← hr1] at i1
      have p2 : p.2.2.2 = s.2 := by rw [hp]; exact gPa_2 d.2.1 (d.1 + 3) F sc (gTn (d.1 + 2) F s)
      rw [p2] at i1
      rw [gFt_w] at i2
      have lf : wt * (gWk T f pp ee tE tN (.inner 2 d u a b) env sc A s).1.2.1.length = wt * (gWk T f pp ee tE tN b (env ++ [d.1 + 2]) sc A (gFt (gFi (gSy p.2.1) r1.2 p.2.1 p.1) r1.1)).1.2.1.length + wt * yFn (tE d.1) := by subst hr1; subst hp; subst hF; exact gFt_w wt (tE d.1) _ _ _ _
      rw [e, ex, n1, n2, lf]
      simp only [wS, wFw, kIv]
      omega
    by_cases c3 : g = 3
    · subst c3
      obtain ⟨F, hF⟩ : ∃ z : gTy, z = (gTp (2 * d.1) (tE d.1) [d.1 + 1] sc) := ⟨_, rfl⟩
      have e : wCo T f pp ee tE tN xs (.inner 3 d u a b) env sc A s = wS [wT xs (tE d.1) sc, (4, 19), wCo T f pp ee tE tN xs a (env ++ [d.1 + 1]) (gNm (.inl (d.1 + 1)) (gTk F) sc) A (gTn (d.1 + 1) (gTk F) s), wFt (yR (tE d.1)) (gWk T f pp ee tE tN a (env ++ [d.1 + 1]) (gNm (.inl (d.1 + 1)) (gTk F) sc) A (gTn (d.1 + 1) (gTk F) s)).2 (gAn F)] := by subst hF; rfl
      have ex : wX T f pp ee tE tN xs wt (.inner 3 d u a b) env sc A s = (8 * (wT xs (tE d.1) sc).2) + (wX T f pp ee tE tN xs wt a (env ++ [d.1 + 1]) (gNm (.inl (d.1 + 1)) (gTk F) sc) A (gTn (d.1 + 1) (gTk F) s)) + (wFw wt (yR (tE d.1)) (gWk T f pp ee tE tN a (env ++ [d.1 + 1]) (gNm (.inl (d.1 + 1)) (gTk F) sc) A (gTn (d.1 + 1) (gTk F) s)).2 (gAn F)) := by subst hF; rfl
      have n1 : nNd (.inner 3 d u a b) = 0 + (nNd a + nNd b) := rfl
      have n2 : bW (.inner 3 d u a b) = 19 + (bW a + bW b) := rfl
      have i1 := wCo_x (wt := wt) a (env ++ [d.1 + 1]) (gNm (.inl (d.1 + 1)) (gTk F) sc) A (gTn (d.1 + 1) (gTk F) s)
      have t1 : wt * (gTn (d.1 + 1) (gTk F) s).2.1.length = wt * s.2.1.length := rfl
      have lf : wt * (gWk T f pp ee tE tN (.inner 3 d u a b) env sc A s).1.2.1.length = wt * (gWk T f pp ee tE tN a (env ++ [d.1 + 1]) (gNm (.inl (d.1 + 1)) (gTk F) sc) A (gTn (d.1 + 1) (gTk F) s)).1.2.1.length + wt * yFn (yR (tE d.1)) := by subst hF; exact gFt_w wt (yR (tE d.1)) _ _ _ _
      rw [e, ex, n1, n2, lf]
      simp only [wS, wFw, kIv]
      omega
    by_cases c4 : g = 4
    · subst c4
      have e : wCo T f pp ee tE tN xs (.inner 4 d u a b) env sc A s = wS [wT xs (tE d.1) sc, (2, 8), wCo T f pp ee tE tN xs b env (.inr (.inl (a, env), true) :: sc) (gTp (2 * d.1) (tE d.1) [] sc) s] := rfl
      have ex : wX T f pp ee tE tN xs wt (.inner 4 d u a b) env sc A s = (8 * (wT xs (tE d.1) sc).2) + (wX T f pp ee tE tN xs wt b env (.inr (.inl (a, env), true) :: sc) (gTp (2 * d.1) (tE d.1) [] sc) s) := rfl
      have n1 : nNd (.inner 4 d u a b) = 0 + (0 + nNd b) := rfl
      have n2 : bW (.inner 4 d u a b) = 8 + (0 + bW b) := rfl
      have i1 := wCo_x (wt := wt) b env (.inr (.inl (a, env), true) :: sc) (gTp (2 * d.1) (tE d.1) [] sc) s
      have lf : wt * (gWk T f pp ee tE tN (.inner 4 d u a b) env sc A s).1.2.1.length = wt * (gWk T f pp ee tE tN b env (.inr (.inl (a, env), true) :: sc) (gTp (2 * d.1) (tE d.1) [] sc) s).1.2.1.length := rfl
      rw [e, ex, n1, n2, lf]
      simp only [wS, wFw, kIv]
      omega
    by_cases c5 : g = 5
    · subst c5
      have e : wCo T f pp ee tE tN xs (.inner 5 d u a b) env sc A s = wS [(1, 4), wCo T f pp ee tE tN xs b env (.inr (.inl (a, env), true) :: sc) A (gNe (sc, d.1, 0, a, [], env, 0) s)] := rfl
      have ex : wX T f pp ee tE tN xs wt (.inner 5 d u a b) env sc A s = (wX T f pp ee tE tN xs wt b env (.inr (.inl (a, env), true) :: sc) A (gNe (sc, d.1, 0, a, [], env, 0) s)) := rfl
      have n1 : nNd (.inner 5 d u a b) = 1 + (0 + nNd b) := rfl
      have n2 : bW (.inner 5 d u a b) = 9 + (0 + bW b) := rfl
      have i1 := wCo_x (wt := wt) b env (.inr (.inl (a, env), true) :: sc) A (gNe (sc, d.1, 0, a, [], env, 0) s)
      have t1 : wt * (gNe (sc, d.1, 0, a, [], env, 0) s).2.1.length = wt * s.2.1.length := rfl
      have lf : wt * (gWk T f pp ee tE tN (.inner 5 d u a b) env sc A s).1.2.1.length = wt * (gWk T f pp ee tE tN b env (.inr (.inl (a, env), true) :: sc) A (gNe (sc, d.1, 0, a, [], env, 0) s)).1.2.1.length := rfl
      rw [e, ex, n1, n2, lf]
      simp only [wS, wFw, kIv]
      omega
    by_cases c6 : g = 6
    · subst c6
      have e : wCo T f pp ee tE tN xs (.inner 6 d u a b) env sc A s = wCo T f pp ee tE tN xs a env sc A (gNe (sc, d.1 + 2, 3, .leaf, d.2.2.2.1.2, env, gNu f pp ee env (d.1 + 1)) s) := rfl
      have ex : wX T f pp ee tE tN xs wt (.inner 6 d u a b) env sc A s = wX T f pp ee tE tN xs wt a env sc A (gNe (sc, d.1 + 2, 3, .leaf, d.2.2.2.1.2, env, gNu f pp ee env (d.1 + 1)) s) := rfl
      have n1 : nNd (.inner 6 d u a b) = 1 + (nNd a + nNd b) := rfl
      have n2 : bW (.inner 6 d u a b) = 5 + (bW a + bW b) := rfl
      have i1 := wCo_x (wt := wt) a env sc A (gNe (sc, d.1 + 2, 3, .leaf, d.2.2.2.1.2, env, gNu f pp ee env (d.1 + 1)) s)
      have t1 : wt * (gNe (sc, d.1 + 2, 3, .leaf, d.2.2.2.1.2, env, gNu f pp ee env (d.1 + 1)) s).2.1.length = wt * s.2.1.length := rfl
      have lf : wt * (gWk T f pp ee tE tN (.inner 6 d u a b) env sc A s).1.2.1.length = wt * (gWk T f pp ee tE tN a env sc A (gNe (sc, d.1 + 2, 3, .leaf, d.2.2.2.1.2, env, gNu f pp ee env (d.1 + 1)) s)).1.2.1.length := rfl
      rw [e, ex, n1, n2, lf]
      omega
    by_cases c7 : g = 7
    · subst c7
      have e : wCo T f pp ee tE tN xs (.inner 7 d u a b) env sc A s = (3, 17) := rfl
      have ex : wX T f pp ee tE tN xs wt (.inner 7 d u a b) env sc A s = 0 := rfl
      have n1 : nNd (.inner 7 d u a b) = 1 + (nNd a + nNd b) := rfl
      have n2 : bW (.inner 7 d u a b) = 22 + (bW a + bW b) := rfl
      have lf : wt * (gWk T f pp ee tE tN (.inner 7 d u a b) env sc A s).1.2.1.length = wt * s.2.1.length := rfl
      rw [e, ex, n1, n2, lf]
      omega
    by_cases c10 : g = 10
    · subst c10
      have e : wCo T f pp ee tE tN xs (.inner 10 d u a b) env sc A s = (3, 17) := rfl
      have ex : wX T f pp ee tE tN xs wt (.inner 10 d u a b) env sc A s = 0 := rfl
      have n1 : nNd (.inner 10 d u a b) = 0 + (nNd a + nNd b) := rfl
      have n2 : bW (.inner 10 d u a b) = 17 + (bW a + bW b) := rfl
      have lf : wt * (gWk T f pp ee tE tN (.inner 10 d u a b) env sc A s).1.2.1.length = wt * s.2.1.length := rfl
      rw [e, ex, n1, n2, lf]
      omega
    by_cases c8 : g = 8
    · subst c8
      have e : wCo T f pp ee tE tN xs (.inner 8 d u a b) env sc A s = (1, 15) := rfl
      have ex : wX T f pp ee tE tN xs wt (.inner 8 d u a b) env sc A s = 0 := rfl
      have n1 : nNd (.inner 8 d u a b) = 0 + (nNd a + nNd b) := rfl
      have n2 : bW (.inner 8 d u a b) = 15 + (bW a + bW b) := rfl
      have lf : wt * (gWk T f pp ee tE tN (.inner 8 d u a b) env sc A s).1.2.1.length = wt * s.2.1.length := rfl
      rw [e, ex, n1, n2, lf]
      omega
    by_cases c9 : g = 9
    · subst c9
      have e : wCo T f pp ee tE tN xs (.inner 9 d u a b) env sc A s = (1, 15) := rfl
      have ex : wX T f pp ee tE tN xs wt (.inner 9 d u a b) env sc A s = 0 := rfl
      have n1 : nNd (.inner 9 d u a b) = 0 + (nNd a + nNd b) := rfl
      have n2 : bW (.inner 9 d u a b) = 15 + (bW a + bW b) := rfl
      have lf : wt * (gWk T f pp ee tE tN (.inner 9 d u a b) env sc A s).1.2.1.length = wt * s.2.1.length := rfl
      rw [e, ex, n1, n2, lf]
      omega
    by_cases c12 : g = 12
    · subst c12
      have e : wCo T f pp ee tE tN xs (.inner 12 d u a b) env sc A s = (1, 15) := rfl
      have ex : wX T f pp ee tE tN xs wt (.inner 12 d u a b) env sc A s = 0 := rfl
      have n1 : nNd (.inner 12 d u a b) = 1 + (nNd a + nNd b) := rfl
      have n2 : bW (.inner 12 d u a b) = 20 + (bW a + bW b) := rfl
      have lf : wt * (gWk T f pp ee tE tN (.inner 12 d u a b) env sc A s).1.2.1.length = wt * s.2.1.length := rfl
      rw [e, ex, n1, n2, lf]
      omega
    by_cases c14 : g = 14
    · subst c14
      have e : wCo T f pp ee tE tN xs (.inner 14 d u a b) env sc A s = (1, 15) := rfl
      have ex : wX T f pp ee tE tN xs wt (.inner 14 d u a b) env sc A s = 0 := rfl
      have n1 : nNd (.inner 14 d u a b) = 1 + (nNd a + nNd b) := rfl
      have n2 : bW (.inner 14 d u a b) = 20 + (bW a + bW b) := rfl
      have lf : wt * (gWk T f pp ee tE tN (.inner 14 d u a b) env sc A s).1.2.1.length = wt * s.2.1.length := rfl
      rw [e, ex, n1, n2, lf]
      omega
    by_cases c11 : g = 11
    · subst c11
      have e : wCo T f pp ee tE tN xs (.inner 11 d u a b) env sc A s = (6, 25) := rfl
      have ex : wX T f pp ee tE tN xs wt (.inner 11 d u a b) env sc A s = 0 := rfl
      have n1 : nNd (.inner 11 d u a b) = 0 + (nNd a + nNd b) := rfl
      have n2 : bW (.inner 11 d u a b) = 25 + (bW a + bW b) := rfl
      have lf : wt * (gWk T f pp ee tE tN (.inner 11 d u a b) env sc A s).1.2.1.length = wt * s.2.1.length := rfl
      rw [e, ex, n1, n2, lf]
      omega
    by_cases c17 : g = 17
    · subst c17
      have e : wCo T f pp ee tE tN xs (.inner 17 d u a b) env sc A s = (6, 25) := rfl
      have ex : wX T f pp ee tE tN xs wt (.inner 17 d u a b) env sc A s = 0 := rfl
      have n1 : nNd (.inner 17 d u a b) = 0 + (nNd a + nNd b) := rfl
      have n2 : bW (.inner 17 d u a b) = 25 + (bW a + bW b) := rfl
      have lf : wt * (gWk T f pp ee tE tN (.inner 17 d u a b) env sc A s).1.2.1.length = wt * s.2.1.length := rfl
      rw [e, ex, n1, n2, lf]
      omega
    by_cases c18 : g = 18
    · subst c18
      have e : wCo T f pp ee tE tN xs (.inner 18 d u a b) env sc A s = (6, 25) := rfl
      have ex : wX T f pp ee tE tN xs wt (.inner 18 d u a b) env sc A s = 0 := rfl
      have n1 : nNd (.inner 18 d u a b) = 0 + (nNd a + nNd b) := rfl
      have n2 : bW (.inner 18 d u a b) = 25 + (bW a + bW b) := rfl
      have lf : wt * (gWk T f pp ee tE tN (.inner 18 d u a b) env sc A s).1.2.1.length = wt * s.2.1.length := rfl
      rw [e, ex, n1, n2, lf]
      omega
    by_cases c13 : g = 13
    · subst c13
      have e : wCo T f pp ee tE tN xs (.inner 13 d u a b) env sc A s = (6, 27) := rfl
      have ex : wX T f pp ee tE tN xs wt (.inner 13 d u a b) env sc A s = 0 := rfl
      have n1 : nNd (.inner 13 d u a b) = 1 + (nNd a + nNd b) := rfl
      have n2 : bW (.inner 13 d u a b) = 32 + (bW a + bW b) := rfl
      have lf : wt * (gWk T f pp ee tE tN (.inner 13 d u a b) env sc A s).1.2.1.length = wt * s.2.1.length := rfl
      rw [e, ex, n1, n2, lf]
      omega
    by_cases c15 : g = 15
    · subst c15
      have e : wCo T f pp ee tE tN xs (.inner 15 d u a b) env sc A s = wCo T f pp ee tE tN xs a env sc (s.1 (gNu f pp ee env d.1)) s := rfl
      have ex : wX T f pp ee tE tN xs wt (.inner 15 d u a b) env sc A s = wX T f pp ee tE tN xs wt a env sc (s.1 (gNu f pp ee env d.1)) s := rfl
      have n1 : nNd (.inner 15 d u a b) = 0 + (nNd a + nNd b) := rfl
      have n2 : bW (.inner 15 d u a b) = 0 + (bW a + bW b) := rfl
      have i1 := wCo_x (wt := wt) a env sc (s.1 (gNu f pp ee env d.1)) s
      have lf : wt * (gWk T f pp ee tE tN (.inner 15 d u a b) env sc A s).1.2.1.length = wt * (gWk T f pp ee tE tN a env sc (s.1 (gNu f pp ee env d.1)) s).1.2.1.length := rfl
      rw [e, ex, n1, n2, lf]
      omega
    by_cases c16 : g = 16
    · subst c16
      have e : wCo T f pp ee tE tN xs (.inner 16 d u a b) env sc A s = wCo T f pp ee tE tN xs a env sc A s := rfl
      have ex : wX T f pp ee tE tN xs wt (.inner 16 d u a b) env sc A s = wX T f pp ee tE tN xs wt a env sc A s := rfl
      have n1 : nNd (.inner 16 d u a b) = 0 + (nNd a + nNd b) := rfl
      have n2 : bW (.inner 16 d u a b) = 0 + (bW a + bW b) := rfl
      have i1 := wCo_x (wt := wt) a env sc A s
      have lf : wt * (gWk T f pp ee tE tN (.inner 16 d u a b) env sc A s).1.2.1.length = wt * (gWk T f pp ee tE tN a env sc A s).1.2.1.length := rfl
      rw [e, ex, n1, n2, lf]
      omega
    by_cases c19 : g = 19
    · subst c19
      obtain ⟨l, hl⟩ : ∃ z : Nat, z = (gNu f pp ee env (d.1 + 1)) := ⟨_, rfl⟩
      obtain ⟨r1, hr1⟩ : ∃ z : gSt × gTy, z = (gWk T f pp ee tE tN a env (.inr (.inr l, true) :: sc) A s) := ⟨_, rfl⟩
      obtain ⟨sc2, hsc2⟩ : ∃ z : List gEn, z = (gNm (.inl (d.2.1 + 1)) (gEq (yB 3) (some (.inl l, 1), -1)) (gNm (.inl d.2.1) (gPl (yB 0)) (.inr (.inr l, false) :: sc))) := ⟨_, rfl⟩
      obtain ⟨s2, hs2⟩ : ∃ z : gSt, z = (gTn (d.2.1 + 1) (gEq (yB 3) (some (.inl l, 1), -1)) (gTn d.2.1 (gPl (yB 0)) (gFt (gFi (tE d.1) r1.2 (gTp (2 * d.1) (tE d.1) [] sc) (.inr (.inr l, true) :: sc)) r1.1))) := ⟨_, rfl⟩
      have e : wCo T f pp ee tE tN xs (.inner 19 d u a b) env sc A s = wS [wT xs (tE d.1) sc, (1, 4), wCo T f pp ee tE tN xs a env (.inr (.inr l, true) :: sc) A s, wFt (tE d.1) r1.2 (gTp (2 * d.1) (tE d.1) [] sc), (10, 52), wCo T f pp ee tE tN xs b (env ++ [d.2.1, d.2.1 + 1]) sc2 A s2, wFt (tE d.1) (gWk T f pp ee tE tN b (env ++ [d.2.1, d.2.1 + 1]) sc2 A s2).2 (gTp (2 * d.1) (tE d.1) [] sc)] := by subst hs2; subst hsc2; subst hr1; subst hl; rfl
      have ex : wX T f pp ee tE tN xs wt (.inner 19 d u a b) env sc A s = (8 * (wT xs (tE d.1) sc).2) + (wX T f pp ee tE tN xs wt a env (.inr (.inr l, true) :: sc) A s) + (wFw wt (tE d.1) r1.2 (gTp (2 * d.1) (tE d.1) [] sc)) + (wX T f pp ee tE tN xs wt b (env ++ [d.2.1, d.2.1 + 1]) sc2 A s2) + (wFw wt (tE d.1) (gWk T f pp ee tE tN b (env ++ [d.2.1, d.2.1 + 1]) sc2 A s2).2 (gTp (2 * d.1) (tE d.1) [] sc)) := by subst hs2; subst hsc2; subst hr1; subst hl; rfl
      have n1 : nNd (.inner 19 d u a b) = 0 + (nNd a + nNd b) := rfl
      have n2 : bW (.inner 19 d u a b) = 56 + (bW a + bW b) := rfl
      have i1 := wCo_x (wt := wt) a env (.inr (.inr l, true) :: sc) A s
      have i2 := wCo_x (wt := wt) b (env ++ [d.2.1, d.2.1 + 1]) sc2 A s2
      rw [← hr1] at i1
      have t2 : wt * s2.2.1.length = wt * r1.1.2.1.length + wt * yFn (tE d.1) := by rw [hs2]; exact gFt_w wt (tE d.1) _ _ _ _
      have lf : wt * (gWk T f pp ee tE tN (.inner 19 d u a b) env sc A s).1.2.1.length = wt * (gWk T f pp ee tE tN b (env ++ [d.2.1, d.2.1 + 1]) sc2 A s2).1.2.1.length + wt * yFn (tE d.1) := by subst hs2; subst hsc2; subst hr1; subst hl; exact gFt_w wt (tE d.1) _ _ _ _
      rw [e, ex, n1, n2, lf]
      simp only [wS, wFw, kIv]
      omega
    by_cases c31 : g = 31
    · subst c31
      obtain ⟨r1, hr1⟩ : ∃ z : gSt × gTy, z = (gWk T f pp ee tE tN a env sc A s) := ⟨_, rfl⟩
      have e : wCo T f pp ee tE tN xs (.inner 31 d u a b) env sc A s = wS [wCo T f pp ee tE tN xs a env sc A s, wFt (gSy A) r1.2 A, wCo T f pp ee tE tN xs b env (gFl sc) A (gFt (gFi (gSy A) r1.2 A sc) r1.1), wFt (gSy A) (gWk T f pp ee tE tN b env (gFl sc) A (gFt (gFi (gSy A) r1.2 A sc) r1.1)).2 A] := by subst hr1; rfl
      have ex : wX T f pp ee tE tN xs wt (.inner 31 d u a b) env sc A s = (wX T f pp ee tE tN xs wt a env sc A s) + (wFw wt (gSy A) r1.2 A) + (wX T f pp ee tE tN xs wt b env (gFl sc) A (gFt (gFi (gSy A) r1.2 A sc) r1.1)) + (wFw wt (gSy A) (gWk T f pp ee tE tN b env (gFl sc) A (gFt (gFi (gSy A) r1.2 A sc) r1.1)).2 A) := by subst hr1; rfl
      have n1 : nNd (.inner 31 d u a b) = 0 + (nNd a + nNd b) := rfl
      have n2 : bW (.inner 31 d u a b) = 0 + (bW a + bW b) := rfl
      have i1 := wCo_x (wt := wt) a env sc A s
      have i2 := wCo_x (wt := wt) b env (gFl sc) A (gFt (gFi (gSy A) r1.2 A sc) r1.1)
      rw [← hr1] at i1
      rw [gFt_w] at i2
      have lf : wt * (gWk T f pp ee tE tN (.inner 31 d u a b) env sc A s).1.2.1.length = wt * (gWk T f pp ee tE tN b env (gFl sc) A (gFt (gFi (gSy A) r1.2 A sc) r1.1)).1.2.1.length + wt * yFn (gSy A) := by subst hr1; exact gFt_w wt (gSy A) _ _ _ _
      rw [e, ex, n1, n2, lf]
      simp only [wS, wFw, kIv]
      omega
    by_cases c33 : g = 33
    · subst c33
      have e : wCo T f pp ee tE tN xs (.inner 33 d u a b) env sc A s = wS [wSc (gMs (yL (gSy A))), (3, t15 (gDq A)), wFt (yL (gSy A)) (gSu T f pp ee env d.2.2.2.1.2 s) (gTk A), (3, if gMs (yL (gSy A)) = true then 17 + 2 * gDq A else t15 (gDq A)), wCo T f pp ee tE tN xs b env sc (if gMs (yL (gSy A)) = true then gPu (gAn A) (gPn A) (gOf T f pp ee env d.2.2.2.1.2) else gAn A) (gFt (gFi (yL (gSy A)) (gSu T f pp ee env d.2.2.2.1.2 s) (gTk A) sc) s)] := rfl
      have ex : wX T f pp ee tE tN xs wt (.inner 33 d u a b) env sc A s = (kIv wt (yL (gSy A)) (gSu T f pp ee env d.2.2.2.1.2 s) A) + (wX T f pp ee tE tN xs wt b env sc (if gMs (yL (gSy A)) = true then gPu (gAn A) (gPn A) (gOf T f pp ee env d.2.2.2.1.2) else gAn A) (gFt (gFi (yL (gSy A)) (gSu T f pp ee env d.2.2.2.1.2 s) (gTk A) sc) s)) := rfl
      have n1 : nNd (.inner 33 d u a b) = 0 + (nNd a + nNd b) := rfl
      have n2 : bW (.inner 33 d u a b) = 49 + (bW a + bW b) := rfl
      have i1 := wCo_x (wt := wt) b env sc (if gMs (yL (gSy A)) = true then gPu (gAn A) (gPn A) (gOf T f pp ee env d.2.2.2.1.2) else gAn A) (gFt (gFi (yL (gSy A)) (gSu T f pp ee env d.2.2.2.1.2 s) (gTk A) sc) s)
      have k33 := kIw_33 (yL (gSy A)) (gSu T f pp ee env d.2.2.2.1.2 s) A
      have lf : wt * (gWk T f pp ee tE tN (.inner 33 d u a b) env sc A s).1.2.1.length = wt * (gWk T f pp ee tE tN b env sc (if gMs (yL (gSy A)) = true then gPu (gAn A) (gPn A) (gOf T f pp ee env d.2.2.2.1.2) else gAn A) (gFt (gFi (yL (gSy A)) (gSu T f pp ee env d.2.2.2.1.2 s) (gTk A) sc) s)).1.2.1.length := rfl
      rw [gFt_w] at i1
      rw [e, ex, n1, n2, lf]
      simp only [wS, wFw, kIv]
      omega
    by_cases c34 : g = 34
    · subst c34
      obtain ⟨r, hr⟩ : ∃ z : gSt × gTy, z = (gWk T f pp ee tE tN a env sc A s) := ⟨_, rfl⟩
      have e : wCo T f pp ee tE tN xs (.inner 34 d u a b) env sc A s = wS [wCo T f pp ee tE tN xs a env sc A s, (3, t15 (gDq A)), wFt (yL (gSy A)) r.2 (gTk A), (3, t15 (gDq A)), wCo T f pp ee tE tN xs b env sc (gAn A) (gFt (gFi (yL (gSy A)) r.2 (gTk A) sc) r.1)] := by subst hr; rfl
      have ex : wX T f pp ee tE tN xs wt (.inner 34 d u a b) env sc A s = (wX T f pp ee tE tN xs wt a env sc A s) + (kIv wt (yL (gSy A)) r.2 A) + (wX T f pp ee tE tN xs wt b env sc (gAn A) (gFt (gFi (yL (gSy A)) r.2 (gTk A) sc) r.1)) := by subst hr; rfl
      have n1 : nNd (.inner 34 d u a b) = 0 + (nNd a + nNd b) := rfl
      have n2 : bW (.inner 34 d u a b) = 49 + (bW a + bW b) := rfl
      have i1 := wCo_x (wt := wt) a env sc A s
      have i2 := wCo_x (wt := wt) b env sc (gAn A) (gFt (gFi (yL (gSy A)) r.2 (gTk A) sc) r.1)
      have k34 := kIw_34 (yL (gSy A)) r.2 A
      rw [← hr] at i1
      rw [gFt_w] at i2
      have lf : wt * (gWk T f pp ee tE tN (.inner 34 d u a b) env sc A s).1.2.1.length = wt * (gWk T f pp ee tE tN b env sc (gAn A) (gFt (gFi (yL (gSy A)) r.2 (gTk A) sc) r.1)).1.2.1.length := by subst hr; rfl
      rw [e, ex, n1, n2, lf]
      simp only [wS, wFw, kIv]
      omega
    by_cases c35 : g = 35
    · subst c35
      have e : wCo T f pp ee tE tN xs (.inner 35 d u a b) env sc A s = wS [(1, 15), (3, 15), (3, 15), wCo T f pp ee tE tN xs b env sc (gAn A) s] := rfl
      have ex : wX T f pp ee tE tN xs wt (.inner 35 d u a b) env sc A s = (wX T f pp ee tE tN xs wt b env sc (gAn A) s) := rfl
      have n1 : nNd (.inner 35 d u a b) = 0 + (nNd a + nNd b) := rfl
      have n2 : bW (.inner 35 d u a b) = 45 + (bW a + bW b) := rfl
      have i1 := wCo_x (wt := wt) b env sc (gAn A) s
      have lf : wt * (gWk T f pp ee tE tN (.inner 35 d u a b) env sc A s).1.2.1.length = wt * (gWk T f pp ee tE tN b env sc (gAn A) s).1.2.1.length := rfl
      rw [e, ex, n1, n2, lf]
      simp only [wS, wFw, kIv]
      omega
    · have e1 : wCo T f pp ee tE tN xs (.inner g d u a b) env sc A s = (0, 0) := by
        unfold wCo
        rw [if_neg (by omega), if_neg (by omega), if_neg (by omega), if_neg (by omega), if_neg (by omega), if_neg (by omega), if_neg (by omega), if_neg (by omega), if_neg (by omega), if_neg (by omega), if_neg (by omega), if_neg (by omega), if_neg (by omega), if_neg (by omega), if_neg (by omega), if_neg (by omega), if_neg (by omega)]
      rw [e1]
      have h := nNd_b (.inner g d u a b)
      have e2 : gWk T f pp ee tE tN (.inner g d u a b) env sc A s = (s, A) := by
        unfold gWk
        rw [if_neg (by omega), if_neg (by omega), if_neg (by omega), if_neg (by omega), if_neg (by omega), if_neg (by omega), if_neg (by omega), if_neg (by omega), if_neg (by omega), if_neg (by omega), if_neg (by omega), if_neg (by omega), if_neg (by omega), if_neg (by omega), if_neg (by omega), if_neg (by omega), if_neg (by omega), if_neg (by omega), if_neg (by omega), if_neg (by omega)]
      rw [e2]
      show 8 * 0 + 40 * nNd (.inner g d u a b) + wt * s.2.1.length ≤ _
      omega
end WXT
