/-! CAPACITIES: where types are made, NAMES and measured arrows together are few -/
section GMX
variable {kk f pp ee : Nat → Int32} {cnt : Nat} {tE tN : Nat → tY} {L env : List Nat}
theorem gSv_l (tN : Nat → tY) (env : List Nat) : (gSv tN env).length = mSd tN env := by
  unfold gSv mSd
  rw [List.length_map]
theorem mSd_nu (h0 : yK (tN 0) ≠ 1) (he : env.length ≤ 12) {w : Nat} (hk : yK (tN (gNu f pp ee env w)) = 1) : mSd tN env ≤ 11 := by
  rcases gNu_in (f := f) (pp := pp) (ee := ee) env w with h | h
  · rw [h] at hk
    exact absurd hk h0
  · have := mSd_f h hk
    omega
theorem gSk_k {ps : List tP} (h0 : yK (tN 0) ≠ 1) (he : env.length ≤ 12) (hk : yK (gSk f pp ee tN env ps) = 1) : mSd tN env ≤ 11 := by
  unfold gSk at hk
  by_cases c : isN ps = true
  · rw [if_pos c] at hk
    exact mSd_nu h0 he hk
  · rw [if_neg c] at hk
    cases hk
/-- **where an E is a function, a NAME is one, or there is room for one** -/
theorem ok_11 (h0 : yK (tN 0) ≠ 1) : ∀ (t : tT) (l : Nat), l ≠ 2 → tWf kk cnt t l → ∀ env y, gOk f pp ee tE tN t env y → rEv L t env → yK y = 1 → mSd tN env ≤ 11
  | .leaf, l, hl, wf, _, _, _, _, _ => absurd wf hl
  | .inner g d z a b, l, hl, wf, env, y, hg, hev, hy => by
    have Ia := ok_11 h0 a
    have Ib := ok_11 h0 b
    have e12 : env.length ≤ 12 := hev.1.1
    have sm := mSd_le tN env
    have kb : ∀ {k : Nat}, y = yB k → False := fun {k} e => by
      rw [e] at hy
      have hy : k + 1 + 1 = 1 := hy
      omega
    rcases wf with ⟨rfl, rfl, _, wa, wb⟩ | ⟨rfl, _, wb, w⟩ | ⟨_, w⟩
    · have hg : gOk f pp ee tE tN a env y ∧ gOk f pp ee tE tN b env y := hg
      have hev : rEv L a env ∧ rEv L b env := hev.2
      exact Ia 0 (by decide) wa env y hg.1 hev.1 hy
    · exact absurd rfl hl
    · rcases w with ⟨rfl, _, wa, wb⟩ | ⟨rfl, ⟨w1, w2, _⟩, wa, wb⟩ | ⟨rfl, _, wa⟩ | ⟨rfl, wc, wb⟩ | ⟨rfl, wc, wb⟩ | ⟨rfl, _, _, wa⟩ | ⟨h7, _, _, hab⟩ | ⟨h7, _, hab⟩ | ⟨h7, _, hab⟩ | ⟨rfl, _⟩ | ⟨rfl, _, wa⟩ | ⟨rfl, _, wa, hb⟩ | ⟨rfl, _⟩ | ⟨rfl, _, wa, wb⟩
      · have hev : rEv L a env ∧ rEv L b (env ++ [d.1 + 1]) := hev.2
        have := rEv_l wb hev.2
        rw [List.length_append, List.length_singleton] at this
        omega
      · have hev : rEv L a (env ++ ([d.1 + 2] ++ List.range' (d.1 + 3) d.2.1)) ∧ rEv L b (env ++ [d.1 + 2]) := hev.2
        have := rEv_l wb hev.2
        rw [List.length_append, List.length_singleton] at this
        omega
      · have hev : rEv L a (env ++ [d.1 + 1]) := hev.2
        have := rEv_l wa hev
        rw [List.length_append, List.length_singleton] at this
        omega
      · have hg : tE d.1 = y ∧ gCk f pp ee tN env a ∧ gOk f pp ee tE tN b env y := hg
        have hev : rEv L b env := hev.2
        exact Ib 1 (by decide) wb env y hg.2.2 hev hy
      · have hg : gCk f pp ee tN env a ∧ gOk f pp ee tE tN b env y := hg
        have hev : rEv L b env := hev.2
        exact Ib 0 (by decide) wb env y hg.2 hev hy
      · have hev : rEv L a env ∧ rEv L b env := hev.2
        exact Ia 0 (by decide) wa env y hg.2.2 hev.1 hy
      · rcases h7 with rfl | rfl
        · exact (kb hg.1).elim
        · have hg : y = gSk f pp ee tN env d.2.2.2.1.2 ∧ (isN d.2.2.2.1.2 = false → gSo f pp ee tN env d.2.2.2.1.2) := hg
          rw [hg.1] at hy
          exact gSk_k h0 e12 hy
      · rcases h7 with rfl | rfl | rfl
        · exact (kb hg).elim
        · exact (kb hg).elim
        · exact (kb hg).elim
      · rcases h7 with rfl | rfl | rfl
        · exact (kb hg.1).elim
        · exact (kb hg.1).elim
        · exact (kb hg.1).elim
      · exact (kb hg.1).elim
      · have hg : y = yRs (tQn a) (tN (gNu f pp ee env d.1)) ∧ gOk f pp ee tE tN a env (tN (gNu f pp ee env d.1)) := hg
        refine mSd_nu (f := f) (pp := pp) (ee := ee) (w := d.1) h0 e12 ?_
        by_cases c : 0 < tQn a
        · exact gOk_i wa hg.2 c
        · have e : tQn a = 0 := by omega
          rw [hg.1, e] at hy
          exact hy
      · have hev : rEv L a env ∧ rEv L b env := hev.2
        exact Ia 0 (by decide) wa env y hg hev.1 hy
      · exact (kb hg.1).elim
      · have hg : tE d.1 = y ∧ tN (gNu f pp ee env (d.1 + 1)) = yB 3 ∧ (tN d.2.1 = yB 0 ∧ tN (d.2.1 + 1) = yB 3) ∧ gOk f pp ee tE tN a env y ∧ gOk f pp ee tE tN b (env ++ [d.2.1, d.2.1 + 1]) y := hg
        have hev : rEv L a env ∧ rEv L b (env ++ [d.2.1, d.2.1 + 1]) := hev.2
        exact Ia 0 (by decide) wa env y hg.2.2.2.1 hev.1 hy
theorem gFn_ij {r r' : tY} : ∀ (q w : Nat), gFn tN q w r = gFn tN q w r' → r = r'
  | 0, _, h => h
  | q + 1, w, h => by
    have h : yA (tN w) (gFn tN q (w + 1) r) = yA (tN w) (gFn tN q (w + 1) r') := h
    have h : yR (yA (tN w) (gFn tN q (w + 1) r)) = yR (yA (tN w) (gFn tN q (w + 1) r')) := by rw [h]
    exact gFn_ij q (w + 1) h
theorem ySx_fn {r : tY} : ∀ (q w : Nat), ySx r ≤ ySx (gFn tN q w r)
  | 0, _ => Nat.le_refl _
  | q + 1, w => Nat.le_trans (ySx_fn (r := r) q (w + 1)) (by
    show ySx (gFn tN q (w + 1) r) ≤ max (ySx (tN w)) (ySx (gFn tN q (w + 1) r) + if gMs (tN w) = true then 1 else 0)
    exact Nat.le_trans (Nat.le_add_right _ _) (Nat.le_max_right _ _))
theorem c_59 {y : tY} (he : env.length ≤ 12) (hy : ySx y ≤ 48) (h : yK y = 1 → mSd tN env ≤ 11) : (gSv tN env).length + ySx y ≤ 59 := by
  rw [gSv_l]
  by_cases c : yK y = 1
  · have := h c
    omega
  · rw [ySx_0 c]
    have := mSd_le tN env
    omega
/-- **gMx of a text whose types are small** -/
theorem gMx_of (h0 : yK (tN 0) ≠ 1) (hN : ∀ u, ySx (tN u) ≤ 48 ∧ yDp (tN u) ≤ 100) : ∀ (t : tT) (l : Nat), tWf kk cnt t l → ∀ env y, gOk f pp ee tE tN t env y → rEv L t env → tF3 t → tR1 t → (∀ x, x ∈ tLs tE tN t → ySx x.2.1 ≤ 48 ∧ yDp x.2.1 ≤ 100) → gMx f pp ee tE tN 59 t env
  | .leaf, _, _, _, _, _, _, _, _, _ => trivial
  | .inner g d z a b, l, wf, env, y, hg, hev, f3, r1, hL => by
    have Ia := gMx_of h0 hN a
    have Ib := gMx_of h0 hN b
    have e12 : env.length ≤ 12 := hev.1.1
    have hgs : (gSv tN env).length ≤ 12 := by rw [gSv_l]; have := mSd_le tN env; omega
    have le12 : ∀ {e : List Nat} {t : tT}, tWf kk cnt t 0 → rEv L t e → e.length ≤ 12 := fun w r => rEv_l w r
    have no : ∀ {A : Prop}, ¬ (g = 1 ∨ g = 2 ∨ g = 3 ∨ g = 4 ∨ g = 19) → (g = 1 ∨ g = 2 ∨ g = 3 ∨ g = 4 ∨ g = 19 → A) := fun h z => absurd z h
    rcases wf with ⟨rfl, rfl, _, wa, wb⟩ | ⟨rfl, _, wb, w⟩ | ⟨_, w⟩
    · have hg : gOk f pp ee tE tN a env y ∧ gOk f pp ee tE tN b env y := hg
      have hev : rEv L a env ∧ rEv L b env := hev.2
      have hL : ∀ x, x ∈ tLs tE tN a ++ tLs tE tN b → ySx x.2.1 ≤ 48 ∧ yDp x.2.1 ≤ 100 := hL
      exact ⟨no (by decide), Ia 0 wa env y hg.1 hev.1 f3.2.1 r1.2.1 (fun x hx => hL x (List.mem_append_left _ hx)), Ib 0 wb env y hg.2 hev.2 f3.2.2 r1.2.2 (fun x hx => hL x (List.mem_append_right _ hx))⟩
    · rcases w with ⟨rfl, _, ha⟩ | ⟨rfl, _, wa⟩ | ⟨rfl, _, ha, _⟩
      · have hg : yIs y ∧ (yL y = gSk f pp ee tN env d.2.2.2.1.2 ∧ (d.2.1 = 1 ∨ isN d.2.2.2.1.2 = false → gSo f pp ee tN env d.2.2.2.1.2)) ∧ gOk f pp ee tE tN b env (yR y) := hg
        have hev : rEv L a env ∧ rEv L b env := hev.2
        refine ⟨no (by decide), ?_, Ib 2 wb env _ hg.2.2 hev.2 f3.2.2 r1.2.2 hL⟩
        refine c_59 e12 ?_ (fun hk => gSk_k h0 e12 hk)
        unfold gSk
        split
        · exact (hN _).1
        · exact Nat.zero_le _
      · have hg : yIs y ∧ gOk f pp ee tE tN a env (yL y) ∧ gOk f pp ee tE tN b env (yR y) := hg
        have hev : rEv L a env ∧ rEv L b env := hev.2
        have hL : ∀ x, x ∈ tLs tE tN a ++ tLs tE tN b → ySx x.2.1 ≤ 48 ∧ yDp x.2.1 ≤ 100 := hL
        refine ⟨no (by decide), fun y' hy' => ?_, Ia 0 wa env _ hg.2.1 hev.1 f3.2.1 r1.2.1 (fun x hx => hL x (List.mem_append_left _ hx)), Ib 2 wb env _ hg.2.2 hev.2 f3.2.2 r1.2.2 (fun x hx => hL x (List.mem_append_right _ hx))⟩
        obtain ⟨d', z', a', b', ea⟩ := f3.1 rfl
        have hk : yK y' = 1 ∧ y' = tE d'.1 := by
          rw [ea] at hy'
          have hy' : tE d'.1 = y' ∧ ∃ r, y' = yA (tN (d'.1 + 1)) r ∧ gOk f pp ee tE tN a' (env ++ [d'.1 + 1]) r := hy'
          obtain ⟨q1, r, q2, -⟩ := hy'
          exact ⟨by rw [q2]; rfl, q1.symm⟩
        refine ⟨by unfold gMs; rw [hk.1]; rfl, c_59 e12 ?_ (fun _ => ok_11 h0 a 0 (by decide) wa env y' hy' hev.1 hk.1)⟩
        rw [hk.2]
        refine (hL (2 * d'.1, tE d'.1, [d'.1 + 1]) (List.mem_append_left _ ?_)).1
        rw [ea]
        exact List.mem_cons_self ..
      · have hg : yIs y ∧ yL y = yB 1 ∧ gOk f pp ee tE tN b env (yR y) := hg
        have hev : rEv L a env ∧ rEv L b env := hev.2
        exact ⟨no (by decide), Ib 2 wb env _ hg.2.2 hev.2 f3.2.2 r1.2.2 hL⟩
    · rcases w with ⟨rfl, _, wa, wb⟩ | ⟨rfl, ⟨w1, w2, _⟩, wa, wb⟩ | ⟨rfl, _, wa⟩ | ⟨rfl, wc, wb⟩ | ⟨rfl, wc, wb⟩ | ⟨rfl, _, _, wa⟩ | ⟨h7, _, _, hab⟩ | ⟨h7, _, hab⟩ | ⟨h7, _, hab⟩ | ⟨rfl, _⟩ | ⟨rfl, _, wa⟩ | ⟨rfl, _, wa, hb⟩ | ⟨rfl, _⟩ | ⟨rfl, _, wa, wb⟩
      · have hg : tE d.1 = y ∧ gOk f pp ee tE tN a env (tN (d.1 + 1)) ∧ gOk f pp ee tE tN b (env ++ [d.1 + 1]) y := hg
        have hev : rEv L a env ∧ rEv L b (env ++ [d.1 + 1]) := hev.2
        have hL : ∀ x, x ∈ (2 * d.1, tE d.1, ([] : List Nat)) :: (tLs tE tN a ++ tLs tE tN b) → ySx x.2.1 ≤ 48 ∧ yDp x.2.1 ≤ 100 := hL
        have t0 : ySx (tE d.1) ≤ 48 ∧ yDp (tE d.1) ≤ 100 := hL (2 * d.1, tE d.1, []) (List.mem_cons_self ..)
        refine ⟨fun _ => ⟨t0.2, by omega⟩, c_59 (le12 wb hev.2) t0.1 (fun hk => ok_11 h0 b 0 (by decide) wb _ y hg.2.2 hev.2 (by rw [← hg.1]; exact hk)), Ia 0 wa env _ hg.2.1 hev.1 f3.2.1 r1.2.1 (fun x hx => hL x (List.mem_cons_of_mem _ (List.mem_append_left _ hx))), Ib 0 wb _ y hg.2.2 hev.2 f3.2.2 r1.2.2 (fun x hx => hL x (List.mem_cons_of_mem _ (List.mem_append_right _ hx)))⟩
      · have hg : tE d.1 = y ∧ (∃ r, tN (d.1 + 2) = gFn tN d.2.1 (d.1 + 3) r ∧ gOk f pp ee tE tN a (env ++ ([d.1 + 2] ++ List.range' (d.1 + 3) d.2.1)) r) ∧ gOk f pp ee tE tN b (env ++ [d.1 + 2]) y := hg
        obtain ⟨hy, ⟨rr, hf, ga⟩, gb⟩ := hg
        have hev : rEv L a (env ++ ([d.1 + 2] ++ List.range' (d.1 + 3) d.2.1)) ∧ rEv L b (env ++ [d.1 + 2]) := hev.2
        have hL : ∀ x, x ∈ (2 * d.1, tE d.1, ([] : List Nat)) :: (2 * d.1 + 1, tN (d.1 + 2), List.range' (d.1 + 3) d.2.1) :: (tLs tE tN a ++ tLs tE tN b) → ySx x.2.1 ≤ 48 ∧ yDp x.2.1 ≤ 100 := hL
        have t0 : ySx (tE d.1) ≤ 48 ∧ yDp (tE d.1) ≤ 100 := hL (2 * d.1, tE d.1, []) (List.mem_cons_self ..)
        have t1 := hN (d.1 + 2)
        refine ⟨fun _ => ⟨t0.2, by omega⟩, ⟨t1.2, by omega, r1.1 rfl, ?_, fun r hr => ?_⟩, Ia 0 wa _ _ ga hev.1 f3.2.1 r1.2.1 (fun x hx => hL x (List.mem_cons_of_mem _ (List.mem_cons_of_mem _ (List.mem_append_left _ hx)))), Ib 0 wb _ y gb hev.2 f3.2.2 r1.2.2 (fun x hx => hL x (List.mem_cons_of_mem _ (List.mem_cons_of_mem _ (List.mem_append_right _ hx))))⟩
        · refine c_59 e12 t0.1 (fun hk => ?_)
          have := ok_11 h0 b 0 (by decide) wb _ y gb hev.2 (by rw [← hy]; exact hk)
          rw [mSd_ap] at this
          omega
        · have er : rr = r := gFn_ij d.2.1 (d.1 + 3) (hf.symm.trans hr)
          subst er
          have s1 := ySx_fn (tN := tN) (r := rr) d.2.1 (d.1 + 3)
          rw [← hf] at s1
          exact c_59 (le12 wa hev.1) (Nat.le_trans s1 t1.1) (fun hk => ok_11 h0 a 0 (by decide) wa _ rr ga hev.1 hk)
      · have hg : tE d.1 = y ∧ ∃ r, y = yA (tN (d.1 + 1)) r ∧ gOk f pp ee tE tN a (env ++ [d.1 + 1]) r := hg
        obtain ⟨hy, r, hr, ga⟩ := hg
        have hev : rEv L a (env ++ [d.1 + 1]) := hev.2
        have hL : ∀ x, x ∈ (2 * d.1, tE d.1, [d.1 + 1]) :: tLs tE tN a → ySx x.2.1 ≤ 48 ∧ yDp x.2.1 ≤ 100 := hL
        have t0 : ySx (tE d.1) ≤ 48 ∧ yDp (tE d.1) ≤ 100 := hL (2 * d.1, tE d.1, [d.1 + 1]) (List.mem_cons_self ..)
        refine ⟨fun _ => ⟨t0.2, by omega⟩, ?_, Ia 0 wa _ _ ga hev f3.2.1 r1.2.1 (fun x hx => hL x (List.mem_cons_of_mem _ hx))⟩
        have e1 : yR (tE d.1) = r := by rw [hy, hr]; rfl
        have e2 : ySx r ≤ ySx (tE d.1) := by
          rw [hy, hr]
          exact Nat.le_trans (Nat.le_add_right _ _) (Nat.le_max_right _ _)
        rw [e1]
        exact c_59 (le12 wa hev) (Nat.le_trans e2 t0.1) (fun hk => ok_11 h0 a 0 (by decide) wa _ r ga hev hk)
      · have hg : tE d.1 = y ∧ gCk f pp ee tN env a ∧ gOk f pp ee tE tN b env y := hg
        have hev : rEv L b env := hev.2
        have hL : ∀ x, x ∈ (2 * d.1, tE d.1, ([] : List Nat)) :: tLs tE tN b → ySx x.2.1 ≤ 48 ∧ yDp x.2.1 ≤ 100 := hL
        have t0 : ySx (tE d.1) ≤ 48 ∧ yDp (tE d.1) ≤ 100 := hL (2 * d.1, tE d.1, []) (List.mem_cons_self ..)
        exact ⟨fun _ => ⟨t0.2, by omega⟩, c_59 e12 t0.1 (fun hk => ok_11 h0 b 1 (by decide) wb env y hg.2.2 hev (by rw [← hg.1]; exact hk)), Ib 1 wb env y hg.2.2 hev f3.2.2 r1.2.2 (fun x hx => hL x (List.mem_cons_of_mem _ hx))⟩
      · have hg : gCk f pp ee tN env a ∧ gOk f pp ee tE tN b env y := hg
        have hev : rEv L b env := hev.2
        exact ⟨no (by decide), Ib 0 wb env y hg.2 hev f3.2.2 r1.2.2 hL⟩
      · have hev : rEv L a env ∧ rEv L b env := hev.2
        exact ⟨no (by decide), Ia 0 wa env y hg.2.2 hev.1 f3.2.1 r1.2.1 hL⟩
      · rcases h7 with rfl | rfl <;> exact ⟨no (by decide), trivial⟩
      · rcases h7 with rfl | rfl | rfl <;> exact ⟨no (by decide), trivial⟩
      · rcases h7 with rfl | rfl | rfl <;> exact ⟨no (by decide), trivial⟩
      · exact ⟨no (by decide), trivial⟩
      · have hev : rEv L a env ∧ rEv L b env := hev.2
        exact ⟨no (by decide), Ia 2 wa env _ hg.2 hev.1 f3.2.1 r1.2.1 hL⟩
      · have hev : rEv L a env ∧ rEv L b env := hev.2
        exact ⟨no (by decide), Ia 0 wa env y hg hev.1 f3.2.1 r1.2.1 hL⟩
      · exact ⟨no (by decide), trivial⟩
      · have hg : tE d.1 = y ∧ tN (gNu f pp ee env (d.1 + 1)) = yB 3 ∧ (tN d.2.1 = yB 0 ∧ tN (d.2.1 + 1) = yB 3) ∧ gOk f pp ee tE tN a env y ∧ gOk f pp ee tE tN b (env ++ [d.2.1, d.2.1 + 1]) y := hg
        have hev : rEv L a env ∧ rEv L b (env ++ [d.2.1, d.2.1 + 1]) := hev.2
        have hL : ∀ x, x ∈ (2 * d.1, tE d.1, ([] : List Nat)) :: (tLs tE tN a ++ tLs tE tN b) → ySx x.2.1 ≤ 48 ∧ yDp x.2.1 ≤ 100 := hL
        have t0 : ySx (tE d.1) ≤ 48 ∧ yDp (tE d.1) ≤ 100 := hL (2 * d.1, tE d.1, []) (List.mem_cons_self ..)
        refine ⟨fun _ => ⟨t0.2, by omega⟩, ⟨c_59 e12 t0.1 (fun hk => ok_11 h0 a 0 (by decide) wa env y hg.2.2.2.1 hev.1 (by rw [← hg.1]; exact hk)), c_59 (le12 wb hev.2) t0.1 (fun hk => ok_11 h0 b 0 (by decide) wb _ y hg.2.2.2.2 hev.2 (by rw [← hg.1]; exact hk))⟩, Ia 0 wa env y hg.2.2.2.1 hev.1 f3.2.1 r1.2.1 (fun x hx => hL x (List.mem_cons_of_mem _ (List.mem_append_left _ hx))), Ib 0 wb _ y hg.2.2.2.2 hev.2 f3.2.2 r1.2.2 (fun x hx => hL x (List.mem_cons_of_mem _ (List.mem_append_right _ hx)))⟩
end GMX
