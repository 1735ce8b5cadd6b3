/-! CAPACITIES: INSTANCES as a sum over TEMPLATES -/
/-- TEMPLATES, with the measured NAMES where they stand -/
def tLc (tE tN : Nat → tY) : tT → List Nat → List ((Nat × tY × List Nat) × Nat)
  | .leaf, _ => []
  | .inner g d _ a b, env =>
    if g = 1 then ((2 * d.1, tE d.1, []), mSd tN env) :: (tLc tE tN a env ++ tLc tE tN b (env ++ [d.1 + 1]))
    else if g = 2 then ((2 * d.1, tE d.1, []), mSd tN env) :: ((2 * d.1 + 1, tN (d.1 + 2), List.range' (d.1 + 3) d.2.1), mSd tN env) :: (tLc tE tN a (env ++ ([d.1 + 2] ++ List.range' (d.1 + 3) d.2.1)) ++ tLc tE tN b (env ++ [d.1 + 2]))
    else if g = 3 then ((2 * d.1, tE d.1, [d.1 + 1]), mSd tN env) :: tLc tE tN a (env ++ [d.1 + 1])
    else if g = 4 then ((2 * d.1, tE d.1, []), mSd tN env) :: tLc tE tN b env
    else if g = 19 then ((2 * d.1, tE d.1, []), mSd tN env) :: (tLc tE tN a env ++ tLc tE tN b (env ++ [d.2.1, d.2.1 + 1]))
    else if g = 5 ∨ g = 33 ∨ g = 35 then tLc tE tN b env
    else if g = 6 ∨ g = 15 ∨ g = 16 then tLc tE tN a env
    else if g = 31 ∨ g = 34 then tLc tE tN a env ++ tLc tE tN b env
    else []
def sYs (l : List ((Nat × tY × List Nat) × Nat)) : Nat := (l.map (fun x => yS x.1.2.1 x.2)).sum
theorem sYs_c (x : (Nat × tY × List Nat) × Nat) (l : List ((Nat × tY × List Nat) × Nat)) : sYs (x :: l) = yS x.1.2.1 x.2 + sYs l := by
  unfold sYs
  rw [List.map_cons, List.sum_cons]
theorem sYs_a (l l' : List ((Nat × tY × List Nat) × Nat)) : sYs (l ++ l') = sYs l + sYs l' := by
  unfold sYs
  rw [List.map_append, List.sum_append]
theorem gIl_lx (y : tY) (c : Nat) : ∀ xs : List tQ, gIl xs y c ≤ xs.length * max 1 c
  | [] => Nat.zero_le _
  | q :: xs => by
    have I := gIl_lx y c xs
    unfold gIl at I ⊢
    rw [List.map_cons, List.sum_cons, List.length_cons, Nat.succ_mul]
    have : (if (q.1 = 0 ∧ yK y = 2) ∨ (q.1 = 1 ∧ yK y = 4) ∨ (q.1 = 2 ∧ yK y = 5) then (if q.2.2.2.1 = true then c else 1) else 0) ≤ max 1 c := by
      split
      · split
        · exact Nat.le_max_right _ _
        · exact Nat.le_max_left _ _
      · exact Nat.zero_le _
    omega
theorem yIc_le {xs : List tQ} (hx : xs.length ≤ 6) : ∀ (y : tY) (c : Nat), yIc xs y c ≤ 6 * yS y c
  | .leaf, _ => Nat.zero_le _
  | .inner k u v l r, c => by
    show (if k = 0 then yIc xs l c + yIc xs r (c + if gMs l = true then 1 else 0) else if k = 2 then 0 else gIl xs (.inner k () () l r) c) ≤ 6 * (if k = 0 then yS l c + yS r (c + if gMs l = true then 1 else 0) else if k = 2 then 0 else max 1 c)
    by_cases h0 : k = 0
    · rw [if_pos h0, if_pos h0]
      have i1 := yIc_le hx l c
      have i2 := yIc_le hx r (c + if gMs l = true then 1 else 0)
      omega
    · rw [if_neg h0, if_neg h0]
      by_cases h2 : k = 2
      · rw [if_pos h2, if_pos h2]
        exact Nat.zero_le _
      · rw [if_neg h2, if_neg h2]
        exact Nat.le_trans (gIl_lx _ c xs) (Nat.mul_le_mul_right _ hx)
section GTI
variable {f pp ee : Nat → Int32} {tE tN : Nat → tY} {xs : List tQ} {kk : Nat → Int32} {cnt : Nat}
set_option maxHeartbeats 1000000 in
/-- **row 99** -/
theorem gTc_i (hx : xs.length ≤ 6) : ∀ (t : tT) (l : Nat), tWf kk cnt t l → tR1 t → ∀ env ty y, gOk f pp ee tE tN t env ty → gTc f pp ee tE tN xs t env y (mSd tN env) 99 ≤ 6 * sYs (tLc tE tN t env)
  | .leaf, _, _, _, _, _, _, _ => Nat.zero_le _
  | .inner g d z a b, l, wf, r1, env, ty, y, hg => by
    have Ia := gTc_i hx a
    have Ib := gTc_i hx b
    have fz : ∀ y, fitC y 99 = 0 := fun y => rfl
    have tp : ∀ y c q, tpC xs y c q 99 ≤ 6 * yS y c := fun y c q => yIc_le hx y c
    rcases wf with ⟨rfl, rfl, _, wa, wb⟩ | ⟨rfl, _, wb, w⟩ | ⟨_, w⟩
    · have hg : gOk f pp ee tE tN a env ty ∧ gOk f pp ee tE tN b env ty := hg
      have i1 := Ia 0 wa r1.2.1 env ty y hg.1
      have i2 := Ib 0 wb r1.2.2 env ty y hg.2
      show gTc f pp ee tE tN xs a env y (mSd tN env) 99 + 0 + gTc f pp ee tE tN xs b env y (mSd tN env) 99 + 0 ≤ 6 * sYs (tLc tE tN a env ++ tLc tE tN b env)
      rw [sYs_a]
      omega
    · rcases w with ⟨rfl, _, ha⟩ | ⟨rfl, _, wa⟩ | ⟨rfl, _, ha, _⟩
      · have i2 := Ib 2 wb r1.2.2 env _ (yR y) hg.2.2
        show 0 + 0 + 0 + gTc f pp ee tE tN xs b env (yR y) (mSd tN env) 99 ≤ 6 * sYs (tLc tE tN b env)
        omega
      · have hg : yIs ty ∧ gOk f pp ee tE tN a env (yL ty) ∧ gOk f pp ee tE tN b env (yR ty) := hg
        have i1 := Ia 0 wa r1.2.1 env _ y hg.2.1
        have i2 := Ib 2 wb r1.2.2 env _ (yR y) hg.2.2
        show gTc f pp ee tE tN xs a env y (mSd tN env) 99 + 0 + gTc f pp ee tE tN xs b env (yR y) (mSd tN env) 99 ≤ 6 * sYs (tLc tE tN a env ++ tLc tE tN b env)
        rw [sYs_a]
        omega
      · have i2 := Ib 2 wb r1.2.2 env _ (yR y) hg.2.2
        show 0 + gTc f pp ee tE tN xs b env (yR y) (mSd tN env) 99 ≤ 6 * sYs (tLc tE tN b env)
        omega
    · rcases w with ⟨rfl, _, wa, wb⟩ | ⟨rfl, ⟨w1, w2, _⟩, wa, wb⟩ | ⟨rfl, _, wa⟩ | ⟨rfl, wc, wb⟩ | ⟨rfl, wc, wb⟩ | ⟨rfl, _, _, wa⟩ | ⟨h7, _, _, hab⟩ | ⟨h7, _, hab⟩ | ⟨h7, _, hab⟩ | ⟨rfl, _⟩ | ⟨rfl, _, wa⟩ | ⟨rfl, _, wa, hb⟩ | ⟨rfl, _⟩ | ⟨rfl, _, wa, wb⟩
      · have hg : tE d.1 = ty ∧ gOk f pp ee tE tN a env (tN (d.1 + 1)) ∧ gOk f pp ee tE tN b (env ++ [d.1 + 1]) ty := hg
        have i1 := Ia 0 wa r1.2.1 env _ y hg.2.1
        have i2 := Ib 0 wb r1.2.2 (env ++ [d.1 + 1]) _ y hg.2.2
        rw [mSd_1] at i2
        have t1 := tp (tE d.1) (mSd tN env) 0
        show tpC xs (tE d.1) (mSd tN env) 0 99 + gTc f pp ee tE tN xs a env y (mSd tN env) 99 + 0 + gTc f pp ee tE tN xs b (env ++ [d.1 + 1]) y (mSd tN env + yM1 (tN (d.1 + 1))) 99 + 0 ≤ 6 * sYs (((2 * d.1, tE d.1, []), mSd tN env) :: (tLc tE tN a env ++ tLc tE tN b (env ++ [d.1 + 1])))
        rw [sYs_c, sYs_a]
        show _ ≤ 6 * (yS (tE d.1) (mSd tN env) + _)
        omega
      · have hg : tE d.1 = ty ∧ (∃ r, tN (d.1 + 2) = gFn tN d.2.1 (d.1 + 3) r ∧ gOk f pp ee tE tN a (env ++ ([d.1 + 2] ++ List.range' (d.1 + 3) d.2.1)) r) ∧ gOk f pp ee tE tN b (env ++ [d.1 + 2]) ty := hg
        obtain ⟨hy, ⟨rr, hf, ga⟩, gb⟩ := hg
        have q1 : 1 ≤ d.2.1 := r1.1 rfl
        have fm : yM1 (tN (d.1 + 2)) = 0 := by
          have := (gFn_t (tN := tN) (r := rr) d.2.1 (d.1 + 3) 0 (by omega)).1
          have this : yIs (gFn tN d.2.1 (d.1 + 3) rr) := this
          rw [← hf] at this
          have hk := yIs_k this
          unfold yM1 gMs
          rw [hk]
          rfl
        have e1 : mSd tN (env ++ [d.1 + 2]) = mSd tN env := by rw [mSd_1, fm]; rfl
        have i1 := Ia 0 wa r1.2.1 (env ++ ([d.1 + 2] ++ List.range' (d.1 + 3) d.2.1)) _ y ga
        have i2 := Ib 0 wb r1.2.2 (env ++ [d.1 + 2]) _ y gb
        have e2 : mSd tN (env ++ ([d.1 + 2] ++ List.range' (d.1 + 3) d.2.1)) = mSd tN env + yPm tN d.2.1 (d.1 + 3) := by rw [← List.append_assoc, mSd_ap, e1, mSd_pm]
        rw [e2] at i1
        rw [e1] at i2
        have t1 := tp (tE d.1) (mSd tN env) 0
        have t2 := tp (tN (d.1 + 2)) (mSd tN env) d.2.1
        show tpC xs (tE d.1) (mSd tN env) 0 99 + tpC xs (tN (d.1 + 2)) (mSd tN env) d.2.1 99 + 0 + gTc f pp ee tE tN xs a (env ++ ([d.1 + 2] ++ List.range' (d.1 + 3) d.2.1)) y (mSd tN env + yPm tN d.2.1 (d.1 + 3)) 99 + 0 + gTc f pp ee tE tN xs b (env ++ [d.1 + 2]) y (mSd tN env) 99 + 0 ≤ 6 * sYs (((2 * d.1, tE d.1, []), mSd tN env) :: ((2 * d.1 + 1, tN (d.1 + 2), List.range' (d.1 + 3) d.2.1), mSd tN env) :: (tLc tE tN a (env ++ ([d.1 + 2] ++ List.range' (d.1 + 3) d.2.1)) ++ tLc tE tN b (env ++ [d.1 + 2])))
        rw [sYs_c, sYs_c, sYs_a]
        show _ ≤ 6 * (yS (tE d.1) (mSd tN env) + (yS (tN (d.1 + 2)) (mSd tN env) + _))
        omega
      · have hg : tE d.1 = ty ∧ ∃ r, ty = yA (tN (d.1 + 1)) r ∧ gOk f pp ee tE tN a (env ++ [d.1 + 1]) r := hg
        obtain ⟨hy, r, hr, ga⟩ := hg
        have i1 := Ia 0 wa r1.2.1 (env ++ [d.1 + 1]) _ y ga
        rw [mSd_1] at i1
        have t1 := tp (tE d.1) (mSd tN env) 1
        show tpC xs (tE d.1) (mSd tN env) 1 99 + 0 + gTc f pp ee tE tN xs a (env ++ [d.1 + 1]) y (mSd tN env + yM1 (tN (d.1 + 1))) 99 + 0 ≤ 6 * sYs (((2 * d.1, tE d.1, [d.1 + 1]), mSd tN env) :: tLc tE tN a (env ++ [d.1 + 1]))
        rw [sYs_c]
        show _ ≤ 6 * (yS (tE d.1) (mSd tN env) + _)
        omega
      · have hg : tE d.1 = ty ∧ gCk f pp ee tN env a ∧ gOk f pp ee tE tN b env ty := hg
        have i2 := Ib 1 wb r1.2.2 env _ (tE d.1) hg.2.2
        have t1 := tp (tE d.1) (mSd tN env) 0
        show tpC xs (tE d.1) (mSd tN env) 0 99 + 0 + gTc f pp ee tE tN xs b env (tE d.1) (mSd tN env) 99 ≤ 6 * sYs (((2 * d.1, tE d.1, []), mSd tN env) :: tLc tE tN b env)
        rw [sYs_c]
        show _ ≤ 6 * (yS (tE d.1) (mSd tN env) + _)
        omega
      · have hg : gCk f pp ee tN env a ∧ gOk f pp ee tE tN b env ty := hg
        have i2 := Ib 0 wb r1.2.2 env _ y hg.2
        show 0 + 0 + gTc f pp ee tE tN xs b env y (mSd tN env) 99 ≤ 6 * sYs (tLc tE tN b env)
        omega
      · have i2 := Ia 0 wa r1.2.1 env _ y hg.2.2
        show 0 + gTc f pp ee tE tN xs a env y (mSd tN env) 99 ≤ 6 * sYs (tLc tE tN a env)
        omega
      · rcases h7 with rfl | rfl <;> exact Nat.zero_le _
      · rcases h7 with rfl | rfl | rfl <;> exact Nat.zero_le _
      · rcases h7 with rfl | rfl | rfl <;> exact Nat.zero_le _
      · exact Nat.zero_le _
      · exact Ia 2 wa r1.2.1 env _ (tN (gNu f pp ee env d.1)) hg.2
      · exact Ia 0 wa r1.2.1 env _ y hg
      · exact Nat.zero_le _
      · have hg : tE d.1 = ty ∧ tN (gNu f pp ee env (d.1 + 1)) = yB 3 ∧ (tN d.2.1 = yB 0 ∧ tN (d.2.1 + 1) = yB 3) ∧ gOk f pp ee tE tN a env ty ∧ gOk f pp ee tE tN b (env ++ [d.2.1, d.2.1 + 1]) ty := hg
        have i1 := Ia 0 wa r1.2.1 env _ y hg.2.2.2.1
        have i2 := Ib 0 wb r1.2.2 (env ++ [d.2.1, d.2.1 + 1]) _ y hg.2.2.2.2
        have e2 : mSd tN (env ++ [d.2.1, d.2.1 + 1]) = mSd tN env + 2 := by
          rw [show env ++ [d.2.1, d.2.1 + 1] = (env ++ [d.2.1]) ++ [d.2.1 + 1] by rw [List.append_assoc]; rfl, mSd_1, mSd_1, hg.2.2.1.1, hg.2.2.1.2]
          rfl
        rw [e2] at i2
        have t1 := tp (tE d.1) (mSd tN env) 0
        show tpC xs (tE d.1) (mSd tN env) 0 99 + 0 + gTc f pp ee tE tN xs a env y (mSd tN env) 99 + 0 + 0 + 0 + gTc f pp ee tE tN xs b (env ++ [d.2.1, d.2.1 + 1]) y (mSd tN env + 2) 99 + 0 ≤ 6 * sYs (((2 * d.1, tE d.1, []), mSd tN env) :: (tLc tE tN a env ++ tLc tE tN b (env ++ [d.2.1, d.2.1 + 1])))
        rw [sYs_c, sYs_a]
        show _ ≤ 6 * (yS (tE d.1) (mSd tN env) + _)
        omega
set_option maxHeartbeats 1000000 in
/-- they are the TEMPLATES, and units; functions have a NAME less -/
theorem tLc_u {L : List Nat} (h0 : yK (tN 0) ≠ 1) : ∀ (t : tT) (l : Nat), tWf kk cnt t l → tR1 t → ∀ env ty, gOk f pp ee tE tN t env ty → rEv L t env → (tLc tE tN t env).map Prod.fst = tLs tE tN t ∧ ∀ x, x ∈ tLc tE tN t env → ((0, x.1.1), x.2) ∈ gUn tN t env ∧ x.2 ≤ 12 ∧ (yK x.1.2.1 = 1 → x.2 ≤ 11)
  | .leaf, _, _, _, _, _, _, _ => ⟨rfl, fun x hx => by cases hx⟩
  | .inner g d z a b, l, wf, r1, env, ty, hg, hev => by
    have Ia := tLc_u (L := L) h0 a
    have Ib := tLc_u (L := L) h0 b
    have e12 : env.length ≤ 12 := hev.1.1
    have m12 : mSd tN env ≤ 12 := Nat.le_trans (mSd_le tN env) e12
    rcases wf with ⟨rfl, rfl, _, wa, wb⟩ | ⟨rfl, _, wb, w⟩ | ⟨_, w⟩
    · have hg : gOk f pp ee tE tN a env ty ∧ gOk f pp ee tE tN b env ty := hg
      have hev : rEv L a env ∧ rEv L b env := hev.2
      obtain ⟨a1, a2⟩ := Ia 0 wa r1.2.1 env _ hg.1 hev.1
      obtain ⟨b1, b2⟩ := Ib 0 wb r1.2.2 env _ hg.2 hev.2
      refine ⟨by show (tLc tE tN a env ++ tLc tE tN b env).map Prod.fst = tLs tE tN a ++ tLs tE tN b; rw [List.map_append, a1, b1], fun x hx => ?_⟩
      have hx : x ∈ tLc tE tN a env ++ tLc tE tN b env := hx
      rcases List.mem_append.mp hx with hx | hx
      · exact ⟨List.mem_append_left _ (a2 x hx).1, (a2 x hx).2⟩
      · exact ⟨List.mem_append_right _ (b2 x hx).1, (b2 x hx).2⟩
    · rcases w with ⟨rfl, _, ha⟩ | ⟨rfl, _, wa⟩ | ⟨rfl, _, ha, _⟩
      · have hev : rEv L a env ∧ rEv L b env := hev.2
        exact Ib 2 wb r1.2.2 env _ hg.2.2 hev.2
      · have hg : yIs ty ∧ gOk f pp ee tE tN a env (yL ty) ∧ gOk f pp ee tE tN b env (yR ty) := hg
        have hev : rEv L a env ∧ rEv L b env := hev.2
        obtain ⟨a1, a2⟩ := Ia 0 wa r1.2.1 env _ hg.2.1 hev.1
        obtain ⟨b1, b2⟩ := Ib 2 wb r1.2.2 env _ hg.2.2 hev.2
        refine ⟨by show (tLc tE tN a env ++ tLc tE tN b env).map Prod.fst = tLs tE tN a ++ tLs tE tN b; rw [List.map_append, a1, b1], fun x hx => ?_⟩
        have hx : x ∈ tLc tE tN a env ++ tLc tE tN b env := hx
        rcases List.mem_append.mp hx with hx | hx
        · exact ⟨List.mem_append_left _ (a2 x hx).1, (a2 x hx).2⟩
        · exact ⟨List.mem_append_right _ (b2 x hx).1, (b2 x hx).2⟩
      · have hev : rEv L a env ∧ rEv L b env := hev.2
        exact Ib 2 wb r1.2.2 env _ hg.2.2 hev.2
    · rcases w with ⟨rfl, _, wa, wb⟩ | ⟨rfl, ⟨w1, w2, _⟩, wa, wb⟩ | ⟨rfl, _, wa⟩ | ⟨rfl, wc, wb⟩ | ⟨rfl, wc, wb⟩ | ⟨rfl, _, _, wa⟩ | ⟨h7, _, _, hab⟩ | ⟨h7, _, hab⟩ | ⟨h7, _, hab⟩ | ⟨rfl, _⟩ | ⟨rfl, _, wa⟩ | ⟨rfl, _, wa, hb⟩ | ⟨rfl, _⟩ | ⟨rfl, _, wa, wb⟩
      · have hg : tE d.1 = ty ∧ gOk f pp ee tE tN a env (tN (d.1 + 1)) ∧ gOk f pp ee tE tN b (env ++ [d.1 + 1]) ty := hg
        have hev : rEv L a env ∧ rEv L b (env ++ [d.1 + 1]) := hev.2
        have l12 := rEv_l wb hev.2
        rw [List.length_append, List.length_singleton] at l12
        have ml := mSd_le tN env
        obtain ⟨a1, a2⟩ := Ia 0 wa r1.2.1 env _ hg.2.1 hev.1
        obtain ⟨b1, b2⟩ := Ib 0 wb r1.2.2 _ _ hg.2.2 hev.2
        refine ⟨by show (((2 * d.1, tE d.1, []), mSd tN env) :: (tLc tE tN a env ++ tLc tE tN b (env ++ [d.1 + 1]))).map Prod.fst = (2 * d.1, tE d.1, []) :: (tLs tE tN a ++ tLs tE tN b); rw [List.map_cons, List.map_append, a1, b1], fun x hx => ?_⟩
        have hx : x ∈ ((2 * d.1, tE d.1, []), mSd tN env) :: (tLc tE tN a env ++ tLc tE tN b (env ++ [d.1 + 1])) := hx
        rcases List.mem_cons.mp hx with hx | hx
        · rw [hx]
          exact ⟨List.mem_cons_self .., m12, fun _ => by show mSd tN env ≤ 11; omega⟩
        · rcases List.mem_append.mp hx with hx | hx
          · exact ⟨List.mem_cons_of_mem _ (List.mem_append_left _ (a2 x hx).1), (a2 x hx).2⟩
          · exact ⟨List.mem_cons_of_mem _ (List.mem_append_right _ (b2 x hx).1), (b2 x hx).2⟩
      · have hg : tE d.1 = ty ∧ (∃ r, tN (d.1 + 2) = gFn tN d.2.1 (d.1 + 3) r ∧ gOk f pp ee tE tN a (env ++ ([d.1 + 2] ++ List.range' (d.1 + 3) d.2.1)) r) ∧ gOk f pp ee tE tN b (env ++ [d.1 + 2]) ty := hg
        obtain ⟨hy, ⟨rr, hf, ga⟩, gb⟩ := hg
        have hev : rEv L a (env ++ ([d.1 + 2] ++ List.range' (d.1 + 3) d.2.1)) ∧ rEv L b (env ++ [d.1 + 2]) := hev.2
        have l12 := rEv_l wb hev.2
        rw [List.length_append, List.length_singleton] at l12
        have ml := mSd_le tN env
        obtain ⟨a1, a2⟩ := Ia 0 wa r1.2.1 _ _ ga hev.1
        obtain ⟨b1, b2⟩ := Ib 0 wb r1.2.2 _ _ gb hev.2
        refine ⟨by show (((2 * d.1, tE d.1, []), mSd tN env) :: ((2 * d.1 + 1, tN (d.1 + 2), List.range' (d.1 + 3) d.2.1), mSd tN env) :: (tLc tE tN a (env ++ ([d.1 + 2] ++ List.range' (d.1 + 3) d.2.1)) ++ tLc tE tN b (env ++ [d.1 + 2]))).map Prod.fst = (2 * d.1, tE d.1, []) :: (2 * d.1 + 1, tN (d.1 + 2), List.range' (d.1 + 3) d.2.1) :: (tLs tE tN a ++ tLs tE tN b); rw [List.map_cons, List.map_cons, List.map_append, a1, b1], fun x hx => ?_⟩
        have hx : x ∈ ((2 * d.1, tE d.1, []), mSd tN env) :: ((2 * d.1 + 1, tN (d.1 + 2), List.range' (d.1 + 3) d.2.1), mSd tN env) :: (tLc tE tN a (env ++ ([d.1 + 2] ++ List.range' (d.1 + 3) d.2.1)) ++ tLc tE tN b (env ++ [d.1 + 2])) := hx
        rcases List.mem_cons.mp hx with hx | hx
        · rw [hx]
          exact ⟨List.mem_cons_self .., m12, fun _ => by show mSd tN env ≤ 11; omega⟩
        · rcases List.mem_cons.mp hx with hx | hx
          · rw [hx]
            exact ⟨List.mem_cons_of_mem _ (List.mem_cons_self ..), m12, fun _ => by show mSd tN env ≤ 11; omega⟩
          · rcases List.mem_append.mp hx with hx | hx
            · exact ⟨List.mem_cons_of_mem _ (List.mem_cons_of_mem _ (List.mem_append_right _ (List.mem_append_left _ (a2 x hx).1))), (a2 x hx).2⟩
            · exact ⟨List.mem_cons_of_mem _ (List.mem_cons_of_mem _ (List.mem_append_right _ (List.mem_append_right _ (b2 x hx).1))), (b2 x hx).2⟩
      · have hg : tE d.1 = ty ∧ ∃ r, ty = yA (tN (d.1 + 1)) r ∧ gOk f pp ee tE tN a (env ++ [d.1 + 1]) r := hg
        obtain ⟨hy, r, hr, ga⟩ := hg
        have hev : rEv L a (env ++ [d.1 + 1]) := hev.2
        have l12 := rEv_l wa hev
        rw [List.length_append, List.length_singleton] at l12
        have ml := mSd_le tN env
        obtain ⟨a1, a2⟩ := Ia 0 wa r1.2.1 _ _ ga hev
        refine ⟨by show (((2 * d.1, tE d.1, [d.1 + 1]), mSd tN env) :: tLc tE tN a (env ++ [d.1 + 1])).map Prod.fst = (2 * d.1, tE d.1, [d.1 + 1]) :: tLs tE tN a; rw [List.map_cons, a1], fun x hx => ?_⟩
        have hx : x ∈ ((2 * d.1, tE d.1, [d.1 + 1]), mSd tN env) :: tLc tE tN a (env ++ [d.1 + 1]) := hx
        rcases List.mem_cons.mp hx with hx | hx
        · rw [hx]
          exact ⟨List.mem_cons_self .., m12, fun _ => by show mSd tN env ≤ 11; omega⟩
        · exact ⟨List.mem_cons_of_mem _ (List.mem_cons_of_mem _ (a2 x hx).1), (a2 x hx).2⟩
      · have hg : tE d.1 = ty ∧ gCk f pp ee tN env a ∧ gOk f pp ee tE tN b env ty := hg
        have hev : rEv L b env := hev.2
        obtain ⟨b1, b2⟩ := Ib 1 wb r1.2.2 env _ hg.2.2 hev
        refine ⟨by show (((2 * d.1, tE d.1, []), mSd tN env) :: tLc tE tN b env).map Prod.fst = (2 * d.1, tE d.1, []) :: tLs tE tN b; rw [List.map_cons, b1], fun x hx => ?_⟩
        have hx : x ∈ ((2 * d.1, tE d.1, []), mSd tN env) :: tLc tE tN b env := hx
        rcases List.mem_cons.mp hx with hx | hx
        · rw [hx]
          exact ⟨List.mem_cons_self .., m12, fun hk => ok_11 h0 b 1 (by decide) wb env ty hg.2.2 hev (by rw [← hg.1]; exact hk)⟩
        · exact ⟨List.mem_cons_of_mem _ (b2 x hx).1, (b2 x hx).2⟩
      · have hg : gCk f pp ee tN env a ∧ gOk f pp ee tE tN b env ty := hg
        have hev : rEv L b env := hev.2
        exact Ib 0 wb r1.2.2 env _ hg.2 hev
      · have hev : rEv L a env ∧ rEv L b env := hev.2
        exact Ia 0 wa r1.2.1 env _ hg.2.2 hev.1
      · rcases h7 with rfl | rfl <;> exact ⟨rfl, fun x hx => by cases hx⟩
      · rcases h7 with rfl | rfl | rfl <;> exact ⟨rfl, fun x hx => by cases hx⟩
      · rcases h7 with rfl | rfl | rfl <;> exact ⟨rfl, fun x hx => by cases hx⟩
      · exact ⟨rfl, fun x hx => by cases hx⟩
      · have hev : rEv L a env ∧ rEv L b env := hev.2
        exact Ia 2 wa r1.2.1 env _ hg.2 hev.1
      · have hev : rEv L a env ∧ rEv L b env := hev.2
        exact Ia 0 wa r1.2.1 env _ hg hev.1
      · exact ⟨rfl, fun x hx => by cases hx⟩
      · have hg : tE d.1 = ty ∧ tN (gNu f pp ee env (d.1 + 1)) = yB 3 ∧ (tN d.2.1 = yB 0 ∧ tN (d.2.1 + 1) = yB 3) ∧ gOk f pp ee tE tN a env ty ∧ gOk f pp ee tE tN b (env ++ [d.2.1, d.2.1 + 1]) ty := hg
        have hev : rEv L a env ∧ rEv L b (env ++ [d.2.1, d.2.1 + 1]) := hev.2
        obtain ⟨a1, a2⟩ := Ia 0 wa r1.2.1 env _ hg.2.2.2.1 hev.1
        obtain ⟨b1, b2⟩ := Ib 0 wb r1.2.2 _ _ hg.2.2.2.2 hev.2
        refine ⟨by show (((2 * d.1, tE d.1, []), mSd tN env) :: (tLc tE tN a env ++ tLc tE tN b (env ++ [d.2.1, d.2.1 + 1]))).map Prod.fst = (2 * d.1, tE d.1, []) :: (tLs tE tN a ++ tLs tE tN b); rw [List.map_cons, List.map_append, a1, b1], fun x hx => ?_⟩
        have hx : x ∈ ((2 * d.1, tE d.1, []), mSd tN env) :: (tLc tE tN a env ++ tLc tE tN b (env ++ [d.2.1, d.2.1 + 1])) := hx
        rcases List.mem_cons.mp hx with hx | hx
        · rw [hx]
          exact ⟨List.mem_cons_self .., m12, fun hk => ok_11 h0 a 0 (by decide) wa env ty hg.2.2.2.1 hev.1 (by rw [← hg.1]; exact hk)⟩
        · rcases List.mem_append.mp hx with hx | hx
          · exact ⟨List.mem_cons_of_mem _ (List.mem_append_left _ (a2 x hx).1), (a2 x hx).2⟩
          · exact ⟨List.mem_cons_of_mem _ (List.mem_append_right _ (b2 x hx).1), (b2 x hx).2⟩
end GTI
