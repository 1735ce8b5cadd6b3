/-! CAPACITIES: units are no larger than TEMPLATES; sums over TEMPLATES -/
section GUL
variable {f pp ee : Nat → Int32} {tE tN : Nat → tY} {kk : Nat → Int32} {cnt N : Nat}
theorem gFn_lv {r : tY} : ∀ (q w i : Nat), i < q → yLv (tN (w + i)) ≤ yLv (gFn tN q w r)
  | 0, _, _, h => absurd h (Nat.not_lt_zero _)
  | q + 1, w, 0, _ => by
    show yLv (tN w) ≤ yLv (tN w) + yLv (gFn tN q (w + 1) r)
    omega
  | q + 1, w, i + 1, h => by
    have := gFn_lv (r := r) q (w + 1) i (by omega)
    rw [show w + 1 + i = w + (i + 1) by omega] at this
    show yLv (tN (w + (i + 1))) ≤ yLv (tN w) + yLv (gFn tN q (w + 1) r)
    omega
set_option maxHeartbeats 1000000 in
theorem gUn_le : ∀ (t : tT) (l : Nat) (env : List Nat) (y : tY), tWf kk cnt t l → gOk f pp ee tE tN t env y → (∀ x, x ∈ tLs tE tN t → yLv x.2.1 ≤ N) → ∀ x, x ∈ gUn tN t env → yLv (uY tE tN x.1) ≤ N ∧ ((∃ w, w ∈ tTg t ∧ uY tE tN x.1 = tE w) ∨ ∃ u, u ∈ tW t ∧ uY tE tN x.1 = tN u)
  | .leaf, _, _, _, _, _, _ => fun x hx => by cases hx
  | .inner g d z a b, l, env, y, wf, hg, hN => by
    have Ia := gUn_le a
    have Ib := gUn_le b
    intro x hx
    have TG : ∀ {w}, (g = 1 ∨ g = 2 ∨ g = 3 ∨ g = 4 ∨ g = 19) → w = d.1 → w ∈ tTg (.inner g d z a b) := fun {w} h e => by
      show w ∈ (if g = 1 ∨ g = 2 ∨ g = 3 ∨ g = 4 ∨ g = 19 then [d.1] else []) ++ _
      rw [if_pos h, e]
      exact List.mem_append_left _ (List.mem_singleton_self _)
    have TA : ∀ {w}, ¬ (g = 4 ∨ g = 5 ∨ g = 33) → w ∈ tTg a → w ∈ tTg (.inner g d z a b) := fun {w} h e => by
      show w ∈ _ ++ ((if g = 4 ∨ g = 5 ∨ g = 33 then [] else tTg a) ++ tTg b)
      rw [if_neg h]
      exact List.mem_append_right _ (List.mem_append_left _ e)
    have TB : ∀ {w}, w ∈ tTg b → w ∈ tTg (.inner g d z a b) := fun {w} e => List.mem_append_right _ (List.mem_append_right _ e)
    rcases wf with ⟨rfl, rfl, _, wa, wb⟩ | ⟨rfl, _, wb, w⟩ | ⟨_, w⟩
    · have hg : gOk f pp ee tE tN a env y ∧ gOk f pp ee tE tN b env y := hg
      have hN : ∀ x, x ∈ tLs tE tN a ++ tLs tE tN b → yLv x.2.1 ≤ N := hN
      have hx : x ∈ gUn tN a env ++ gUn tN b env := hx
      rcases List.mem_append.mp hx with hx | hx
      · obtain ⟨h1, h2⟩ := Ia 0 env y wa hg.1 (fun x hx => hN x (List.mem_append_left _ hx)) x hx
        exact ⟨h1, h2.imp (fun ⟨w, q1, q2⟩ => ⟨w, TA (by decide) q1, q2⟩) (fun ⟨u, q1, q2⟩ => ⟨u, List.mem_append_left _ q1, q2⟩)⟩
      · obtain ⟨h1, h2⟩ := Ib 0 env y wb hg.2 (fun x hx => hN x (List.mem_append_right _ hx)) x hx
        exact ⟨h1, h2.imp (fun ⟨w, q1, q2⟩ => ⟨w, TB q1, q2⟩) (fun ⟨u, q1, q2⟩ => ⟨u, List.mem_append_right _ q1, q2⟩)⟩
    · rcases w with ⟨rfl, _, ha⟩ | ⟨rfl, _, wa⟩ | ⟨rfl, _, ha, _⟩
      · subst ha
        have hg : gOk f pp ee tE tN b env (yR y) := hg.2.2
        obtain ⟨h1, h2⟩ := Ib 2 env _ wb hg hN x hx
        exact ⟨h1, h2.imp (fun ⟨w, q1, q2⟩ => ⟨w, TB q1, q2⟩) (fun ⟨u, q1, q2⟩ => ⟨u, List.mem_append_right _ q1, q2⟩)⟩
      · have hg : yIs y ∧ gOk f pp ee tE tN a env (yL y) ∧ gOk f pp ee tE tN b env (yR y) := hg
        have hN : ∀ x, x ∈ tLs tE tN a ++ tLs tE tN b → yLv x.2.1 ≤ N := hN
        have hx : x ∈ gUn tN a env ++ gUn tN b env := hx
        rcases List.mem_append.mp hx with hx | hx
        · obtain ⟨h1, h2⟩ := Ia 0 env _ wa hg.2.1 (fun x hx => hN x (List.mem_append_left _ hx)) x hx
          exact ⟨h1, h2.imp (fun ⟨w, q1, q2⟩ => ⟨w, TA (by decide) q1, q2⟩) (fun ⟨u, q1, q2⟩ => ⟨u, List.mem_append_left _ q1, q2⟩)⟩
        · obtain ⟨h1, h2⟩ := Ib 2 env _ wb hg.2.2 (fun x hx => hN x (List.mem_append_right _ hx)) x hx
          exact ⟨h1, h2.imp (fun ⟨w, q1, q2⟩ => ⟨w, TB q1, q2⟩) (fun ⟨u, q1, q2⟩ => ⟨u, List.mem_append_right _ q1, q2⟩)⟩
      · subst ha
        have hg : gOk f pp ee tE tN b env (yR y) := hg.2.2
        obtain ⟨h1, h2⟩ := Ib 2 env _ wb hg hN x hx
        exact ⟨h1, h2.imp (fun ⟨w, q1, q2⟩ => ⟨w, TB q1, q2⟩) (fun ⟨u, q1, q2⟩ => ⟨u, List.mem_append_right _ q1, q2⟩)⟩
    · rcases w with ⟨rfl, _, wa, wb⟩ | ⟨rfl, ⟨w1, w2, _⟩, wa, wb⟩ | ⟨rfl, _, wa⟩ | ⟨rfl, wc, wb⟩ | ⟨rfl, wc, wb⟩ | ⟨rfl, _, _, wa⟩ | ⟨h7, _, _, hab⟩ | ⟨h7, _, hab⟩ | ⟨h7, _, hab⟩ | ⟨rfl, _⟩ | ⟨rfl, _, wa⟩ | ⟨rfl, _, wa, hb⟩ | ⟨rfl, _⟩ | ⟨rfl, _, wa, wb⟩
      · -- let
        have hg : tE d.1 = y ∧ gOk f pp ee tE tN a env (tN (d.1 + 1)) ∧ gOk f pp ee tE tN b (env ++ [d.1 + 1]) y := hg
        have hN : ∀ x, x ∈ (2 * d.1, tE d.1, ([] : List Nat)) :: (tLs tE tN a ++ tLs tE tN b) → yLv x.2.1 ≤ N := hN
        have hx : x ∈ (((0, 2 * d.1) : Nat × Nat), mSd tN env) :: (gUn tN a env ++ gUn tN b (env ++ [d.1 + 1])) := hx
        rcases List.mem_cons.mp hx with hx | hx
        · rw [hx]
          show yLv (uY tE tN (0, 2 * d.1)) ≤ N ∧ _
          rw [uY_t]
          exact ⟨hN _ (List.mem_cons_self ..), Or.inl ⟨d.1, TG (by omega) rfl, rfl⟩⟩
        · rcases List.mem_append.mp hx with hx | hx
          · obtain ⟨h1, h2⟩ := Ia 0 env _ wa hg.2.1 (fun x hx => hN x (List.mem_cons_of_mem _ (List.mem_append_left _ hx))) x hx
            exact ⟨h1, h2.imp (fun ⟨w, q1, q2⟩ => ⟨w, TA (by decide) q1, q2⟩) (fun ⟨u, q1, q2⟩ => ⟨u, List.mem_cons_of_mem _ (List.mem_append_left _ q1), q2⟩)⟩
          · obtain ⟨h1, h2⟩ := Ib 0 _ _ wb hg.2.2 (fun x hx => hN x (List.mem_cons_of_mem _ (List.mem_append_right _ hx))) x hx
            exact ⟨h1, h2.imp (fun ⟨w, q1, q2⟩ => ⟨w, TB q1, q2⟩) (fun ⟨u, q1, q2⟩ => ⟨u, List.mem_cons_of_mem _ (List.mem_append_right _ q1), q2⟩)⟩
      · -- let rec
        have hg : tE d.1 = y ∧ (∃ r, tN (d.1 + 2) = gFn tN d.2.1 (d.1 + 3) r ∧ gOk f pp ee tE tN a (env ++ ([d.1 + 2] ++ List.range' (d.1 + 3) d.2.1)) r) ∧ gOk f pp ee tE tN b (env ++ [d.1 + 2]) y := hg
        obtain ⟨hy, ⟨rr, hf, ga⟩, gb⟩ := hg
        have hN : ∀ x, x ∈ (2 * d.1, tE d.1, ([] : List Nat)) :: (2 * d.1 + 1, tN (d.1 + 2), List.range' (d.1 + 3) d.2.1) :: (tLs tE tN a ++ tLs tE tN b) → yLv x.2.1 ≤ N := hN
        have hx : x ∈ (((0, 2 * d.1) : Nat × Nat), mSd tN env) :: (((0, 2 * d.1 + 1) : Nat × Nat), mSd tN env) :: ((List.range d.2.1).map (fun i => (((1, d.1 + 3 + i) : Nat × Nat), mSd tN (env ++ ([d.1 + 2] ++ List.range' (d.1 + 3) i)))) ++ (gUn tN a (env ++ ([d.1 + 2] ++ List.range' (d.1 + 3) d.2.1)) ++ gUn tN b (env ++ [d.1 + 2]))) := hx
        have hNf : yLv (tN (d.1 + 2)) ≤ N := hN (2 * d.1 + 1, tN (d.1 + 2), List.range' (d.1 + 3) d.2.1) (List.mem_cons_of_mem _ (List.mem_cons_self ..))
        rcases List.mem_cons.mp hx with hx | hx
        · rw [hx]
          show yLv (uY tE tN (0, 2 * d.1)) ≤ N ∧ _
          rw [uY_t]
          exact ⟨hN _ (List.mem_cons_self ..), Or.inl ⟨d.1, TG (by omega) rfl, rfl⟩⟩
        · rcases List.mem_cons.mp hx with hx | hx
          · rw [hx]
            show yLv (uY tE tN (0, 2 * d.1 + 1)) ≤ N ∧ _
            rw [uY_f]
            exact ⟨hNf, Or.inr ⟨d.1 + 2, List.mem_cons_self .., rfl⟩⟩
          · rcases List.mem_append.mp hx with hx | hx
            · obtain ⟨i, hi, e⟩ := List.mem_map.mp hx
              have hi := List.mem_range.mp hi
              rw [← e]
              show yLv (tN (d.1 + 3 + i)) ≤ N ∧ _
              have := gFn_lv (tN := tN) (r := rr) d.2.1 (d.1 + 3) i hi
              rw [← hf] at this
              refine ⟨Nat.le_trans this hNf, Or.inr ⟨d.1 + 3 + i, List.mem_cons_of_mem _ (List.mem_append_left _ ?_), rfl⟩⟩
              rw [List.mem_range'_1]
              omega
            · rcases List.mem_append.mp hx with hx | hx
              · obtain ⟨h1, h2⟩ := Ia 0 _ _ wa ga (fun x hx => hN x (List.mem_cons_of_mem _ (List.mem_cons_of_mem _ (List.mem_append_left _ hx)))) x hx
                exact ⟨h1, h2.imp (fun ⟨w, q1, q2⟩ => ⟨w, TA (by decide) q1, q2⟩) (fun ⟨u, q1, q2⟩ => ⟨u, List.mem_cons_of_mem _ (List.mem_append_right _ (List.mem_append_left _ q1)), q2⟩)⟩
              · obtain ⟨h1, h2⟩ := Ib 0 _ _ wb gb (fun x hx => hN x (List.mem_cons_of_mem _ (List.mem_cons_of_mem _ (List.mem_append_right _ hx)))) x hx
                exact ⟨h1, h2.imp (fun ⟨w, q1, q2⟩ => ⟨w, TB q1, q2⟩) (fun ⟨u, q1, q2⟩ => ⟨u, List.mem_cons_of_mem _ (List.mem_append_right _ (List.mem_append_right _ q1)), q2⟩)⟩
      · -- fun
        have hg : tE d.1 = y ∧ ∃ r, y = yA (tN (d.1 + 1)) r ∧ gOk f pp ee tE tN a (env ++ [d.1 + 1]) r := hg
        obtain ⟨hy, rr, hyr, ga⟩ := hg
        have hN : ∀ x, x ∈ (2 * d.1, tE d.1, [d.1 + 1]) :: tLs tE tN a → yLv x.2.1 ≤ N := hN
        have hx : x ∈ (((0, 2 * d.1) : Nat × Nat), mSd tN env) :: (((1, d.1 + 1) : Nat × Nat), mSd tN env) :: gUn tN a (env ++ [d.1 + 1]) := hx
        have hNf : yLv (tE d.1) ≤ N := hN (2 * d.1, tE d.1, [d.1 + 1]) (List.mem_cons_self ..)
        rcases List.mem_cons.mp hx with hx | hx
        · rw [hx]
          show yLv (uY tE tN (0, 2 * d.1)) ≤ N ∧ _
          rw [uY_t]
          exact ⟨hNf, Or.inl ⟨d.1, TG (by omega) rfl, rfl⟩⟩
        · rcases List.mem_cons.mp hx with hx | hx
          · rw [hx]
            show yLv (tN (d.1 + 1)) ≤ N ∧ _
            rw [hy, hyr] at hNf
            have hNf : yLv (tN (d.1 + 1)) + yLv rr ≤ N := hNf
            exact ⟨by omega, Or.inr ⟨d.1 + 1, List.mem_cons_self .., rfl⟩⟩
          · obtain ⟨h1, h2⟩ := Ia 0 _ _ wa ga (fun x hx => hN x (List.mem_cons_of_mem _ hx)) x hx
            exact ⟨h1, h2.imp (fun ⟨w, q1, q2⟩ => ⟨w, TA (by decide) q1, q2⟩) (fun ⟨u, q1, q2⟩ => ⟨u, List.mem_cons_of_mem _ q1, q2⟩)⟩
      · -- if
        have hg : tE d.1 = y ∧ gCk f pp ee tN env a ∧ gOk f pp ee tE tN b env y := hg
        have hN : ∀ x, x ∈ (2 * d.1, tE d.1, ([] : List Nat)) :: tLs tE tN b → yLv x.2.1 ≤ N := hN
        have hx : x ∈ (((0, 2 * d.1) : Nat × Nat), mSd tN env) :: gUn tN b env := hx
        rcases List.mem_cons.mp hx with hx | hx
        · rw [hx]
          show yLv (uY tE tN (0, 2 * d.1)) ≤ N ∧ _
          rw [uY_t]
          exact ⟨hN _ (List.mem_cons_self ..), Or.inl ⟨d.1, TG (by omega) rfl, rfl⟩⟩
        · obtain ⟨h1, h2⟩ := Ib 1 _ _ wb hg.2.2 (fun x hx => hN x (List.mem_cons_of_mem _ hx)) x hx
          exact ⟨h1, h2.imp (fun ⟨w, q1, q2⟩ => ⟨w, TB q1, q2⟩) (fun ⟨u, q1, q2⟩ => ⟨u, q1, q2⟩)⟩
      · -- assert
        have hg : gCk f pp ee tN env a ∧ gOk f pp ee tE tN b env y := hg
        obtain ⟨h1, h2⟩ := Ib 0 _ _ wb hg.2 hN x hx
        exact ⟨h1, h2.imp (fun ⟨w, q1, q2⟩ => ⟨w, TB q1, q2⟩) (fun ⟨u, q1, q2⟩ => ⟨u, q1, q2⟩)⟩
      · -- set
        obtain ⟨h1, h2⟩ := Ia 0 _ _ wa hg.2.2 hN x hx
        exact ⟨h1, h2.imp (fun ⟨w, q1, q2⟩ => ⟨w, TA (by decide) q1, q2⟩) (fun ⟨u, q1, q2⟩ => ⟨u, q1, q2⟩)⟩
      · rcases h7 with rfl | rfl <;> cases hx
      · rcases h7 with rfl | rfl | rfl <;> cases hx
      · rcases h7 with rfl | rfl | rfl <;> cases hx
      · cases hx
      · -- a call
        have hg : y = yRs (tQn a) (tN (gNu f pp ee env d.1)) ∧ gOk f pp ee tE tN a env (tN (gNu f pp ee env d.1)) := hg
        obtain ⟨h1, h2⟩ := Ia 2 _ _ wa hg.2 hN x hx
        exact ⟨h1, h2.imp (fun ⟨w, q1, q2⟩ => ⟨w, TA (by decide) q1, q2⟩) (fun ⟨u, q1, q2⟩ => ⟨u, q1, q2⟩)⟩
      · have hg : gOk f pp ee tE tN a env y := hg
        obtain ⟨h1, h2⟩ := Ia 0 _ _ wa hg hN x hx
        exact ⟨h1, h2.imp (fun ⟨w, q1, q2⟩ => ⟨w, TA (by decide) q1, q2⟩) (fun ⟨u, q1, q2⟩ => ⟨u, List.mem_append_left _ q1, q2⟩)⟩
      · cases hx
      · -- match
        have hg : tE d.1 = y ∧ tN (gNu f pp ee env (d.1 + 1)) = yB 3 ∧ (tN d.2.1 = yB 0 ∧ tN (d.2.1 + 1) = yB 3) ∧ gOk f pp ee tE tN a env y ∧ gOk f pp ee tE tN b (env ++ [d.2.1, d.2.1 + 1]) y := hg
        obtain ⟨hy, -, -, ga, gb⟩ := hg
        have hN : ∀ x, x ∈ (2 * d.1, tE d.1, ([] : List Nat)) :: (tLs tE tN a ++ tLs tE tN b) → yLv x.2.1 ≤ N := hN
        have hx : x ∈ (((0, 2 * d.1) : Nat × Nat), mSd tN env) :: (gUn tN a env ++ gUn tN b (env ++ [d.2.1, d.2.1 + 1])) := hx
        rcases List.mem_cons.mp hx with hx | hx
        · rw [hx]
          show yLv (uY tE tN (0, 2 * d.1)) ≤ N ∧ _
          rw [uY_t]
          exact ⟨hN _ (List.mem_cons_self ..), Or.inl ⟨d.1, TG (by omega) rfl, rfl⟩⟩
        · rcases List.mem_append.mp hx with hx | hx
          · obtain ⟨h1, h2⟩ := Ia 0 _ _ wa ga (fun x hx => hN x (List.mem_cons_of_mem _ (List.mem_append_left _ hx))) x hx
            exact ⟨h1, h2.imp (fun ⟨w, q1, q2⟩ => ⟨w, TA (by decide) q1, q2⟩) (fun ⟨u, q1, q2⟩ => ⟨u, List.mem_append_left _ q1, q2⟩)⟩
          · obtain ⟨h1, h2⟩ := Ib 0 _ _ wb gb (fun x hx => hN x (List.mem_cons_of_mem _ (List.mem_append_right _ hx))) x hx
            exact ⟨h1, h2.imp (fun ⟨w, q1, q2⟩ => ⟨w, TB q1, q2⟩) (fun ⟨u, q1, q2⟩ => ⟨u, List.mem_append_right _ (List.mem_append_right _ q1), q2⟩)⟩
end GUL
/-- the largest TEMPLATE -/
def tMx (l : List (Nat × tY × List Nat)) : Nat := l.foldr (fun x n => max (yLv x.2.1) n) 1
section TMX
theorem tMx_c (x : Nat × tY × List Nat) (l : List (Nat × tY × List Nat)) : tMx (x :: l) = max (yLv x.2.1) (tMx l) := rfl
theorem tLv_c (x : Nat × tY × List Nat) (l : List (Nat × tY × List Nat)) : tLv (x :: l) = yLv x.2.1 + tLv l := by
  unfold tLv
  rw [List.map_cons, List.sum_cons]
theorem tMx_1 : ∀ l, 1 ≤ tMx l
  | [] => Nat.le_refl _
  | x :: l => by
    have := tMx_1 l
    rw [tMx_c]
    omega
theorem tMx_le : ∀ (l : List (Nat × tY × List Nat)) (x : Nat × tY × List Nat), x ∈ l → yLv x.2.1 ≤ tMx l
  | [], x, h => by cases h
  | y :: l, x, h => by
    rw [tMx_c]
    rcases List.mem_cons.mp h with h | h
    · rw [h]; omega
    · have := tMx_le l x h
      omega
theorem tLv_ln : ∀ l, l.length ≤ tLv l
  | [] => Nat.zero_le _
  | x :: l => by
    have := tLv_ln l
    have := yLv_pos x.2.1
    rw [tLv_c, List.length_cons]
    omega
theorem tMx_ln : ∀ l, l.length + tMx l ≤ tLv l + 1
  | [] => Nat.le_refl _
  | x :: l => by
    have h1 := tMx_ln l
    have h2 := tLv_ln l
    have := yLv_pos x.2.1
    rw [tLv_c, List.length_cons, tMx_c]
    omega
theorem tSm_b {W : tY → Nat} {P N w1 w0 : Nat} (hW : ∀ y, yLv y ≤ N → W y ≤ w1 * (yLv y * N) + w0) : ∀ l, (∀ x, x ∈ l → yLv x.2.1 ≤ N) → tSm W P l ≤ w1 * (tLv l * N) + l.length * (w0 + P)
  | [], _ => Nat.zero_le _
  | x :: l, h => by
    have i1 := tSm_b (P := P) hW l (fun y hy => h y (List.mem_cons_of_mem _ hy))
    have i2 := hW x.2.1 (h x (List.mem_cons_self ..))
    rw [tSm_c, tLv_c, List.length_cons, Nat.add_mul, Nat.mul_add, Nat.add_mul l.length 1, Nat.one_mul]
    omega
end TMX
