/-! ROOM: calls lie side by side along a unit's type -/
/-- a unit's type, or what a call leaves -/
def chU (tE tN : Nat → tY) (Un : List ((Nat × Nat) × Nat)) (L : List (tY × Nat)) (y : tY) : Prop := (∃ x, x ∈ Un ∧ y = uY tE tN x.1) ∨ ∃ c, c ∈ L ∧ 0 < c.2 ∧ y = yRs c.2 c.1
section CHU
variable {kk f pp ee : Nat → Int32} {cnt : Nat} {tE tN : Nat → tY} {Un : List ((Nat × Nat) × Nat)} {L : List (tY × Nat)}
set_option maxHeartbeats 1000000 in
/-- **a called type is a unit's, or what another call leaves** -/
theorem cv_ch (h0 : yK (tN 0) ≠ 1) : ∀ (t : tT) (l : Nat), tWf kk cnt t l → ∀ (env : List Nat) (y : tY), gOk f pp ee tE tN t env y → (∀ u, u ∈ env → yK (tN u) = 1 → chU tE tN Un L (tN u)) → (∀ x, x ∈ gUn tN t env → x ∈ Un) → (∀ c, c ∈ cvC f pp ee tN t env → c ∈ L) → (∀ c, c ∈ cvC f pp ee tN t env → yK c.1 = 1 → chU tE tN Un L c.1) ∧ (l = 0 → yK y = 1 → chU tE tN Un L y)
  | .leaf, l, h, _, _, _, _, _, _ => ⟨fun c hc => (by cases hc), fun e => by
    have h : l = 2 := h
    omega⟩
  | .inner g d z a b, l, h, env, y, hg, hE, hU, hL => by
    have NAM : ∀ w, yK (tN (gNu f pp ee env w)) = 1 → chU tE tN Un L (tN (gNu f pp ee env w)) := fun w hk => by
      rcases gNu_in (f := f) (pp := pp) (ee := ee) env w with e | e
      · rw [e] at hk; exact absurd hk h0
      · exact hE _ e hk
    have TEM : (((0, 2 * d.1) : Nat × Nat), mSd tN env) ∈ Un → tE d.1 = y → chU tE tN Un L y := fun hm hy => Or.inl ⟨_, hm, by rw [← hy]; exact (uY_t d.1).symm⟩
    have AP : ∀ {us : List Nat}, (∀ u, u ∈ us → yK (tN u) = 1 → chU tE tN Un L (tN u)) → ∀ u, u ∈ env ++ us → yK (tN u) = 1 → chU tE tN Un L (tN u) := fun {us} hu u hm hk => (List.mem_append.mp hm).elim (fun z => hE u z hk) (fun z => hu u z hk)
    rcases h with ⟨rfl, rfl, -, ha, hb⟩ | ⟨rfl, -, hb, h⟩ | ⟨rfl, h⟩
    · have hL : ∀ c, c ∈ cvC f pp ee tN a env ++ cvC f pp ee tN b env → c ∈ L := hL
      have hU : ∀ x, x ∈ gUn tN a env ++ gUn tN b env → x ∈ Un := hU
      have A := (cv_ch h0 a 0 ha env y hg.1 hE (fun x hx => hU x (List.mem_append_left _ hx)) (fun c hc => hL c (List.mem_append_left _ hc))).1
      have B := (cv_ch h0 b 0 hb env y hg.2 hE (fun x hx => hU x (List.mem_append_right _ hx)) (fun c hc => hL c (List.mem_append_right _ hc))).1
      exact ⟨fun c hc => (List.mem_append.mp (show c ∈ cvC f pp ee tN a env ++ cvC f pp ee tN b env from hc)).elim (A c) (B c), fun e => by cases e⟩
    · rcases h with ⟨rfl, -, -⟩ | ⟨rfl, -, ha⟩ | ⟨rfl, -, -, -⟩
      · exact ⟨(cv_ch h0 b 2 hb env _ hg.2.2 hE hU hL).1, fun e => by cases e⟩
      · have hL : ∀ c, c ∈ cvC f pp ee tN a env ++ cvC f pp ee tN b env → c ∈ L := hL
        have hU : ∀ x, x ∈ gUn tN a env ++ gUn tN b env → x ∈ Un := hU
        have A := (cv_ch h0 a 0 ha env _ hg.2.1 hE (fun x hx => hU x (List.mem_append_left _ hx)) (fun c hc => hL c (List.mem_append_left _ hc))).1
        have B := (cv_ch h0 b 2 hb env _ hg.2.2 hE (fun x hx => hU x (List.mem_append_right _ hx)) (fun c hc => hL c (List.mem_append_right _ hc))).1
        exact ⟨fun c hc => (List.mem_append.mp (show c ∈ cvC f pp ee tN a env ++ cvC f pp ee tN b env from hc)).elim (A c) (B c), fun e => by cases e⟩
      · exact ⟨(cv_ch h0 b 2 hb env _ hg.2.2 hE hU hL).1, fun e => by cases e⟩
    · have NO : ∀ k, k ≠ 0 → y = yB k → yK y = 1 → chU tE tN Un L y := fun k _ e hk => by
        rw [e] at hk
        have hk : k + 1 + 1 = 1 := hk
        omega
      rcases h with ⟨rfl, -, ha, hb⟩ | ⟨rfl, -, ha, hb⟩ | ⟨rfl, -, ha⟩ | ⟨rfl, -, hb⟩ | ⟨rfl, -, hb⟩ | ⟨rfl, -, -, ha⟩ | ⟨rfl | rfl, -⟩ | ⟨rfl | rfl | rfl, -⟩ | ⟨rfl | rfl | rfl, -⟩ | ⟨rfl, -⟩ | ⟨rfl, -, ha⟩ | ⟨rfl, -, ha, -⟩ | ⟨rfl, -⟩ | ⟨rfl, -, ha, hb⟩
      · -- let
        have hU : ∀ x, x ∈ (((0, 2 * d.1) : Nat × Nat), mSd tN env) :: (gUn tN a env ++ gUn tN b (env ++ [d.1 + 1])) → x ∈ Un := hU
        have hL : ∀ c, c ∈ cvC f pp ee tN a env ++ cvC f pp ee tN b (env ++ [d.1 + 1]) → c ∈ L := hL
        have hg : tE d.1 = y ∧ gOk f pp ee tE tN a env (tN (d.1 + 1)) ∧ gOk f pp ee tE tN b (env ++ [d.1 + 1]) y := hg
        obtain ⟨A, A'⟩ := cv_ch h0 a 0 ha env _ hg.2.1 hE (fun x hx => hU x (List.mem_cons_of_mem _ (List.mem_append_left _ hx))) (fun c hc => hL c (List.mem_append_left _ hc))
        have B := (cv_ch h0 b 0 hb _ _ hg.2.2 (AP (fun u hu hk => by rw [List.mem_singleton.mp hu] at hk ⊢; exact A' rfl hk)) (fun x hx => hU x (List.mem_cons_of_mem _ (List.mem_append_right _ hx))) (fun c hc => hL c (List.mem_append_right _ hc))).1
        exact ⟨fun c hc => (List.mem_append.mp (show c ∈ cvC f pp ee tN a env ++ cvC f pp ee tN b (env ++ [d.1 + 1]) from hc)).elim (A c) (B c), fun _ _ => TEM (hU _ (List.mem_cons_self ..)) hg.1⟩
      · -- let rec
        have hU : ∀ x, x ∈ (((0, 2 * d.1) : Nat × Nat), mSd tN env) :: (((0, 2 * d.1 + 1) : Nat × Nat), mSd tN env) :: ((List.range d.2.1).map (fun i => (((1, d.1 + 3 + i) : Nat × Nat), mSd tN (env ++ ([d.1 + 2] ++ List.range' (d.1 + 3) i)))) ++ (gUn tN a (env ++ ([d.1 + 2] ++ List.range' (d.1 + 3) d.2.1)) ++ gUn tN b (env ++ [d.1 + 2]))) → x ∈ Un := hU
        have hL : ∀ c, c ∈ cvC f pp ee tN a (env ++ ([d.1 + 2] ++ List.range' (d.1 + 3) d.2.1)) ++ cvC f pp ee tN b (env ++ [d.1 + 2]) → c ∈ L := hL
        have hg : tE d.1 = y ∧ (∃ r, tN (d.1 + 2) = gFn tN d.2.1 (d.1 + 3) r ∧ gOk f pp ee tE tN a (env ++ ([d.1 + 2] ++ List.range' (d.1 + 3) d.2.1)) r) ∧ gOk f pp ee tE tN b (env ++ [d.1 + 2]) y := hg
        obtain ⟨hy, ⟨rr, hf, ga⟩, gb⟩ := hg
        have F : chU tE tN Un L (tN (d.1 + 2)) := Or.inl ⟨_, hU _ (List.mem_cons_of_mem _ (List.mem_cons_self ..)), (uY_f d.1).symm⟩
        have A := (cv_ch h0 a 0 ha _ _ ga (AP (fun u hu _ => by
          rcases List.mem_append.mp hu with z | z
          · rw [List.mem_singleton.mp z]; exact F
          · obtain ⟨i, hi, rfl⟩ := List.mem_range'.mp z
            refine Or.inl ⟨_, hU _ (List.mem_cons_of_mem _ (List.mem_cons_of_mem _ (List.mem_append_left _ (List.mem_map.mpr ⟨i, List.mem_range.mpr hi, rfl⟩)))), ?_⟩
            rw [Nat.one_mul]
            exact (uY_p _).symm)) (fun x hx => hU x (List.mem_cons_of_mem _ (List.mem_cons_of_mem _ (List.mem_append_right _ (List.mem_append_left _ hx))))) (fun c hc => hL c (List.mem_append_left _ hc))).1
        have B := (cv_ch h0 b 0 hb _ _ gb (AP (fun u hu _ => by rw [List.mem_singleton.mp hu]; exact F)) (fun x hx => hU x (List.mem_cons_of_mem _ (List.mem_cons_of_mem _ (List.mem_append_right _ (List.mem_append_right _ hx))))) (fun c hc => hL c (List.mem_append_right _ hc))).1
        exact ⟨fun c hc => (List.mem_append.mp (show c ∈ cvC f pp ee tN a (env ++ ([d.1 + 2] ++ List.range' (d.1 + 3) d.2.1)) ++ cvC f pp ee tN b (env ++ [d.1 + 2]) from hc)).elim (A c) (B c), fun _ _ => TEM (hU _ (List.mem_cons_self ..)) hy⟩
      · -- fun
        have hU : ∀ x, x ∈ (((0, 2 * d.1) : Nat × Nat), mSd tN env) :: (((1, d.1 + 1) : Nat × Nat), mSd tN env) :: gUn tN a (env ++ [d.1 + 1]) → x ∈ Un := hU
        have hg : tE d.1 = y ∧ ∃ r, y = yA (tN (d.1 + 1)) r ∧ gOk f pp ee tE tN a (env ++ [d.1 + 1]) r := hg
        obtain ⟨hy, rr, hyr, ga⟩ := hg
        have A := (cv_ch h0 a 0 ha _ _ ga (AP (fun u hu _ => by rw [List.mem_singleton.mp hu]; exact Or.inl ⟨_, hU _ (List.mem_cons_of_mem _ (List.mem_cons_self ..)), (uY_p _).symm⟩)) (fun x hx => hU x (List.mem_cons_of_mem _ (List.mem_cons_of_mem _ hx))) hL).1
        exact ⟨A, fun _ _ => TEM (hU _ (List.mem_cons_self ..)) hy⟩
      · -- if
        have hU : ∀ x, x ∈ (((0, 2 * d.1) : Nat × Nat), mSd tN env) :: gUn tN b env → x ∈ Un := hU
        have hg : tE d.1 = y ∧ gCk f pp ee tN env a ∧ gOk f pp ee tE tN b env y := hg
        exact ⟨(cv_ch h0 b 1 hb env y hg.2.2 hE (fun x hx => hU x (List.mem_cons_of_mem _ hx)) hL).1, fun _ _ => TEM (hU _ (List.mem_cons_self ..)) hg.1⟩
      · exact cv_ch h0 b 0 hb env y hg.2 hE hU hL
      · exact cv_ch h0 a 0 ha env y hg.2.2 hE hU hL
      · exact ⟨fun c hc => (by cases hc), fun _ => NO 2 (by decide) hg.1⟩
      · refine ⟨fun c hc => (by cases hc), fun _ hk => ?_⟩
        have hy : y = gSk f pp ee tN env d.2.2.2.1.2 := hg.1
        unfold gSk at hy
        by_cases c : isN d.2.2.2.1.2 = true
        · rw [if_pos c] at hy
          rw [hy] at hk ⊢
          exact NAM _ hk
        · rw [if_neg c] at hy
          rw [hy] at hk
          exact absurd hk (by decide)
      · exact ⟨fun c hc => (by cases hc), fun _ hk => absurd hk (by rw [show y = yB 1 from hg]; decide)⟩
      · exact ⟨fun c hc => (by cases hc), fun _ hk => absurd hk (by rw [show y = yB 1 from hg]; decide)⟩
      · exact ⟨fun c hc => (by cases hc), fun _ hk => absurd hk (by rw [show y = yB 3 from hg]; decide)⟩
      · exact ⟨fun c hc => (by cases hc), fun _ hk => absurd hk (by rw [show y = yB 0 from hg.1]; decide)⟩
      · exact ⟨fun c hc => (by cases hc), fun _ hk => absurd hk (by rw [show y = yB 0 from hg.1]; decide)⟩
      · exact ⟨fun c hc => (by cases hc), fun _ hk => absurd hk (by rw [show y = yB 0 from hg.1]; decide)⟩
      · exact ⟨fun c hc => (by cases hc), fun _ hk => absurd hk (by rw [show y = yB 0 from hg.1]; decide)⟩
      · -- a call
        have hg : y = yRs (tQn a) (tN (gNu f pp ee env d.1)) ∧ gOk f pp ee tE tN a env (tN (gNu f pp ee env d.1)) := hg
        have hL : ∀ c, c ∈ (tN (gNu f pp ee env d.1), tQn a) :: cvC f pp ee tN a env → c ∈ L := hL
        have A := (cv_ch h0 a 2 ha env _ hg.2 hE hU (fun c hc => hL c (List.mem_cons_of_mem _ hc))).1
        refine ⟨fun c hc hk => ?_, fun _ hk => ?_⟩
        · rcases List.mem_cons.mp (show c ∈ (tN (gNu f pp ee env d.1), tQn a) :: cvC f pp ee tN a env from hc) with z | z
          · rw [z] at hk ⊢
            exact NAM _ hk
          · exact A c z hk
        · rcases Nat.eq_zero_or_pos (tQn a) with q0 | q0
          · have hy : y = tN (gNu f pp ee env d.1) := by rw [hg.1, q0]; rfl
            rw [hy] at hk ⊢
            exact NAM _ hk
          · exact Or.inr ⟨_, hL _ (List.mem_cons_self ..), q0, hg.1⟩
      · exact cv_ch h0 a 0 ha env y hg hE hU hL
      · exact ⟨fun c hc => (by cases hc), fun _ hk => absurd hk (by rw [show y = yB 3 from hg.1]; decide)⟩
      · -- match
        have hU : ∀ x, x ∈ (((0, 2 * d.1) : Nat × Nat), mSd tN env) :: (gUn tN a env ++ gUn tN b (env ++ [d.2.1, d.2.1 + 1])) → x ∈ Un := hU
        have hL : ∀ c, c ∈ cvC f pp ee tN a env ++ cvC f pp ee tN b (env ++ [d.2.1, d.2.1 + 1]) → c ∈ L := hL
        obtain ⟨o1, o2, ⟨o3, o4⟩, o5, o6⟩ : tE d.1 = y ∧ tN (gNu f pp ee env (d.1 + 1)) = yB 3 ∧ (tN d.2.1 = yB 0 ∧ tN (d.2.1 + 1) = yB 3) ∧ gOk f pp ee tE tN a env y ∧ gOk f pp ee tE tN b (env ++ [d.2.1, d.2.1 + 1]) y := hg
        have A := (cv_ch h0 a 0 ha env _ o5 hE (fun x hx => hU x (List.mem_cons_of_mem _ (List.mem_append_left _ hx))) (fun c hc => hL c (List.mem_append_left _ hc))).1
        have B := (cv_ch h0 b 0 hb _ _ o6 (AP (fun u hu hk => by
          rcases List.mem_cons.mp hu with z | z
          · rw [z, o3] at hk; exact absurd hk (by decide)
          · rw [List.mem_singleton.mp z, o4] at hk; exact absurd hk (by decide))) (fun x hx => hU x (List.mem_cons_of_mem _ (List.mem_append_right _ hx))) (fun c hc => hL c (List.mem_append_right _ hc))).1
        exact ⟨fun c hc => (List.mem_append.mp (show c ∈ cvC f pp ee tN a env ++ cvC f pp ee tN b (env ++ [d.2.1, d.2.1 + 1]) from hc)).elim (A c) (B c), fun _ _ => TEM (hU _ (List.mem_cons_self ..)) o1⟩
end CHU
