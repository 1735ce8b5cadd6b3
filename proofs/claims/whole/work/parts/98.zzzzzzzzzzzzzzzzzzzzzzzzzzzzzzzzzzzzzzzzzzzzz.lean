/-! ROOM: calls lie side by side, with their steps -/
theorem rkU_p {P : Nat → Nat → Prop} {env : List Nat} {rk : Nat → Nat} {w n : Nat} (h : ∀ u, u ∈ env → P u (rk u)) (hw : P w n) : ∀ u, u ∈ env ++ [w] → P u (rkU rk w n u) := fun u hu => by
  unfold rkU
  by_cases c : u = w
  · rw [if_pos c, c]; exact hw
  · rw [if_neg c]
    rcases List.mem_append.mp hu with z | z
    · exact h u z
    · exact absurd (List.mem_singleton.mp z) c
theorem rkP_p {P : Nat → Nat → Prop} : ∀ (q w i : Nat) (rk : Nat → Nat) (env : List Nat), (∀ u, u ∈ env → P u (rk u)) → (∀ j, j < q → P (w + j) (i + j)) → ∀ u, u ∈ env ++ List.range' w q → P u (rkP q w i rk u)
  | 0, w, i, rk, env, h, _, u, hu => by
    rw [show List.range' w 0 = [] from rfl, List.append_nil] at hu
    exact h u hu
  | q + 1, w, i, rk, env, h, hP, u, hu => by
    refine rkP_p q (w + 1) (i + 1) (rkU rk w i) (env ++ [w]) (rkU_p h (hP 0 (Nat.succ_pos _))) (fun j hj => ?_) u ?_
    · have := hP (j + 1) (Nat.succ_lt_succ hj)
      rw [show w + 1 + j = w + (j + 1) by omega, show i + 1 + j = i + (j + 1) by omega]
      exact this
    · rw [show List.range' w (q + 1) = w :: List.range' (w + 1) q from rfl] at hu
      rw [List.append_assoc]
      exact hu
/-- units, with the steps of their places -/
def gUi : tT → List ((Nat × Nat) × Nat)
  | .leaf => []
  | .inner g d _ a b =>
    if g = 1 then ((0, 2 * d.1), 0) :: (gUi a ++ gUi b)
    else if g = 2 then ((0, 2 * d.1), 0) :: ((0, 2 * d.1 + 1), 0) :: ((List.range d.2.1).map (fun i => (((1, d.1 + 3 + i) : Nat × Nat), i)) ++ (gUi a ++ gUi b))
    else if g = 3 then ((0, 2 * d.1), 0) :: ((1, d.1 + 1), 0) :: gUi a
    else if g = 4 then ((0, 2 * d.1), 0) :: gUi b
    else if g = 19 then ((0, 2 * d.1), 0) :: (gUi a ++ gUi b)
    else if g = 5 ∨ g = 33 ∨ g = 35 then gUi b
    else if g = 6 ∨ g = 15 ∨ g = 16 then gUi a
    else if g = 31 ∨ g = 34 then gUi a ++ gUi b
    else []
/-- a unit's type, or what a call leaves; r steps -/
def chE (tE tN : Nat → tY) (Ui : List ((Nat × Nat) × Nat)) (L : List (tY × Nat × Nat × Nat)) (y : tY) (r : Nat) : Prop := (∃ x, x ∈ Ui ∧ y = uY tE tN x.1 ∧ r ≤ x.2) ∨ ∃ c, c ∈ L ∧ 0 < c.2.1 ∧ y = yRs c.2.1 c.1 ∧ r ≤ c.2.2.1 + c.2.1
section CHE
variable {kk f pp ee : Nat → Int32} {cnt : Nat} {tE tN : Nat → tY} {Ui : List ((Nat × Nat) × Nat)} {L : List (tY × Nat × Nat × Nat)}
set_option maxHeartbeats 1000000 in
/-- **a called type is a unit's, or what another call leaves; its steps** -/
theorem cv_chE {wt : Nat} (h0 : yK (tN 0) ≠ 1) : ∀ (t : tT) (l : Nat), tWf kk cnt t l → ∀ (env : List Nat) (rk : Nat → Nat) (y : tY), gOk f pp ee tE tN t env y → (∀ u, u ∈ env → yK (tN u) = 1 → chE tE tN Ui L (tN u) (rk u)) → (∀ x, x ∈ gUi t → x ∈ Ui) → (∀ c, c ∈ cvE f pp ee wt tN t env rk → c ∈ L) → (∀ c, c ∈ cvE f pp ee wt tN t env rk → 0 < c.2.1 → yK c.1 = 1 ∧ chE tE tN Ui L c.1 c.2.2.1) ∧ (l = 0 → yK y = 1 → chE tE tN Ui L y (gRk f pp ee rk t env))
  | .leaf, l, h, _, _, _, _, _, _, _ => ⟨fun c hc => (by cases hc), fun e => by
    have h : l = 2 := h
    omega⟩
  | .inner g d z a b, l, h, env, rk, y, hg, hE, hU, hL => by
    have NAM : ∀ w, yK (tN (gNu f pp ee env w)) = 1 → chE tE tN Ui L (tN (gNu f pp ee env w)) (rk (gNu f pp ee env w)) := fun w hk => by
      rcases gNu_in (f := f) (pp := pp) (ee := ee) env w with e | e
      · rw [e] at hk; exact absurd hk h0
      · exact hE _ e hk
    have TEM : (((0, 2 * d.1) : Nat × Nat), 0) ∈ Ui → tE d.1 = y → chE tE tN Ui L y 0 := fun hm hy => Or.inl ⟨_, hm, by rw [← hy]; exact (uY_t d.1).symm, Nat.le_refl 0⟩
    have U1 : ∀ (w n : Nat), (yK (tN w) = 1 → chE tE tN Ui L (tN w) n) → ∀ u, u ∈ env ++ [w] → yK (tN u) = 1 → chE tE tN Ui L (tN u) (rkU rk w n u) := fun w n hw => rkU_p (P := fun u r => yK (tN u) = 1 → chE tE tN Ui L (tN u) r) hE hw
    rcases h with ⟨rfl, rfl, -, ha, hb⟩ | ⟨rfl, -, hb, h⟩ | ⟨rfl, h⟩
    · have hL : ∀ c, c ∈ cvE f pp ee wt tN a env rk ++ cvE f pp ee wt tN b env rk → c ∈ L := hL
      have hU : ∀ x, x ∈ gUi a ++ gUi b → x ∈ Ui := hU
      have A := (cv_chE h0 a 0 ha env rk y hg.1 hE (fun x hx => hU x (List.mem_append_left _ hx)) (fun c hc => hL c (List.mem_append_left _ hc))).1
      have B := (cv_chE h0 b 0 hb env rk y hg.2 hE (fun x hx => hU x (List.mem_append_right _ hx)) (fun c hc => hL c (List.mem_append_right _ hc))).1
      exact ⟨fun c hc => (List.mem_append.mp (show c ∈ cvE f pp ee wt tN a env rk ++ cvE f pp ee wt tN b env rk from hc)).elim (A c) (B c), fun e => by cases e⟩
    · rcases h with ⟨rfl, -, -⟩ | ⟨rfl, -, ha⟩ | ⟨rfl, -, -, -⟩
      · exact ⟨(cv_chE h0 b 2 hb env rk _ hg.2.2 hE hU hL).1, fun e => by cases e⟩
      · have hL : ∀ c, c ∈ cvE f pp ee wt tN a env rk ++ cvE f pp ee wt tN b env rk → c ∈ L := hL
        have hU : ∀ x, x ∈ gUi a ++ gUi b → x ∈ Ui := hU
        have A := (cv_chE h0 a 0 ha env rk _ hg.2.1 hE (fun x hx => hU x (List.mem_append_left _ hx)) (fun c hc => hL c (List.mem_append_left _ hc))).1
        have B := (cv_chE h0 b 2 hb env rk _ hg.2.2 hE (fun x hx => hU x (List.mem_append_right _ hx)) (fun c hc => hL c (List.mem_append_right _ hc))).1
        exact ⟨fun c hc => (List.mem_append.mp (show c ∈ cvE f pp ee wt tN a env rk ++ cvE f pp ee wt tN b env rk from hc)).elim (A c) (B c), fun e => by cases e⟩
      · exact ⟨(cv_chE h0 b 2 hb env rk _ hg.2.2 hE hU hL).1, fun e => by cases e⟩
    · rcases h with ⟨rfl, -, ha, hb⟩ | ⟨rfl, -, ha, hb⟩ | ⟨rfl, -, ha⟩ | ⟨rfl, -, hb⟩ | ⟨rfl, -, hb⟩ | ⟨rfl, -, -, ha⟩ | ⟨rfl | rfl, -⟩ | ⟨rfl | rfl | rfl, -⟩ | ⟨rfl | rfl | rfl, -⟩ | ⟨rfl, -⟩ | ⟨rfl, -, ha⟩ | ⟨rfl, -, ha, -⟩ | ⟨rfl, -⟩ | ⟨rfl, -, ha, hb⟩
      · -- let
        have hU : ∀ x, x ∈ (((0, 2 * d.1) : Nat × Nat), 0) :: (gUi a ++ gUi b) → x ∈ Ui := hU
        have hL : ∀ c, c ∈ cvE f pp ee wt tN a env rk ++ cvE f pp ee wt tN b (env ++ [d.1 + 1]) (rkU rk (d.1 + 1) (gRk f pp ee rk a env)) → c ∈ L := hL
        have hg : tE d.1 = y ∧ gOk f pp ee tE tN a env (tN (d.1 + 1)) ∧ gOk f pp ee tE tN b (env ++ [d.1 + 1]) y := hg
        obtain ⟨A, A'⟩ := cv_chE h0 a 0 ha env rk _ hg.2.1 hE (fun x hx => hU x (List.mem_cons_of_mem _ (List.mem_append_left _ hx))) (fun c hc => hL c (List.mem_append_left _ hc))
        have B := (cv_chE h0 b 0 hb _ _ _ hg.2.2 (U1 _ _ (A' rfl)) (fun x hx => hU x (List.mem_cons_of_mem _ (List.mem_append_right _ hx))) (fun c hc => hL c (List.mem_append_right _ hc))).1
        exact ⟨fun c hc => (List.mem_append.mp (show c ∈ cvE f pp ee wt tN a env rk ++ cvE f pp ee wt tN b (env ++ [d.1 + 1]) (rkU rk (d.1 + 1) (gRk f pp ee rk a env)) from hc)).elim (A c) (B c), fun _ _ => TEM (hU _ (List.mem_cons_self ..)) hg.1⟩
      · -- let rec
        have hU : ∀ x, x ∈ (((0, 2 * d.1) : Nat × Nat), 0) :: (((0, 2 * d.1 + 1) : Nat × Nat), 0) :: ((List.range d.2.1).map (fun i => (((1, d.1 + 3 + i) : Nat × Nat), i)) ++ (gUi a ++ gUi b)) → x ∈ Ui := hU
        have hL : ∀ c, c ∈ cvE f pp ee wt tN a (env ++ ([d.1 + 2] ++ List.range' (d.1 + 3) d.2.1)) (rkP d.2.1 (d.1 + 3) 0 (rkU rk (d.1 + 2) 0)) ++ cvE f pp ee wt tN b (env ++ [d.1 + 2]) (rkU rk (d.1 + 2) 0) → c ∈ L := hL
        have hg : tE d.1 = y ∧ (∃ r, tN (d.1 + 2) = gFn tN d.2.1 (d.1 + 3) r ∧ gOk f pp ee tE tN a (env ++ ([d.1 + 2] ++ List.range' (d.1 + 3) d.2.1)) r) ∧ gOk f pp ee tE tN b (env ++ [d.1 + 2]) y := hg
        obtain ⟨hy, ⟨rr, hf, ga⟩, gb⟩ := hg
        have F : chE tE tN Ui L (tN (d.1 + 2)) 0 := Or.inl ⟨_, hU _ (List.mem_cons_of_mem _ (List.mem_cons_self ..)), (uY_f d.1).symm, Nat.le_refl 0⟩
        have EA := rkP_p (P := fun u r => yK (tN u) = 1 → chE tE tN Ui L (tN u) r) d.2.1 (d.1 + 3) 0 (rkU rk (d.1 + 2) 0) (env ++ [d.1 + 2]) (U1 _ _ (fun _ => F)) (fun j hj _ => Or.inl ⟨((1, d.1 + 3 + j), j), hU _ (List.mem_cons_of_mem _ (List.mem_cons_of_mem _ (List.mem_append_left _ (List.mem_map.mpr ⟨j, List.mem_range.mpr hj, rfl⟩)))), (uY_p _).symm, by omega⟩)
        rw [List.append_assoc] at EA
        have A := (cv_chE h0 a 0 ha _ _ _ ga EA (fun x hx => hU x (List.mem_cons_of_mem _ (List.mem_cons_of_mem _ (List.mem_append_right _ (List.mem_append_left _ hx))))) (fun c hc => hL c (List.mem_append_left _ hc))).1
        have B := (cv_chE h0 b 0 hb _ _ _ gb (U1 _ _ (fun _ => F)) (fun x hx => hU x (List.mem_cons_of_mem _ (List.mem_cons_of_mem _ (List.mem_append_right _ (List.mem_append_right _ hx))))) (fun c hc => hL c (List.mem_append_right _ hc))).1
        exact ⟨fun c hc => (List.mem_append.mp (show c ∈ cvE f pp ee wt tN a (env ++ ([d.1 + 2] ++ List.range' (d.1 + 3) d.2.1)) (rkP d.2.1 (d.1 + 3) 0 (rkU rk (d.1 + 2) 0)) ++ cvE f pp ee wt tN b (env ++ [d.1 + 2]) (rkU rk (d.1 + 2) 0) from hc)).elim (A c) (B c), fun _ _ => TEM (hU _ (List.mem_cons_self ..)) hy⟩
      · -- fun
        have hU : ∀ x, x ∈ (((0, 2 * d.1) : Nat × Nat), 0) :: (((1, d.1 + 1) : Nat × Nat), 0) :: gUi a → x ∈ Ui := hU
        have hg : tE d.1 = y ∧ ∃ r, y = yA (tN (d.1 + 1)) r ∧ gOk f pp ee tE tN a (env ++ [d.1 + 1]) r := hg
        obtain ⟨hy, rr, hyr, ga⟩ := hg
        have A := (cv_chE h0 a 0 ha _ _ _ ga (U1 _ _ (fun _ => Or.inl ⟨_, hU _ (List.mem_cons_of_mem _ (List.mem_cons_self ..)), (uY_p _).symm, Nat.le_refl 0⟩)) (fun x hx => hU x (List.mem_cons_of_mem _ (List.mem_cons_of_mem _ hx))) hL).1
        exact ⟨A, fun _ _ => TEM (hU _ (List.mem_cons_self ..)) hy⟩
      · -- if
        have hU : ∀ x, x ∈ (((0, 2 * d.1) : Nat × Nat), 0) :: gUi b → x ∈ Ui := hU
        have hg : tE d.1 = y ∧ gCk f pp ee tN env a ∧ gOk f pp ee tE tN b env y := hg
        exact ⟨(cv_chE h0 b 1 hb env rk y hg.2.2 hE (fun x hx => hU x (List.mem_cons_of_mem _ hx)) hL).1, fun _ _ => TEM (hU _ (List.mem_cons_self ..)) hg.1⟩
      · exact cv_chE h0 b 0 hb env rk y hg.2 hE hU hL
      · exact cv_chE h0 a 0 ha env rk y hg.2.2 hE hU hL
      · exact ⟨fun c hc => (by cases hc), fun _ hk => absurd hk (by rw [show y = yB 2 from hg.1]; decide)⟩
      · refine ⟨fun c hc => (by cases hc), fun _ hk => ?_⟩
        have hy : y = gSk f pp ee tN env d.2.2.2.1.2 := hg.1
        show chE tE tN Ui L y (if isN d.2.2.2.1.2 = true then rk (gNu f pp ee env (d.2.2.2.1.2.headD (0, false, 0)).2.2) else 0)
        unfold gSk at hy
        by_cases c : isN d.2.2.2.1.2 = true
        · rw [if_pos c] at hy ⊢
          rw [hy] at hk ⊢
          exact NAM _ hk
        · rw [if_neg c] at hy
          rw [hy] at hk
          exact absurd hk (by decide)
      · exact ⟨fun c hc => (by cases hc), fun _ hk => absurd hk (by rw [show y = yB 1 from hg]; decide)⟩
      · exact ⟨fun c hc => (by cases hc), fun _ hk => absurd hk (by rw [show y = yB 1 from hg]; decide)⟩
      · exact ⟨fun c hc => (by cases hc), fun _ hk => absurd hk (by rw [show y = yB 3 from hg]; decide)⟩
      · exact ⟨fun c hc => (by cases hc), fun _ hk => absurd hk (by rw [show y = yB 0 from hg.1]; decide)⟩
      · exact ⟨fun c hc => (by cases hc), fun _ hk => absurd hk (by rw [show y = yB 0 from hg.1]; decide)⟩
      · exact ⟨fun c hc => (by cases hc), fun _ hk => absurd hk (by rw [show y = yB 0 from hg.1]; decide)⟩
      · exact ⟨fun c hc => (by cases hc), fun _ hk => absurd hk (by rw [show y = yB 0 from hg.1]; decide)⟩
      · -- a call
        have hg : y = yRs (tQn a) (tN (gNu f pp ee env d.1)) ∧ gOk f pp ee tE tN a env (tN (gNu f pp ee env d.1)) := hg
        have hL : ∀ c, c ∈ (tN (gNu f pp ee env d.1), tQn a, rk (gNu f pp ee env d.1), kAr f pp ee wt a env rk (tN (gNu f pp ee env d.1)) (rk (gNu f pp ee env d.1))) :: cvE f pp ee wt tN a env rk → c ∈ L := hL
        have A := (cv_chE h0 a 2 ha env rk _ hg.2 hE hU (fun c hc => hL c (List.mem_cons_of_mem _ hc))).1
        refine ⟨fun c hc h0c => ?_, fun _ hk => ?_⟩
        · rcases List.mem_cons.mp (show c ∈ (tN (gNu f pp ee env d.1), tQn a, rk (gNu f pp ee env d.1), kAr f pp ee wt a env rk (tN (gNu f pp ee env d.1)) (rk (gNu f pp ee env d.1))) :: cvE f pp ee wt tN a env rk from hc) with z | z
          · rw [z] at h0c ⊢
            have hk := gOk_i ha hg.2 h0c
            exact ⟨hk, NAM _ hk⟩
          · exact A c z h0c
        · show chE tE tN Ui L y (rk (gNu f pp ee env d.1) + tQn a)
          rcases Nat.eq_zero_or_pos (tQn a) with q0 | q0
          · have hy : y = tN (gNu f pp ee env d.1) := by rw [hg.1, q0]; rfl
            rw [hy] at hk ⊢
            rw [q0]
            exact NAM _ hk
          · exact Or.inr ⟨_, hL _ (List.mem_cons_self ..), q0, hg.1, Nat.le_refl _⟩
      · exact cv_chE h0 a 0 ha env rk y hg hE hU hL
      · exact ⟨fun c hc => (by cases hc), fun _ hk => absurd hk (by rw [show y = yB 3 from hg.1]; decide)⟩
      · -- match
        have hU : ∀ x, x ∈ (((0, 2 * d.1) : Nat × Nat), 0) :: (gUi a ++ gUi b) → x ∈ Ui := hU
        have hL : ∀ c, c ∈ cvE f pp ee wt tN a env rk ++ cvE f pp ee wt tN b (env ++ [d.2.1, d.2.1 + 1]) (rkU (rkU rk d.2.1 0) (d.2.1 + 1) 0) → c ∈ L := hL
        obtain ⟨o1, o2, ⟨o3, o4⟩, o5, o6⟩ : tE d.1 = y ∧ tN (gNu f pp ee env (d.1 + 1)) = yB 3 ∧ (tN d.2.1 = yB 0 ∧ tN (d.2.1 + 1) = yB 3) ∧ gOk f pp ee tE tN a env y ∧ gOk f pp ee tE tN b (env ++ [d.2.1, d.2.1 + 1]) y := hg
        have A := (cv_chE h0 a 0 ha env rk _ o5 hE (fun x hx => hU x (List.mem_cons_of_mem _ (List.mem_append_left _ hx))) (fun c hc => hL c (List.mem_append_left _ hc))).1
        have E3 := rkU_p (P := fun u r => yK (tN u) = 1 → chE tE tN Ui L (tN u) r) (w := d.2.1 + 1) (n := 0) (U1 d.2.1 0 (fun hk => by rw [o3] at hk; exact absurd hk (by decide))) (fun hk => by rw [o4] at hk; exact absurd hk (by decide))
        rw [List.append_assoc] at E3
        have B := (cv_chE h0 b 0 hb _ _ _ o6 E3 (fun x hx => hU x (List.mem_cons_of_mem _ (List.mem_append_right _ hx))) (fun c hc => hL c (List.mem_append_right _ hc))).1
        exact ⟨fun c hc => (List.mem_append.mp (show c ∈ cvE f pp ee wt tN a env rk ++ cvE f pp ee wt tN b (env ++ [d.2.1, d.2.1 + 1]) (rkU (rkU rk d.2.1 0) (d.2.1 + 1) 0) from hc)).elim (A c) (B c), fun _ _ => TEM (hU _ (List.mem_cons_self ..)) o1⟩
end CHE
