/-! ROOM: what each call's ARGS take -/
/-- what is no function FITS at once -/
theorem fCp_nf : ∀ (y : tY) (p q : Nat), yK y ≠ 1 → fCp y p q = 0
  | .leaf, _, _, _ => rfl
  | .inner k u v a b, p, q, h => by
    unfold fCp
    by_cases c : k = 0
    · subst c
      exact absurd rfl h
    · rw [if_neg c]
section CKE
variable {kk f pp ee : Nat → Int32} {cnt : Nat} {P : tY → Nat} {tE tN : Nat → tY} {Ui : List ((Nat × Nat) × Nat)} {L : List (tY × Nat × Nat × Nat)}
set_option maxHeartbeats 1000000 in
/-- **what a call's ARGS take, where no NAME has more than P steps** -/
theorem cv_kE {wt : Nat} (h0 : yK (tN 0) ≠ 1) (HP : ∀ y r, chE tE tN Ui L y r → yK y = 1 → r ≤ P y) : ∀ (t : tT), tF3 t → ∀ (l : Nat), tWf kk cnt t l → ∀ (env : List Nat) (rk : Nat → Nat) (y : tY), gOk f pp ee tE tN t env y → (∀ u, u ∈ env → yK (tN u) = 1 → chE tE tN Ui L (tN u) (rk u)) → (∀ x, x ∈ gUi t → x ∈ Ui) → (∀ c, c ∈ cvE f pp ee wt tN t env rk → c ∈ L) → (∀ c, c ∈ cvE f pp ee wt tN t env rk → c.2.2.2 ≤ kB wt P c.2.1 c.1 c.2.2.1) ∧ (l = 2 → ∀ q, kAr f pp ee wt t env rk y q ≤ kB wt P (tQn t) y q)
  | .leaf, _, l, h, _, _, _, _, _, _, _ => ⟨fun c hc => (by cases hc), fun _ _ => Nat.zero_le _⟩
  | .inner g d z a b, h3, l, h, env, rk, y, hg, hE, hU, hL => by
    obtain ⟨f1, f2, f3⟩ := h3
    have NAM : ∀ w, yK (tN (gNu f pp ee env w)) = 1 → chE tE tN Ui L (tN (gNu f pp ee env w)) (rk (gNu f pp ee env w)) := fun w hk => by
      rcases gNu_in (f := f) (pp := pp) (ee := ee) env w with e | e
      · rw [e] at hk; exact absurd hk h0
      · exact hE _ e hk
    have TEM : (((0, 2 * d.1) : Nat × Nat), 0) ∈ Ui → tE d.1 = y → chE tE tN Ui L y 0 := fun hm hy => Or.inl ⟨_, hm, by rw [← hy]; exact (uY_t d.1).symm, Nat.le_refl 0⟩
    have U1 : ∀ (w n : Nat), (yK (tN w) = 1 → chE tE tN Ui L (tN w) n) → ∀ u, u ∈ env ++ [w] → yK (tN u) = 1 → chE tE tN Ui L (tN u) (rkU rk w n u) := fun w n hw => rkU_p (P := fun u r => yK (tN u) = 1 → chE tE tN Ui L (tN u) r) hE hw
    rcases h with ⟨rfl, rfl, -, ha, hb⟩ | ⟨rfl, -, hb, h⟩ | ⟨rfl, h⟩
    · have hL : ∀ c, c ∈ cvE f pp ee wt tN a env rk ++ cvE f pp ee wt tN b env rk → c ∈ L := hL
      have hU : ∀ x, x ∈ gUi a ++ gUi b → x ∈ Ui := hU
      have A := (cv_kE h0 HP a (by rw [if_neg (by decide)] at f2; exact f2) 0 ha env rk y hg.1 hE (fun x hx => hU x (List.mem_append_left _ hx)) (fun c hc => hL c (List.mem_append_left _ hc))).1
      have B := (cv_kE h0 HP b f3 0 hb env rk y hg.2 hE (fun x hx => hU x (List.mem_append_right _ hx)) (fun c hc => hL c (List.mem_append_right _ hc))).1
      exact ⟨fun c hc => (List.mem_append.mp (show c ∈ cvE f pp ee wt tN a env rk ++ cvE f pp ee wt tN b env rk from hc)).elim (A c) (B c), fun e => by cases e⟩
    · rcases h with ⟨rfl, -, -⟩ | ⟨rfl, -, ha⟩ | ⟨rfl, -, -, -⟩
      · obtain ⟨B1, B2⟩ := cv_kE h0 HP b f3 2 hb env rk _ hg.2.2 hE hU hL
        refine ⟨B1, fun _ q => ?_⟩
        have B2 := B2 rfl (q + 1)
        have F : fCp (yL y) (gRs1 f pp ee rk env d.2.2.2.1.2) q ≤ fCp (yL y) (P (yL y)) q := by
          by_cases ky : yK (yL y) = 1
          · refine fCp_mo _ _ _ _ _ ?_ (Nat.le_refl _)
            have e2 : yL y = gSk f pp ee tN env d.2.2.2.1.2 := hg.2.1.1
            rw [e2] at ky
            unfold gSk at ky
            unfold gRs1
            by_cases c : isN d.2.2.2.1.2 = true
            · rw [if_pos c] at ky ⊢
              have e3 := e2
              unfold gSk at e3
              rw [if_pos c] at e3
              rw [e3]
              exact HP _ _ (NAM _ ky) ky
            · rw [if_neg c]
              exact Nat.zero_le _
          · rw [fCp_nf _ _ _ ky]
            exact Nat.zero_le _
        have F := Nat.le_trans (kIu_mo (wt := wt) (yL y) F (Nat.le_refl q)) (kIm_le wt (yL y) (P (yL y)) q)
        show kIu wt (yL y) (gRs1 f pp ee rk env d.2.2.2.1.2) q + kAr f pp ee wt b env rk (yR y) (q + 1) ≤ kIm wt (yL y) (P (yL y)) q + kB wt P (tQn b) (yR y) (q + 1)
        omega
      · have hL : ∀ c, c ∈ cvE f pp ee wt tN a env rk ++ cvE f pp ee wt tN b env rk → c ∈ L := hL
        have hU : ∀ x, x ∈ gUi a ++ gUi b → x ∈ Ui := hU
        have A := (cv_kE h0 HP a (by rw [if_neg (by decide)] at f2; exact f2) 0 ha env rk _ hg.2.1 hE (fun x hx => hU x (List.mem_append_left _ hx)) (fun c hc => hL c (List.mem_append_left _ hc))).1
        obtain ⟨B, B2⟩ := cv_kE h0 HP b f3 2 hb env rk _ hg.2.2 hE (fun x hx => hU x (List.mem_append_right _ hx)) (fun c hc => hL c (List.mem_append_right _ hc))
        have A2 := (cv_chE h0 a 0 ha env rk _ hg.2.1 hE (fun x hx => hU x (List.mem_append_left _ hx)) (fun c hc => hL c (List.mem_append_left _ hc))).2 rfl
        refine ⟨fun c hc => (List.mem_append.mp (show c ∈ cvE f pp ee wt tN a env rk ++ cvE f pp ee wt tN b env rk from hc)).elim (A c) (B c), fun _ q => ?_⟩
        have B2 := B2 rfl (q + 1)
        have F : 3352 ≤ kIm wt (yL y) (P (yL y)) q := by
          obtain ⟨d', z', a', b', e⟩ := f1 rfl
          subst e
          obtain ⟨-, rr, hyr, -⟩ : tE d'.1 = yL y ∧ ∃ r, yL y = yA (tN (d'.1 + 1)) r ∧ gOk f pp ee tE tN a' (env ++ [d'.1 + 1]) r := hg.2.1
          have m : yK (yL y) = 1 := by
            rw [hyr]
            rfl
          unfold kIm
          rw [if_pos m]
          exact Nat.le_max_right _ _
        show 3352 + kAr f pp ee wt b env rk (yR y) (q + 1) ≤ kIm wt (yL y) (P (yL y)) q + kB wt P (tQn b) (yR y) (q + 1)
        omega
      · obtain ⟨B1, B2⟩ := cv_kE h0 HP b f3 2 hb env rk _ hg.2.2 hE hU hL
        refine ⟨B1, fun _ q => ?_⟩
        have B2 := B2 rfl (q + 1)
        show kAr f pp ee wt b env rk (yR y) (q + 1) ≤ kIm wt (yL y) (P (yL y)) q + kB wt P (tQn b) (yR y) (q + 1)
        omega
    · rcases h with ⟨rfl, -, ha, hb⟩ | ⟨rfl, -, ha, hb⟩ | ⟨rfl, -, ha⟩ | ⟨rfl, -, hb⟩ | ⟨rfl, -, hb⟩ | ⟨rfl, -, -, ha⟩ | ⟨rfl | rfl, -⟩ | ⟨rfl | rfl | rfl, -⟩ | ⟨rfl | rfl | rfl, -⟩ | ⟨rfl, -⟩ | ⟨rfl, -, ha⟩ | ⟨rfl, -, ha, -⟩ | ⟨rfl, -⟩ | ⟨rfl, -, ha, hb⟩
      · -- let
        have hU : ∀ x, x ∈ (((0, 2 * d.1) : Nat × Nat), 0) :: (gUi a ++ gUi b) → x ∈ Ui := hU
        have hL : ∀ c, c ∈ cvE f pp ee wt tN a env rk ++ cvE f pp ee wt tN b (env ++ [d.1 + 1]) (rkU rk (d.1 + 1) (gRk f pp ee rk a env)) → c ∈ L := hL
        have hg : tE d.1 = y ∧ gOk f pp ee tE tN a env (tN (d.1 + 1)) ∧ gOk f pp ee tE tN b (env ++ [d.1 + 1]) y := hg
        have A := (cv_kE h0 HP a (by rw [if_neg (by decide)] at f2; exact f2) 0 ha env rk _ hg.2.1 hE (fun x hx => hU x (List.mem_cons_of_mem _ (List.mem_append_left _ hx))) (fun c hc => hL c (List.mem_append_left _ hc))).1
        have A' := (cv_chE h0 a 0 ha env rk _ hg.2.1 hE (fun x hx => hU x (List.mem_cons_of_mem _ (List.mem_append_left _ hx))) (fun c hc => hL c (List.mem_append_left _ hc))).2
        have B := (cv_kE h0 HP b f3 0 hb _ _ _ hg.2.2 (U1 _ _ (A' rfl)) (fun x hx => hU x (List.mem_cons_of_mem _ (List.mem_append_right _ hx))) (fun c hc => hL c (List.mem_append_right _ hc))).1
        exact ⟨fun c hc => (List.mem_append.mp (show c ∈ cvE f pp ee wt tN a env rk ++ cvE f pp ee wt tN b (env ++ [d.1 + 1]) (rkU rk (d.1 + 1) (gRk f pp ee rk a env)) from hc)).elim (A c) (B c), fun e => by cases e⟩
      · -- let rec
        have hU : ∀ x, x ∈ (((0, 2 * d.1) : Nat × Nat), 0) :: (((0, 2 * d.1 + 1) : Nat × Nat), 0) :: ((List.range d.2.1).map (fun i => (((1, d.1 + 3 + i) : Nat × Nat), i)) ++ (gUi a ++ gUi b)) → x ∈ Ui := hU
        have hL : ∀ c, c ∈ cvE f pp ee wt tN a (env ++ ([d.1 + 2] ++ List.range' (d.1 + 3) d.2.1)) (rkP d.2.1 (d.1 + 3) 0 (rkU rk (d.1 + 2) 0)) ++ cvE f pp ee wt tN b (env ++ [d.1 + 2]) (rkU rk (d.1 + 2) 0) → c ∈ L := hL
        have hg : tE d.1 = y ∧ (∃ r, tN (d.1 + 2) = gFn tN d.2.1 (d.1 + 3) r ∧ gOk f pp ee tE tN a (env ++ ([d.1 + 2] ++ List.range' (d.1 + 3) d.2.1)) r) ∧ gOk f pp ee tE tN b (env ++ [d.1 + 2]) y := hg
        obtain ⟨hy, ⟨rr, hf, ga⟩, gb⟩ := hg
        have F : chE tE tN Ui L (tN (d.1 + 2)) 0 := Or.inl ⟨_, hU _ (List.mem_cons_of_mem _ (List.mem_cons_self ..)), (uY_f d.1).symm, Nat.le_refl 0⟩
        have EA := rkP_p (P := fun u r => yK (tN u) = 1 → chE tE tN Ui L (tN u) r) d.2.1 (d.1 + 3) 0 (rkU rk (d.1 + 2) 0) (env ++ [d.1 + 2]) (U1 _ _ (fun _ => F)) (fun j hj _ => Or.inl ⟨((1, d.1 + 3 + j), j), hU _ (List.mem_cons_of_mem _ (List.mem_cons_of_mem _ (List.mem_append_left _ (List.mem_map.mpr ⟨j, List.mem_range.mpr hj, rfl⟩)))), (uY_p _).symm, by omega⟩)
        rw [List.append_assoc] at EA
        have A := (cv_kE h0 HP a (by rw [if_neg (by decide)] at f2; exact f2) 0 ha _ _ _ ga EA (fun x hx => hU x (List.mem_cons_of_mem _ (List.mem_cons_of_mem _ (List.mem_append_right _ (List.mem_append_left _ hx))))) (fun c hc => hL c (List.mem_append_left _ hc))).1
        have B := (cv_kE h0 HP b f3 0 hb _ _ _ gb (U1 _ _ (fun _ => F)) (fun x hx => hU x (List.mem_cons_of_mem _ (List.mem_cons_of_mem _ (List.mem_append_right _ (List.mem_append_right _ hx))))) (fun c hc => hL c (List.mem_append_right _ hc))).1
        exact ⟨fun c hc => (List.mem_append.mp (show c ∈ cvE f pp ee wt tN a (env ++ ([d.1 + 2] ++ List.range' (d.1 + 3) d.2.1)) (rkP d.2.1 (d.1 + 3) 0 (rkU rk (d.1 + 2) 0)) ++ cvE f pp ee wt tN b (env ++ [d.1 + 2]) (rkU rk (d.1 + 2) 0) from hc)).elim (A c) (B c), fun e => by cases e⟩
      · -- fun
        have hU : ∀ x, x ∈ (((0, 2 * d.1) : Nat × Nat), 0) :: (((1, d.1 + 1) : Nat × Nat), 0) :: gUi a → x ∈ Ui := hU
        have hg : tE d.1 = y ∧ ∃ r, y = yA (tN (d.1 + 1)) r ∧ gOk f pp ee tE tN a (env ++ [d.1 + 1]) r := hg
        obtain ⟨hy, rr, hyr, ga⟩ := hg
        have A := (cv_kE h0 HP a (by rw [if_neg (by decide)] at f2; exact f2) 0 ha _ _ _ ga (U1 _ _ (fun _ => Or.inl ⟨_, hU _ (List.mem_cons_of_mem _ (List.mem_cons_self ..)), (uY_p _).symm, Nat.le_refl 0⟩)) (fun x hx => hU x (List.mem_cons_of_mem _ (List.mem_cons_of_mem _ hx))) hL).1
        exact ⟨A, fun e => by cases e⟩
      · -- if
        have hU : ∀ x, x ∈ (((0, 2 * d.1) : Nat × Nat), 0) :: gUi b → x ∈ Ui := hU
        have hg : tE d.1 = y ∧ gCk f pp ee tN env a ∧ gOk f pp ee tE tN b env y := hg
        exact ⟨(cv_kE h0 HP b f3 1 hb env rk y hg.2.2 hE (fun x hx => hU x (List.mem_cons_of_mem _ hx)) hL).1, fun e => by cases e⟩
      · exact ⟨(cv_kE h0 HP b f3 0 hb env rk y hg.2 hE hU hL).1, fun e => by cases e⟩
      · exact ⟨(cv_kE h0 HP a (by rw [if_neg (by decide)] at f2; exact f2) 0 ha env rk y hg.2.2 hE hU hL).1, fun e => by cases e⟩
      · exact ⟨fun c hc => (by cases hc), fun e => by cases e⟩
      · exact ⟨fun c hc => (by cases hc), fun e => by cases e⟩
      · exact ⟨fun c hc => (by cases hc), fun e => by cases e⟩
      · exact ⟨fun c hc => (by cases hc), fun e => by cases e⟩
      · exact ⟨fun c hc => (by cases hc), fun e => by cases e⟩
      · exact ⟨fun c hc => (by cases hc), fun e => by cases e⟩
      · exact ⟨fun c hc => (by cases hc), fun e => by cases e⟩
      · exact ⟨fun c hc => (by cases hc), fun e => by cases e⟩
      · exact ⟨fun c hc => (by cases hc), fun e => by cases e⟩
      · -- a call
        have hg : y = yRs (tQn a) (tN (gNu f pp ee env d.1)) ∧ gOk f pp ee tE tN a env (tN (gNu f pp ee env d.1)) := hg
        have hL : ∀ c, c ∈ (tN (gNu f pp ee env d.1), tQn a, rk (gNu f pp ee env d.1), kAr f pp ee wt a env rk (tN (gNu f pp ee env d.1)) (rk (gNu f pp ee env d.1))) :: cvE f pp ee wt tN a env rk → c ∈ L := hL
        obtain ⟨A, A2⟩ := cv_kE h0 HP a (by rw [if_neg (by decide)] at f2; exact f2) 2 ha env rk _ hg.2 hE hU (fun c hc => hL c (List.mem_cons_of_mem _ hc))
        refine ⟨fun c hc => ?_, fun e => by cases e⟩
        rcases List.mem_cons.mp (show c ∈ (tN (gNu f pp ee env d.1), tQn a, rk (gNu f pp ee env d.1), kAr f pp ee wt a env rk (tN (gNu f pp ee env d.1)) (rk (gNu f pp ee env d.1))) :: cvE f pp ee wt tN a env rk from hc) with z | z
        · rw [z]
          exact A2 rfl _
        · exact A c z
      · exact ⟨(cv_kE h0 HP a (by rw [if_neg (by decide)] at f2; exact f2) 0 ha env rk y hg hE hU hL).1, fun e => by cases e⟩
      · exact ⟨fun c hc => (by cases hc), fun e => by cases e⟩
      · -- match
        have hU : ∀ x, x ∈ (((0, 2 * d.1) : Nat × Nat), 0) :: (gUi a ++ gUi b) → x ∈ Ui := hU
        have hL : ∀ c, c ∈ cvE f pp ee wt tN a env rk ++ cvE f pp ee wt tN b (env ++ [d.2.1, d.2.1 + 1]) (rkU (rkU rk d.2.1 0) (d.2.1 + 1) 0) → c ∈ L := hL
        obtain ⟨o1, o2, ⟨o3, o4⟩, o5, o6⟩ : tE d.1 = y ∧ tN (gNu f pp ee env (d.1 + 1)) = yB 3 ∧ (tN d.2.1 = yB 0 ∧ tN (d.2.1 + 1) = yB 3) ∧ gOk f pp ee tE tN a env y ∧ gOk f pp ee tE tN b (env ++ [d.2.1, d.2.1 + 1]) y := hg
        have A := (cv_kE h0 HP a (by rw [if_neg (by decide)] at f2; exact f2) 0 ha env rk _ o5 hE (fun x hx => hU x (List.mem_cons_of_mem _ (List.mem_append_left _ hx))) (fun c hc => hL c (List.mem_append_left _ hc))).1
        have E3 := rkU_p (P := fun u r => yK (tN u) = 1 → chE tE tN Ui L (tN u) r) (w := d.2.1 + 1) (n := 0) (U1 d.2.1 0 (fun hk => by rw [o3] at hk; exact absurd hk (by decide))) (fun hk => by rw [o4] at hk; exact absurd hk (by decide))
        rw [List.append_assoc] at E3
        have B := (cv_kE h0 HP b f3 0 hb _ _ _ o6 E3 (fun x hx => hU x (List.mem_cons_of_mem _ (List.mem_append_right _ hx))) (fun c hc => hL c (List.mem_append_right _ hc))).1
        exact ⟨fun c hc => (List.mem_append.mp (show c ∈ cvE f pp ee wt tN a env rk ++ cvE f pp ee wt tN b (env ++ [d.2.1, d.2.1 + 1]) (rkU (rkU rk d.2.1 0) (d.2.1 + 1) 0) from hc)).elim (A c) (B c), fun e => by cases e⟩
end CKE
