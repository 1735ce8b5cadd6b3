/-! ROOM: calls in the order of the text: what a call takes was there before -/
section ORD
variable {tE tN : Nat → tY} {Ui : List ((Nat × Nat) × Nat)}
theorem chE.mo {L L' : List (tY × Nat × Nat × Nat)} {y : tY} {r : Nat} (h : chE tE tN Ui L y r) (hs : ∀ c, c ∈ L → c ∈ L') : chE tE tN Ui L' y r := by
  rcases h with h | ⟨c, h1, h2⟩
  · exact Or.inl h
  · exact Or.inr ⟨c, hs c h1, h2⟩
/-- of one call: its type and what it takes come from units and calls of Lp -/
def oRc (tE tN : Nat → tY) (Ui : List ((Nat × Nat) × Nat)) (Lp : List (tY × Nat × Nat × Nat)) (c : tY × Nat × Nat × Nat) : Prop := (0 < c.2.1 → yK c.1 = 1 ∧ chE tE tN Ui Lp c.1 c.2.2.1) ∧ ∀ i, i < c.2.1 → yK (yL (yRs i c.1)) = 1 → ∃ r, chE tE tN Ui Lp (yL (yRs i c.1)) r
/-- each call of a list, behind those before it -/
def oRd (tE tN : Nat → tY) (Ui : List ((Nat × Nat) × Nat)) : List (tY × Nat × Nat × Nat) → List (tY × Nat × Nat × Nat) → Prop
  | _, [] => True
  | Lp, c :: L => oRc tE tN Ui Lp c ∧ oRd tE tN Ui (Lp ++ [c]) L
theorem oRc.mo {L L' : List (tY × Nat × Nat × Nat)} {c : tY × Nat × Nat × Nat} (h : oRc tE tN Ui L c) (hs : ∀ c, c ∈ L → c ∈ L') : oRc tE tN Ui L' c :=
  ⟨fun h0 => ⟨(h.1 h0).1, (h.1 h0).2.mo hs⟩, fun i hi hk => (h.2 i hi hk).elim (fun r hr => ⟨r, hr.mo hs⟩)⟩
theorem oRd.ap : ∀ {A B Lp : List (tY × Nat × Nat × Nat)}, oRd tE tN Ui Lp A → oRd tE tN Ui (Lp ++ A) B → oRd tE tN Ui Lp (A ++ B)
  | [], B, Lp, _, h => by rw [List.append_nil] at h; exact h
  | c :: A, B, Lp, h, hb => ⟨h.1, oRd.ap h.2 (by rw [List.append_assoc]; exact hb)⟩
theorem oRd.at : ∀ {L1 L2 Lp : List (tY × Nat × Nat × Nat)} {c : tY × Nat × Nat × Nat}, oRd tE tN Ui Lp (L1 ++ c :: L2) → oRc tE tN Ui (Lp ++ L1) c
  | [], L2, Lp, c, h => by rw [List.append_nil]; exact h.1
  | d :: L1, L2, Lp, c, h => by
    have := oRd.at (L1 := L1) h.2
    rw [List.append_assoc] at this
    exact this
/-- a list's beginning -/
theorem oRd.be : ∀ {L1 L2 Lp : List (tY × Nat × Nat × Nat)}, oRd tE tN Ui Lp (L1 ++ L2) → oRd tE tN Ui Lp L1
  | [], _, _, _ => trivial
  | _ :: _, _, _, h => ⟨h.1, oRd.be h.2⟩
theorem oRd.al : ∀ {L Lp : List (tY × Nat × Nat × Nat)}, oRd tE tN Ui Lp L → ∀ c, c ∈ L → oRc tE tN Ui (Lp ++ L) c
  | [], _, _, c, h => by cases h
  | d :: L, Lp, h, c, hc => by
    rcases List.mem_cons.mp hc with e | e
    · rw [e]
      exact h.1.mo (fun x hx => List.mem_append_left _ hx)
    · have := oRd.al h.2 c e
      rw [List.append_assoc] at this
      exact this
end ORD
section CVR
variable {kk f pp ee : Nat → Int32} {cnt : Nat} {tE tN : Nat → tY} {Ui : List ((Nat × Nat) × Nat)}
set_option maxHeartbeats 1000000 in
/-- **a PROGRAM's calls in the order of its text: each one's type, and what it takes, come from units and calls before it** -/
theorem cv_or {wt : Nat} (h0 : yK (tN 0) ≠ 1) : ∀ (t : tT), tF3 t → ∀ (l : Nat), tWf kk cnt t l → ∀ (env : List Nat) (rk : Nat → Nat) (y : tY) (Lp : List (tY × Nat × Nat × Nat)), gOk f pp ee tE tN t env y → (∀ u, u ∈ env → yK (tN u) = 1 → chE tE tN Ui Lp (tN u) (rk u)) → (∀ x, x ∈ gUi t → x ∈ Ui) → oRd tE tN Ui Lp (cvE f pp ee wt tN t env rk) ∧ (l = 0 → yK y = 1 → chE tE tN Ui (Lp ++ cvE f pp ee wt tN t env rk) y (gRk f pp ee rk t env)) ∧ (l = 2 → ∀ i, i < tQn t → yK (yL (yRs i y)) = 1 → ∃ r, chE tE tN Ui Lp (yL (yRs i y)) r)
  | .leaf, _, l, h, _, _, _, _, _, _, _ => ⟨trivial, fun e => by
    have h : l = 2 := h
    omega, fun _ i hi => absurd hi (Nat.not_lt_zero _)⟩
  | .inner g d z a b, h3, l, h, env, rk, y, Lp, hg, hE, hU => by
    obtain ⟨f1, f2, f3⟩ := h3
    have NAM : ∀ w, yK (tN (gNu f pp ee env w)) = 1 → chE tE tN Ui Lp (tN (gNu f pp ee env w)) (rk (gNu f pp ee env w)) := fun w hk => by
      rcases gNu_in (f := f) (pp := pp) (ee := ee) env w with e | e
      · rw [e] at hk; exact absurd hk h0
      · exact hE _ e hk
    have TEM : ∀ {L}, (((0, 2 * d.1) : Nat × Nat), 0) ∈ Ui → tE d.1 = y → chE tE tN Ui L y 0 := fun {L} hm hy => Or.inl ⟨_, hm, by rw [← hy]; exact (uY_t d.1).symm, Nat.le_refl 0⟩
    have UP : ∀ {M : List (tY × Nat × Nat × Nat)} (w n : Nat), (yK (tN w) = 1 → chE tE tN Ui (Lp ++ M) (tN w) n) → ∀ u, u ∈ env ++ [w] → yK (tN u) = 1 → chE tE tN Ui (Lp ++ M) (tN u) (rkU rk w n u) := fun {M} w n hw => rkU_p (P := fun u r => yK (tN u) = 1 → chE tE tN Ui (Lp ++ M) (tN u) r) (fun u hu hk => (hE u hu hk).mo (fun c hc => List.mem_append_left _ hc)) hw
    have EP : ∀ {M : List (tY × Nat × Nat × Nat)}, ∀ u, u ∈ env → yK (tN u) = 1 → chE tE tN Ui (Lp ++ M) (tN u) (rk u) := fun {M} u hu hk => (hE u hu hk).mo (fun c hc => List.mem_append_left _ hc)
    have U1 : ∀ (w n : Nat), (yK (tN w) = 1 → chE tE tN Ui Lp (tN w) n) → ∀ u, u ∈ env ++ [w] → yK (tN u) = 1 → chE tE tN Ui Lp (tN u) (rkU rk w n u) := fun w n hw => rkU_p (P := fun u r => yK (tN u) = 1 → chE tE tN Ui Lp (tN u) r) hE hw
    rcases h with ⟨rfl, rfl, -, ha, hb⟩ | ⟨rfl, -, hb, h⟩ | ⟨rfl, h⟩
    · have hU : ∀ x, x ∈ gUi a ++ gUi b → x ∈ Ui := hU
      have A := (cv_or (wt := wt) h0 a (by rw [if_neg (by decide)] at f2; exact f2) 0 ha env rk y Lp hg.1 hE (fun x hx => hU x (List.mem_append_left _ hx))).1
      have B := (cv_or (wt := wt) h0 b f3 0 hb env rk y (Lp ++ cvE f pp ee wt tN a env rk) hg.2 EP (fun x hx => hU x (List.mem_append_right _ hx))).1
      exact ⟨A.ap B, fun e => (by cases e), fun e => by cases e⟩
    · have SP : ∀ {n : Nat}, (yK (yL y) = 1 → ∃ r, chE tE tN Ui Lp (yL y) r) → (∀ i, i < n → yK (yL (yRs i (yR y))) = 1 → ∃ r, chE tE tN Ui Lp (yL (yRs i (yR y))) r) → ∀ i, i < n + 1 → yK (yL (yRs i y)) = 1 → ∃ r, chE tE tN Ui Lp (yL (yRs i y)) r := fun {n} h1 h2 i hi hk => by
        cases i with
        | zero => exact h1 hk
        | succ i => exact h2 i (Nat.lt_of_succ_lt_succ hi) hk
      rcases h with ⟨rfl, -, -⟩ | ⟨rfl, -, ha⟩ | ⟨rfl, -, -, -⟩
      · obtain ⟨B, -, B2⟩ := cv_or (wt := wt) h0 b f3 2 hb env rk _ Lp hg.2.2 hE hU
        refine ⟨B, fun e => (by cases e), fun _ => SP (n := tQn b) (fun ky => ?_) (B2 rfl)⟩
        have e2 : yL y = gSk f pp ee tN env d.2.2.2.1.2 := hg.2.1.1
        rw [e2] at ky ⊢
        unfold gSk at ky ⊢
        by_cases c : isN d.2.2.2.1.2 = true
        · rw [if_pos c] at ky ⊢
          exact ⟨_, NAM _ ky⟩
        · rw [if_neg c] at ky
          exact absurd ky (by decide)
      · have hU : ∀ x, x ∈ gUi a ++ gUi b → x ∈ Ui := hU
        have A := (cv_or (wt := wt) h0 a (by rw [if_neg (by decide)] at f2; exact f2) 0 ha env rk _ Lp hg.2.1 hE (fun x hx => hU x (List.mem_append_left _ hx))).1
        obtain ⟨B, -, -⟩ := cv_or (wt := wt) h0 b f3 2 hb env rk _ (Lp ++ cvE f pp ee wt tN a env rk) hg.2.2 EP (fun x hx => hU x (List.mem_append_right _ hx))
        obtain ⟨-, -, B2⟩ := cv_or (wt := wt) h0 b f3 2 hb env rk _ Lp hg.2.2 hE (fun x hx => hU x (List.mem_append_right _ hx))
        refine ⟨A.ap B, fun e => (by cases e), fun _ => SP (n := tQn b) (fun _ => ?_) (B2 rfl)⟩
        obtain ⟨d', z', a', b', e⟩ := f1 rfl
        subst e
        obtain ⟨hy, -⟩ : tE d'.1 = yL y ∧ ∃ r, yL y = yA (tN (d'.1 + 1)) r ∧ gOk f pp ee tE tN a' (env ++ [d'.1 + 1]) r := hg.2.1
        exact ⟨0, Or.inl ⟨(((0, 2 * d'.1) : Nat × Nat), 0), hU _ (List.mem_append_left _ (List.mem_cons_self ..)), by rw [← hy]; exact (uY_t d'.1).symm, Nat.le_refl 0⟩⟩
      · obtain ⟨B, -, B2⟩ := cv_or (wt := wt) h0 b f3 2 hb env rk _ Lp hg.2.2 hE hU
        refine ⟨B, fun e => (by cases e), fun _ => SP (n := tQn b) (fun ky => ?_) (B2 rfl)⟩
        rw [show yL y = yB 1 from hg.2.1] at ky
        exact absurd ky (by decide)
    · refine (fun (M : oRd tE tN Ui Lp (cvE f pp ee wt tN (.inner g d z a b) env rk) ∧ (yK y = 1 → chE tE tN Ui (Lp ++ cvE f pp ee wt tN (.inner g d z a b) env rk) y (gRk f pp ee rk (.inner g d z a b) env))) => ⟨M.1, fun _ => M.2, fun e => by cases e⟩) ?_
      rcases h with ⟨rfl, -, ha, hb⟩ | ⟨rfl, -, ha, hb⟩ | ⟨rfl, -, ha⟩ | ⟨rfl, -, hb⟩ | ⟨rfl, -, hb⟩ | ⟨rfl, -, -, ha⟩ | ⟨rfl | rfl, -⟩ | ⟨rfl | rfl | rfl, -⟩ | ⟨rfl | rfl | rfl, -⟩ | ⟨rfl, -⟩ | ⟨rfl, -, ha⟩ | ⟨rfl, -, ha, -⟩ | ⟨rfl, -⟩ | ⟨rfl, -, ha, hb⟩
      · -- let
        have hU : ∀ x, x ∈ (((0, 2 * d.1) : Nat × Nat), 0) :: (gUi a ++ gUi b) → x ∈ Ui := hU
        have hg : tE d.1 = y ∧ gOk f pp ee tE tN a env (tN (d.1 + 1)) ∧ gOk f pp ee tE tN b (env ++ [d.1 + 1]) y := hg
        obtain ⟨A, A', -⟩ := cv_or (wt := wt) h0 a (by rw [if_neg (by decide)] at f2; exact f2) 0 ha env rk _ Lp hg.2.1 hE (fun x hx => hU x (List.mem_cons_of_mem _ (List.mem_append_left _ hx)))
        have B := (cv_or (wt := wt) h0 b f3 0 hb _ _ _ (Lp ++ cvE f pp ee wt tN a env rk) hg.2.2 (UP _ _ (A' rfl)) (fun x hx => hU x (List.mem_cons_of_mem _ (List.mem_append_right _ hx)))).1
        exact ⟨A.ap B, fun _ => TEM (hU _ (List.mem_cons_self ..)) hg.1⟩
      · -- let rec
        have hU : ∀ x, x ∈ (((0, 2 * d.1) : Nat × Nat), 0) :: (((0, 2 * d.1 + 1) : Nat × Nat), 0) :: ((List.range d.2.1).map (fun i => (((1, d.1 + 3 + i) : Nat × Nat), i)) ++ (gUi a ++ gUi b)) → x ∈ Ui := hU
        have hg : tE d.1 = y ∧ (∃ r, tN (d.1 + 2) = gFn tN d.2.1 (d.1 + 3) r ∧ gOk f pp ee tE tN a (env ++ ([d.1 + 2] ++ List.range' (d.1 + 3) d.2.1)) r) ∧ gOk f pp ee tE tN b (env ++ [d.1 + 2]) y := hg
        obtain ⟨hy, ⟨rr, hf, ga⟩, gb⟩ := hg
        have F : ∀ {L}, chE tE tN Ui L (tN (d.1 + 2)) 0 := fun {L} => Or.inl ⟨_, hU _ (List.mem_cons_of_mem _ (List.mem_cons_self ..)), (uY_f d.1).symm, Nat.le_refl 0⟩
        have EA := rkP_p (P := fun u r => yK (tN u) = 1 → chE tE tN Ui Lp (tN u) r) d.2.1 (d.1 + 3) 0 (rkU rk (d.1 + 2) 0) (env ++ [d.1 + 2]) (U1 _ _ (fun _ => F)) (fun j hj _ => Or.inl ⟨((1, d.1 + 3 + j), j), hU _ (List.mem_cons_of_mem _ (List.mem_cons_of_mem _ (List.mem_append_left _ (List.mem_map.mpr ⟨j, List.mem_range.mpr hj, rfl⟩)))), (uY_p _).symm, by omega⟩)
        rw [List.append_assoc] at EA
        have A := (cv_or (wt := wt) h0 a (by rw [if_neg (by decide)] at f2; exact f2) 0 ha _ _ _ Lp ga EA (fun x hx => hU x (List.mem_cons_of_mem _ (List.mem_cons_of_mem _ (List.mem_append_right _ (List.mem_append_left _ hx)))))).1
        have B := (cv_or (wt := wt) h0 b f3 0 hb _ _ _ (Lp ++ cvE f pp ee wt tN a (env ++ ([d.1 + 2] ++ List.range' (d.1 + 3) d.2.1)) (rkP d.2.1 (d.1 + 3) 0 (rkU rk (d.1 + 2) 0))) gb (UP _ _ (fun _ => F)) (fun x hx => hU x (List.mem_cons_of_mem _ (List.mem_cons_of_mem _ (List.mem_append_right _ (List.mem_append_right _ hx)))))).1
        exact ⟨A.ap B, fun _ => TEM (hU _ (List.mem_cons_self ..)) hy⟩
      · -- fun
        have hU : ∀ x, x ∈ (((0, 2 * d.1) : Nat × Nat), 0) :: (((1, d.1 + 1) : Nat × Nat), 0) :: gUi a → x ∈ Ui := hU
        have hg : tE d.1 = y ∧ ∃ r, y = yA (tN (d.1 + 1)) r ∧ gOk f pp ee tE tN a (env ++ [d.1 + 1]) r := hg
        obtain ⟨hy, rr, hyr, ga⟩ := hg
        have A := (cv_or (wt := wt) h0 a (by rw [if_neg (by decide)] at f2; exact f2) 0 ha _ _ _ Lp ga (U1 _ _ (fun _ => Or.inl ⟨_, hU _ (List.mem_cons_of_mem _ (List.mem_cons_self ..)), (uY_p _).symm, Nat.le_refl 0⟩)) (fun x hx => hU x (List.mem_cons_of_mem _ (List.mem_cons_of_mem _ hx)))).1
        exact ⟨A, fun _ => TEM (hU _ (List.mem_cons_self ..)) hy⟩
      · -- if
        have hU : ∀ x, x ∈ (((0, 2 * d.1) : Nat × Nat), 0) :: gUi b → x ∈ Ui := hU
        have hg : tE d.1 = y ∧ gCk f pp ee tN env a ∧ gOk f pp ee tE tN b env y := hg
        exact ⟨(cv_or (wt := wt) h0 b f3 1 hb env rk y Lp hg.2.2 hE (fun x hx => hU x (List.mem_cons_of_mem _ hx))).1, fun _ => TEM (hU _ (List.mem_cons_self ..)) hg.1⟩
      · obtain ⟨B, B', -⟩ := cv_or (wt := wt) h0 b f3 0 hb env rk y Lp hg.2 hE hU
        exact ⟨B, B' rfl⟩
      · obtain ⟨A, A', -⟩ := cv_or (wt := wt) h0 a (by rw [if_neg (by decide)] at f2; exact f2) 0 ha env rk y Lp hg.2.2 hE hU
        exact ⟨A, A' rfl⟩
      · exact ⟨trivial, fun hk => absurd hk (by rw [show y = yB 2 from hg.1]; decide)⟩
      · refine ⟨trivial, fun hk => ?_⟩
        have hy : y = gSk f pp ee tN env d.2.2.2.1.2 := hg.1
        show chE tE tN Ui (Lp ++ []) y (if isN d.2.2.2.1.2 = true then rk (gNu f pp ee env (d.2.2.2.1.2.headD (0, false, 0)).2.2) else 0)
        rw [List.append_nil]
        unfold gSk at hy
        by_cases c : isN d.2.2.2.1.2 = true
        · rw [if_pos c] at hy ⊢
          rw [hy] at hk ⊢
          exact NAM _ hk
        · rw [if_neg c] at hy
          rw [hy] at hk
          exact absurd hk (by decide)
      · exact ⟨trivial, fun hk => absurd hk (by rw [show y = yB 1 from hg]; decide)⟩
      · exact ⟨trivial, fun hk => absurd hk (by rw [show y = yB 1 from hg]; decide)⟩
      · exact ⟨trivial, fun hk => absurd hk (by rw [show y = yB 3 from hg]; decide)⟩
      · exact ⟨trivial, fun hk => absurd hk (by rw [show y = yB 0 from hg.1]; decide)⟩
      · exact ⟨trivial, fun hk => absurd hk (by rw [show y = yB 0 from hg.1]; decide)⟩
      · exact ⟨trivial, fun hk => absurd hk (by rw [show y = yB 0 from hg.1]; decide)⟩
      · exact ⟨trivial, fun hk => absurd hk (by rw [show y = yB 0 from hg.1]; decide)⟩
      · -- a call
        have hg : y = yRs (tQn a) (tN (gNu f pp ee env d.1)) ∧ gOk f pp ee tE tN a env (tN (gNu f pp ee env d.1)) := hg
        have fa : tF3 a := by rw [if_neg (by decide)] at f2; exact f2
        have A := (cv_or (wt := wt) h0 a fa 2 ha env rk _ (Lp ++ [(tN (gNu f pp ee env d.1), tQn a, rk (gNu f pp ee env d.1), kAr f pp ee wt a env rk (tN (gNu f pp ee env d.1)) (rk (gNu f pp ee env d.1)))]) hg.2 EP hU).1
        have A2 := (cv_or (wt := wt) h0 a fa 2 ha env rk _ Lp hg.2 hE hU).2.2 rfl
        refine ⟨⟨⟨fun h0c => ?_, A2⟩, A⟩, fun hk => ?_⟩
        · have hk := gOk_i ha hg.2 h0c
          exact ⟨hk, NAM _ hk⟩
        · show chE tE tN Ui _ y (rk (gNu f pp ee env d.1) + tQn a)
          rcases Nat.eq_zero_or_pos (tQn a) with q0 | q0
          · have hy : y = tN (gNu f pp ee env d.1) := by rw [hg.1, q0]; rfl
            rw [hy] at hk ⊢
            rw [q0]
            exact (NAM _ hk).mo (fun c hc => List.mem_append_left _ hc)
          · exact Or.inr ⟨(tN (gNu f pp ee env d.1), tQn a, rk (gNu f pp ee env d.1), kAr f pp ee wt a env rk (tN (gNu f pp ee env d.1)) (rk (gNu f pp ee env d.1))), List.mem_append_right _ (List.mem_cons_self ..), q0, hg.1, Nat.le_refl _⟩
      · obtain ⟨A, A', -⟩ := cv_or (wt := wt) h0 a (by rw [if_neg (by decide)] at f2; exact f2) 0 ha env rk y Lp hg hE hU
        exact ⟨A, A' rfl⟩
      · exact ⟨trivial, fun hk => absurd hk (by rw [show y = yB 3 from hg.1]; decide)⟩
      · -- match
        have hU : ∀ x, x ∈ (((0, 2 * d.1) : Nat × Nat), 0) :: (gUi a ++ gUi b) → x ∈ Ui := hU
        obtain ⟨o1, o2, ⟨o3, o4⟩, o5, o6⟩ : tE d.1 = y ∧ tN (gNu f pp ee env (d.1 + 1)) = yB 3 ∧ (tN d.2.1 = yB 0 ∧ tN (d.2.1 + 1) = yB 3) ∧ gOk f pp ee tE tN a env y ∧ gOk f pp ee tE tN b (env ++ [d.2.1, d.2.1 + 1]) y := hg
        have A := (cv_or (wt := wt) h0 a (by rw [if_neg (by decide)] at f2; exact f2) 0 ha env rk _ Lp o5 hE (fun x hx => hU x (List.mem_cons_of_mem _ (List.mem_append_left _ hx)))).1
        have E3 := rkU_p (P := fun u r => yK (tN u) = 1 → chE tE tN Ui (Lp ++ cvE f pp ee wt tN a env rk) (tN u) r) (w := d.2.1 + 1) (n := 0) (UP (M := cvE f pp ee wt tN a env rk) d.2.1 0 (fun hk => by rw [o3] at hk; exact absurd hk (by decide))) (fun hk => by rw [o4] at hk; exact absurd hk (by decide))
        rw [List.append_assoc] at E3
        have B := (cv_or (wt := wt) h0 b f3 0 hb _ _ _ (Lp ++ cvE f pp ee wt tN a env rk) o6 E3 (fun x hx => hU x (List.mem_cons_of_mem _ (List.mem_append_right _ hx)))).1
        exact ⟨A.ap B, fun _ => TEM (hU _ (List.mem_cons_self ..)) o1⟩
end CVR
/-! ROOM: where the first of a type of ARG comes from -/
section ORG
variable {tE tN : Nat → tY} {Ui : List ((Nat × Nat) × Nat)}
/-- what a chain of calls passes is asked for by one of them -/
theorem chR_pa : ∀ (T : List (tY × Nat × Nat × Nat)) (U : tY) (i : Nat) (Y : tY) (r : Nat), chR U i T Y r → ∀ s, s < chN T → ∃ c, c ∈ T ∧ ∃ k, k < c.2.1 ∧ yRs s U = yRs k c.1
  | [], _, _, _, _, _, s, h => absurd h (Nat.not_lt_zero _)
  | c :: T, U, i, Y, r, h, s, hs => by
    have e : chN (c :: T) = c.2.1 + chN T := by unfold chN; rw [List.map_cons, List.sum_cons]
    by_cases q : s < c.2.1
    · exact ⟨c, List.mem_cons_self .., s, q, by rw [h.1.1]⟩
    · obtain ⟨c', h1, k, h2, h3⟩ := chR_pa T _ _ _ _ h.2 (s - c.2.1) (by omega)
      refine ⟨c', List.mem_cons_of_mem _ h1, k, h2, ?_⟩
      rw [← h3, ← yRs_ad, show c.2.1 + (s - c.2.1) = s by omega]
/-- the first of a list for which something holds -/
theorem li_fi {α : Type} (p : α → Prop) : ∀ (L : List α), (∃ c, c ∈ L ∧ p c) → ∃ L1 c L2, L = L1 ++ c :: L2 ∧ p c ∧ ∀ d, d ∈ L1 → ¬ p d
  | [], h => by obtain ⟨_, h, _⟩ := h; cases h
  | d :: L, h => by
    by_cases q : p d
    · exact ⟨[], d, L, rfl, q, fun _ z => (by cases z)⟩
    · obtain ⟨c, hc, pc⟩ := h
      rcases List.mem_cons.mp hc with e | e
      · rw [e] at pc; exact absurd pc q
      · obtain ⟨L1, c1, L2, e1, e2, e3⟩ := li_fi p L ⟨c, e, pc⟩
        refine ⟨d :: L1, c1, L2, by rw [e1]; rfl, e2, fun x hx => ?_⟩
        rcases List.mem_cons.mp hx with z | z
        · rw [z]; exact q
        · exact e3 x z
/-- **ORIGIN: where an arrow is asked for and what it takes is a function, some unit has that function's type as a tail, and its row up to there doesn't hold the arrow** -/
theorem ch_or {L : List (tY × Nat × Nat × Nat)} {M : Nat} (ho : oRd tE tN Ui [] L) (hM : ∀ c, c ∈ L → yZ c.1 ≤ M) {w : tY} (hw : ∃ c, c ∈ L ∧ ∃ i, i < c.2.1 ∧ w = yRs i c.1) (hk : yK (yL w) = 1) : ∃ x, x ∈ Ui ∧ ∃ b, yL w = yRs b (uY tE tN x.1) ∧ ∀ s, s < b → yRs s (uY tE tN x.1) ≠ w := by
  obtain ⟨L1, c, L2, e, ⟨i, hi, ew⟩, no⟩ := li_fi (fun c => ∃ i, i < c.2.1 ∧ w = yRs i c.1) L hw
  rw [e] at ho hM
  have C := ho.at
  rw [List.nil_append] at C
  rw [ew] at hk
  obtain ⟨r, hr⟩ := C.2 i hi hk
  obtain ⟨x, hx, T, hT, ch⟩ := ch_ex (L := L1) (M := M) (fun d hd h0 => ((oRd.be ho).al d hd).1 h0) (fun d hd => hM d (List.mem_append_left _ hd)) (M + 1) _ r hk (by omega) hr
  obtain ⟨eY, -⟩ := chR_to _ _ _ _ _ ch
  refine ⟨x, hx, chN T, by rw [ew]; exact eY, fun s hs es => ?_⟩
  obtain ⟨d, hd, k, hk', ek⟩ := chR_pa _ _ _ _ _ ch s hs
  exact no d (hT d hd) ⟨k, hk', by rw [← es, ek]⟩
end ORG
section TXR
variable {T len cnt j N S P A x0 : Nat} {kk pp ee f fc : Nat → Int32} {xs : List tQ} {is : List (Nat × Nat)} {e : tT} {α : Nat → tY} {τ : zSt}
/-- **the calls of a PROGRAM in the order of its text** -/
theorem tx_or {wt : Nat} (hT : 2010 ≤ T) (hp : pgT T len cnt j kk pp ee f fc xs is e α) (hr : rPo T len cnt kk pp ee f xs is e N S P A x0 τ) : oRd (pTE f pp ee is e α) (pTN f pp ee is e α) (gUi e) [] (cvE f pp ee wt (pTN f pp ee is e α) e (is.map Prod.fst) (fun _ => 0)) := by
  obtain ⟨⟨-, -, -, -, -, f3, -⟩, -, -, w0, nd, gok⟩ := tx_1 hT hp hr
  obtain ⟨i1, -⟩ := pTN_in (f := f) (pp := pp) (ee := ee) (α := α) nd
  obtain ⟨-, -, -, -, -, ⟨⟨g1, g2, ⟨i0, g3⟩, ⟨-, -, g4''⟩, -, g6, -⟩, -, -, p6'''⟩, -⟩ := hp
  have h0 : yK (pTN f pp ee is e α 0) ≠ 1 := by
    have e1 : (mEnd f pp ee is e).2.2.1 0 = mB 0 := by
      show (mE f pp ee e (is.map Prod.fst) (mIn is mI0)).1.2.2.1 0 = _
      rw [(mLe.e e _ _).2.2 0 (fun z => w0 (List.mem_append_right _ z)), mIn_0 is mI0 (fun z => w0 (List.mem_append_left _ z))]
      rfl
    show yK ((mEnd f pp ee is e).2.2.1 0 α) ≠ 1
    rw [e1]
    show yK (yB 0) ≠ 1
    decide
  have hE : ∀ u, u ∈ is.map Prod.fst → yK (pTN f pp ee is e α u) = 1 → chE (pTE f pp ee is e α) (pTN f pp ee is e α) (gUi e) [] (pTN f pp ee is e α u) 0 := fun u hu hk => by
    obtain ⟨y, hy, rfl⟩ := List.mem_map.mp hu
    rw [i1 y hy] at hk
    have hk : y.2 + 1 + 1 = 1 := hk
    omega
  exact (cv_or h0 e f3 0 g2 (is.map Prod.fst) (fun _ => 0) _ [] gok hE (fun x h => h)).1
end TXR
