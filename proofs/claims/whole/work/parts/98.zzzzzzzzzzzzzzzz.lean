/-! the reference: relates() -/
section REL
variable {ks : Nat → Nat} {qs : List Nat} {T n h0 c W : Nat} {B : Int} {L : List oLm} {ns : List Nat}
theorem rTc.cg {M M' : List oLm} {m : Nat → Int64} (h : ∀ l, l ∈ M ↔ l ∈ M') (w : rTc B W M m) : rTc B W M' m := by
  obtain ⟨a, b, d⟩ := w
  refine ⟨a, b, fun i j e => (d i j e).trans ?_⟩
  unfold xCz
  rw [xC.cg h]
theorem i32_neg1 {t : Int32} (ht : t.toInt = 0 ∨ t.toInt = 1 ∨ t.toInt = -1) : (-t).toInt = -t.toInt ∧ - -t = t := by
  have e : t = 0 ∨ t = 1 ∨ t = -1 := by
    rcases ht with e | e | e
    · exact Or.inl (Classical.byContradiction fun z => i32_ne0.mp z e)
    · exact Or.inr (Or.inl (Int32.toInt_inj.mp e))
    · exact Or.inr (Or.inr (Int32.toInt_inj.mp e))
  rcases e with rfl | rfl | rfl <;> decide
set_option maxHeartbeats 1000000 in
/-- relates() of a NAME that does not stand to itself: its limits come to the others -/
theorem r_rel {τ : zSt} {nm a b r : Nat} {t : Int32} {nu : Int64} (hc : c ≤ 60) (hco : rCo τ ns) (hcl : ns.length = c) (ha : ns[a]? = some nm) (hr : r ≤ 4) (ht : t.toInt = 0 ∨ t.toInt = 1 ∨ t.toInt = -1) (e139 : τ.1 139 = t) (e140 : τ.2.1 140 = nu) (hbn : t ≠ 0 → ∃ d, τ.1 138 = nI d ∧ ns[b]? = some d ∧ d ≠ nm) (hb0 : t = 0 → b = 0) (hB : B < 1125899906842624) (hnu : -1125899906842624 ≤ nu.toInt ∧ nu.toInt ≤ 1125899906842624) (hBn : -B ≤ 2 * nu.toInt - 2 ∧ 2 * nu.toInt + 2 ≤ B) (h : rTc B (2 * c) (L.map rnd) (τ.2.2.2 87)) : ∃ m', zF h0 qs ks T (n + 4) 94 [.ref h0, .int (nI nm), .int (nI r)] τ = some (some (.int 1), zG τ 87 m') ∧ rTc B (2 * c) ((facL a (r, uKm b t nu) ++ L).map rnd) m' := by
  have hal : a < c := by rw [← hcl]; exact get_lt ha
  have hbl : b < c := by
    by_cases z : t = 0
    · rw [hb0 z]; omega
    · obtain ⟨d, -, e, -⟩ := hbn z
      rw [← hcl]; exact get_lt e
  obtain ⟨ng1, ng2⟩ := i32_neg1 ht
  have hab : t ≠ 0 → a ≠ b := fun z e => by
    obtain ⟨d, -, e1, e2⟩ := hbn z
    rw [← e, ha] at e1
    injection e1 with e1
    exact e2 e1.symm
  have n0 : t ≠ 0 ∨ t = 0 := (Decidable.em (t = 0)).symm
  have tz : -t = 0 ↔ t = 0 := ⟨fun e => by rw [← ng2, e]; decide, fun e => by rw [e]; decide⟩
  have UP : ∀ (le : Int64) (σ : zSt) (L' : List oLm), le = 0 ∨ le = 1 → rTc B (2 * c) (L'.map rnd) (σ.2.2.2 87) → ∃ m', zF h0 qs ks T (n + 3) 88 [.ref h0, .ref (qs.getD 87 0), .int (nI a), .int 1, .int (nI b), .int (-t), .long (-nu + le)] σ = some (some (.int 1), zG σ 87 m') ∧ rTc B (2 * c) ((fcl a 1 le.toInt (uKm b t nu) :: L').map rnd) m' := fun le σ L' hle w => by
    have l0 : le.toInt = 0 ∨ le.toInt = 1 := by rcases hle with rfl | rfl; exact Or.inl rfl; exact Or.inr rfl
    have en : (-nu + le).toInt = -nu.toInt + le.toInt := by
      rw [j_add (by rw [j_neg (by omega)]; omega) (by rw [j_neg (by omega)]; omega), j_neg (by omega)]
    obtain ⟨m', a1, a2⟩ := r_atL (h0 := h0) (qs := qs) (ks := ks) (T := T) (n := n + 1) (τ := σ) (a := a) (b := b) (ta := 1) (tb := -t) (num := -nu + le) hc hal hbl hB (by rw [en]; omega) (by decide) (by rw [ng1]; omega) (fun z => absurd z.1 (by decide)) (fun _ z => hab (fun e => z (tz.mpr e))) w
    refine ⟨m', a1, ?_⟩
    rw [fcl_aM ht (Or.inl rfl)]
    rw [en, ng1, show (1 : Int32).toInt = 1 from rfl, show -(-nu.toInt + le.toInt) = 1 * nu.toInt - le.toInt by omega, show -t.toInt = -1 * t.toInt by omega] at a2
    exact a2
  have DN : ∀ (le : Int64) (σ : zSt) (L' : List oLm), le = 0 ∨ le = 1 → rTc B (2 * c) (L'.map rnd) (σ.2.2.2 87) → ∃ m', zF h0 qs ks T (n + 3) 88 [.ref h0, .ref (qs.getD 87 0), .int (nI a), .int (-1), .int (nI b), .int t, .long (nu + le)] σ = some (some (.int 1), zG σ 87 m') ∧ rTc B (2 * c) ((fcl a (-1) le.toInt (uKm b t nu) :: L').map rnd) m' := fun le σ L' hle w => by
    have l0 : le.toInt = 0 ∨ le.toInt = 1 := by rcases hle with rfl | rfl; exact Or.inl rfl; exact Or.inr rfl
    have en : (nu + le).toInt = nu.toInt + le.toInt := j_add (by omega) (by omega)
    obtain ⟨m', a1, a2⟩ := r_atL (h0 := h0) (qs := qs) (ks := ks) (T := T) (n := n + 1) (τ := σ) (a := a) (b := b) (ta := -1) (tb := t) (num := nu + le) hc hal hbl hB (by rw [en]; omega) (by decide) (by omega) (fun z => absurd z.1 (by decide)) (fun _ z => hab z) w
    refine ⟨m', a1, ?_⟩
    rw [fcl_aM ht (Or.inr rfl)]
    rw [en, show (-1 : Int32).toInt = -1 from rfl, show -(nu.toInt + le.toInt) = -1 * nu.toInt - le.toInt by omega, show t.toInt = - -1 * t.toInt by omega] at a2
    exact a2
  have D1 : ∀ (le : Int64) (σ : zSt) (L' : List oLm), (le = 0 ∨ le = 1) → rTc B (2 * c) (L'.map rnd) (σ.2.2.2 87) → ∃ m', j_relates_150 T (zF h0 qs ks T (n + 3)) h0 qs ks 1 (nI a) (-1) (nI b) (- -t) nu le σ = some (some (.int 1), zG σ 87 m') ∧ rTc B (2 * c) ((fcl a (-1) le.toInt (uKm b t nu) :: L').map rnd) m' := fun le σ L' hle w => by
    obtain ⟨m', a1, a2⟩ := DN le σ L' hle w
    refine ⟨m', ?_, a2⟩
    unfold j_relates_150
    rw [ng2, a1, zci_at, if_neg (by decide), if_neg (by decide)]
    unfold j_relates_167
    rw [zgd_at (by decide)]
  have R66 : ∃ m', j_relates_66 T (zF h0 qs ks T (n + 3)) h0 qs ks (nI r) (nI a) (nI b) 1 1 (-t) τ = some (some (.int 1), zG τ 87 m') ∧ rTc B (2 * c) ((facL a (r, uKm b t nu) ++ L).map rnd) m' := by
    unfold j_relates_66
    rcases (show r = 0 ∨ r = 1 ∨ r = 2 ∨ r = 3 ∨ r = 4 by omega) with rfl | rfl | rfl | rfl | rfl
    · rw [if_pos (by decide)]
      unfold j_relates_80
      rw [if_neg (by decide)]
      unfold j_relates_107
      obtain ⟨m1, a1, a2⟩ := UP 0 τ L (Or.inl rfl) h
      rw [e140, a1, zci_at]
      unfold j_relates_113
      rw [if_pos (by decide)]
      unfold j_relates_122
      rw [if_neg (by decide), show (zG τ 87 m1).2.1 140 = nu from e140]
      obtain ⟨m2, b1, b2⟩ := D1 0 (zG τ 87 m1) _ (Or.inl rfl) (by rw [zG_at]; exact a2)
      have b1 : j_relates_150 T (zF h0 qs ks T (n + 3)) h0 qs ks 1 (nI a) (-1) (nI b) (- -t) nu 0 (zG τ 87 m1) = _ := b1
      rw [b1, zG_zG]
      refine ⟨m2, rfl, rTc.cg (fun l => ?_) b2⟩
      show l ∈ List.map rnd (fcl a (-1) 0 _ :: fcl a 1 0 _ :: L) ↔ l ∈ List.map rnd (fcl a 1 0 _ :: fcl a (-1) 0 _ :: L)
      simp only [List.map_cons, List.mem_cons]
      exact or_left_comm
    · rw [if_neg (by decide), if_pos (by decide)]
      unfold j_relates_80
      rw [if_pos (by decide)]
      unfold j_relates_107
      obtain ⟨m1, a1, a2⟩ := UP 1 τ L (Or.inr rfl) h
      rw [e140, a1, zci_at]
      unfold j_relates_113
      rw [if_neg (by decide), if_pos (by decide), zgd_at (by decide)]
      exact ⟨m1, rfl, a2⟩
    · rw [if_neg (by decide), if_neg (by decide), if_pos (by decide)]
      unfold j_relates_80
      rw [if_neg (by decide)]
      unfold j_relates_107
      obtain ⟨m1, a1, a2⟩ := UP 0 τ L (Or.inl rfl) h
      rw [e140, a1, zci_at]
      unfold j_relates_113
      rw [if_neg (by decide), if_pos (by decide), zgd_at (by decide)]
      exact ⟨m1, rfl, a2⟩
    · rw [if_neg (by decide), if_neg (by decide), if_neg (by decide)]
      unfold j_relates_113
      rw [if_neg (by decide), if_neg (by decide)]
      unfold j_relates_122
      rw [if_pos (by decide), e140]
      obtain ⟨m2, b1, b2⟩ := D1 1 τ L (Or.inr rfl) h
      have b1 : j_relates_150 T (zF h0 qs ks T (n + 3)) h0 qs ks 1 (nI a) (-1) (nI b) (- -t) nu 1 τ = _ := b1
      exact ⟨m2, b1, b2⟩
    · rw [if_neg (by decide), if_neg (by decide), if_neg (by decide)]
      unfold j_relates_113
      rw [if_neg (by decide), if_neg (by decide)]
      unfold j_relates_122
      rw [if_neg (by decide), e140]
      obtain ⟨m2, b1, b2⟩ := D1 0 τ L (Or.inl rfl) h
      have b1 : j_relates_150 T (zF h0 qs ks T (n + 3)) h0 qs ks 1 (nI a) (-1) (nI b) (- -t) nu 0 τ = _ := b1
      exact ⟨m2, b1, b2⟩
  rw [show n + 4 = (n + 3) + 1 from rfl, zE_relates]
  unfold b_relates
  rw [show n + 3 = (n + 2) + 1 from rfl, r_clA hco ha, zci_at, e139]
  by_cases z : t = 0
  · rw [if_pos z]
    unfold j_relates_25
    rw [e139, if_pos z]
    rw [hb0 z] at R66 ⊢
    exact R66
  · obtain ⟨d, d1, d2, d3⟩ := hbn z
    rw [if_neg z, d1, r_clA hco d2, zci_at]
    unfold j_relates_25
    rw [e139, if_neg z, d1, if_neg (fun e => d3 (nI_inj' (by have := (hco.2.2.2.1 _ _ d2).1; omega) (by have := (hco.2.2.2.1 _ _ ha).1; omega) e))]
    exact R66
end REL
