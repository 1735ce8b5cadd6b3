/-! ROOM: right steps, and the arrows of a deepest way -/
/-- a row goes on behind its beginning -/
theorem ySp_rs : ∀ (n : Nat) (U : tY), yG U → yK (yRs n U) = 1 → ySp U = n + ySp (yRs n U)
  | 0, U, _, _ => by
    show ySp U = 0 + ySp U
    omega
  | n + 1, .leaf, g, _ => absurd g (fun z => z)
  | n + 1, .inner k u v a b, g, h => by
    have h : yK (yRs n b) = 1 := h
    unfold yG at g
    by_cases c : k = 0
    · rw [if_pos c] at g
      have i := ySp_rs n b g.2 h
      show (if k = 0 then ySp b + 1 else 0) = n + 1 + ySp (yRs n b)
      rw [if_pos c]
      omega
    · rw [if_neg c] at g
      rw [g.2, yRs_lf] at h
      exact absurd h (by decide)
section CHR
variable {tE tN : Nat → tY} {Ui : List ((Nat × Nat) × Nat)} {L : List (tY × Nat × Nat × Nat)}
/-- **steps are few: a unit's index, and its row** -/
theorem ch_r {M R : Nat} (hc : ∀ c, c ∈ L → 0 < c.2.1 → yK c.1 = 1 ∧ chE tE tN Ui L c.1 c.2.2.1) (hM : ∀ c, c ∈ L → yZ c.1 ≤ M) (hU : ∀ x, x ∈ Ui → yG (uY tE tN x.1) ∧ x.2 + ySp (uY tE tN x.1) ≤ R + 1) : ∀ y r, chE tE tN Ui L y r → yK y = 1 → r ≤ R := fun y r h hk => by
  obtain ⟨x, h1, T, -, h3⟩ := ch_ex hc hM (M + 1) y r hk (by omega) h
  obtain ⟨e1, e2⟩ := chR_to _ _ _ _ _ h3
  obtain ⟨u1, u2⟩ := hU x h1
  have hk' := hk
  rw [e1] at hk'
  have := ySp_rs _ _ u1 hk'
  rw [← e1] at this
  have := ySp_n hk
  omega
end CHR
/-- where the right steps of a deepest way begin -/
def yWa : tY → List tY
  | .leaf => []
  | .inner k u v a b => if k = 0 then (if yHd b + 1 ≤ yHd a then yWa a else (.inner k u v a b) :: yWa b) else []
theorem yWa_l : ∀ y : tY, (yWa y).length = yHd y
  | .leaf => rfl
  | .inner k u v a b => by
    have ia := yWa_l a
    have ib := yWa_l b
    show (if k = 0 then (if yHd b + 1 ≤ yHd a then yWa a else (.inner k u v a b) :: yWa b) else []).length = if k = 0 then max (yHd a) (yHd b + 1) else 0
    by_cases c : k = 0
    · rw [if_pos c, if_pos c]
      by_cases d : yHd b + 1 ≤ yHd a
      · rw [if_pos d, ia]
        omega
      · rw [if_neg d, List.length_cons, ib]
        omega
    · rw [if_neg c, if_neg c]
      rfl
theorem yWa_in : ∀ (y : tY) (z : tY), z ∈ yWa y → yIn z y ∧ yZ z ≤ yZ y
  | .leaf, z, h => by cases h
  | .inner k u v a b, z, h => by
    unfold yWa at h
    by_cases c : k = 0
    · rw [if_pos c] at h
      by_cases d : yHd b + 1 ≤ yHd a
      · rw [if_pos d] at h
        obtain ⟨h1, h2⟩ := yWa_in a z h
        refine ⟨⟨c, Or.inr (Or.inl h1)⟩, ?_⟩
        show yZ z ≤ yZ a + yZ b + 1
        omega
      · rw [if_neg d] at h
        rcases List.mem_cons.mp h with e | e
        · rw [e]
          exact ⟨⟨c, Or.inl rfl⟩, Nat.le_refl _⟩
        · obtain ⟨h1, h2⟩ := yWa_in b z e
          refine ⟨⟨c, Or.inr (Or.inr h1)⟩, ?_⟩
          show yZ z ≤ yZ a + yZ b + 1
          omega
    · rw [if_neg c] at h
      cases h
theorem yWa_p : ∀ y : tY, (yWa y).Pairwise (fun a b => yZ b < yZ a)
  | .leaf => List.Pairwise.nil
  | .inner k u v a b => by
    have ia := yWa_p a
    have ib := yWa_p b
    unfold yWa
    by_cases c : k = 0
    · rw [if_pos c]
      by_cases d : yHd b + 1 ≤ yHd a
      · rw [if_pos d]; exact ia
      · rw [if_neg d]
        refine List.pairwise_cons.mpr ⟨fun z hz => ?_, ib⟩
        have h2 := (yWa_in b z hz).2
        show yZ z < yZ a + yZ b + 1
        omega
    · rw [if_neg c]; exact List.Pairwise.nil
/-- a list falls into two -/
theorem sp_2 {α : Type} {P Q : α → Prop} : ∀ l : List α, (∀ x, x ∈ l → P x ∨ Q x) → ∃ l1 l2 : List α, l1.Sublist l ∧ l2.Sublist l ∧ l1.length + l2.length = l.length ∧ (∀ x, x ∈ l1 → P x) ∧ ∀ x, x ∈ l2 → Q x
  | [], _ => ⟨[], [], List.Sublist.refl _, List.Sublist.refl _, rfl, fun x h => (by cases h), fun x h => (by cases h)⟩
  | c :: l, h => by
    obtain ⟨l1, l2, s1, s2, s3, s4, s5⟩ := sp_2 l (fun x hx => h x (List.mem_cons_of_mem _ hx))
    rcases h c (List.mem_cons_self ..) with w | w
    · refine ⟨c :: l1, l2, s1.cons₂ c, s2.cons c, ?_, fun x hx => ?_, s5⟩
      · rw [List.length_cons, List.length_cons]; omega
      · rcases List.mem_cons.mp hx with e | e
        · rw [e]; exact w
        · exact s4 x e
    · refine ⟨l1, c :: l2, s1.cons c, s2.cons₂ c, ?_, s4, fun x hx => ?_⟩
      · rw [List.length_cons, List.length_cons]; omega
      · rcases List.mem_cons.mp hx with e | e
        · rw [e]; exact w
        · exact s5 x e
/-- what two lists of calls ask for, one in another: those that the second asks for are no more than its ARGS -/
theorem cvQ_2 {C O : List (tY × Nat)} (Z : List tY) (hp : Z.Pairwise (fun a b => yZ b < yZ a)) (hz : ∀ z, z ∈ Z → cvQ C z ∨ cvQ O z) : ∃ Z1 : List tY, Z1.Sublist Z ∧ Z1.Pairwise (fun a b => yZ b < yZ a) ∧ (∀ z, z ∈ Z1 → cvQ C z) ∧ Z.length ≤ Z1.length + (O.map Prod.snd).sum := by
  obtain ⟨l1, l2, s1, s2, s3, s4, s5⟩ := sp_2 Z hz
  refine ⟨l1, s1, hp.sublist s1, s4, ?_⟩
  have nz : l2.Nodup := (hp.sublist s2).imp (fun {a b} h e => by rw [e] at h; exact Nat.lt_irrefl _ h)
  have ln := nd_sb l2 (O.flatMap (fun c => (List.range c.2).map (fun i => yRs i c.1))) nz (fun z h => by
    obtain ⟨c, h1, i, h2, h3⟩ := s5 z h
    exact List.mem_flatMap.mpr ⟨c, h1, List.mem_map.mpr ⟨i, List.mem_range.mpr h2, h3.symm⟩⟩)
  have ll : ∀ O : List (tY × Nat), (O.flatMap (fun c => (List.range c.2).map (fun i => yRs i c.1))).length = (O.map Prod.snd).sum := fun O => by
    induction O with
    | nil => rfl
    | cons j O ih => rw [List.flatMap_cons, List.length_append, ih, List.length_map, List.length_range, List.map_cons, List.sum_cons]
  rw [ll] at ln
  omega
