/-! CAPACITIES: lets among the other pieces -/
theorem fl_1 {f : Nat → Bool} {c0 : Nat} : ∀ (E : List Nat), E.Nodup → (∀ c, c ∈ E → f c = false → c = c0) → E.length ≤ (E.filter f).length + 1
  | [], _, _ => Nat.zero_le _
  | a :: E, nd, h => by
    obtain ⟨n1, n2⟩ := List.nodup_cons.mp nd
    have I := fl_1 E n2 (fun c hc => h c (List.mem_cons_of_mem _ hc))
    cases fa : f a with
    | true =>
      rw [List.filter_cons_of_pos (p := f) fa, List.length_cons, List.length_cons]
      omega
    | false =>
      have ea := h a (List.mem_cons_self ..) fa
      have e : E.filter f = E := List.filter_eq_self.mpr (fun c hc => by
        cases fc : f c with
        | true => rfl
        | false =>
          have := h c (List.mem_cons_of_mem _ hc) fc
          rw [this, ← ea] at hc
          exact absurd hc n1)
      rw [List.filter_cons_of_neg (p := f) (by rw [fa]; decide), e, List.length_cons]
      omega
section LTC
variable {ρ : Nat → Nat × Nat} {tE tN : Nat → tY} {Un : List ((Nat × Nat) × Nat)} {Ls W : List Nat} {lc : List ((Nat × tY × List Nat) × Nat)} {p1 p2 : (Nat × Nat) × tY × Nat} {C1 C2 : List Nat}
/-- a let's piece -/
theorem pc_lt (H : tlQ ρ tE tN Un Ls W lc) {id : Nat × Nat} {C : List Nat} (hC : uLc ρ Un Ls id C) {c : Nat} (hc : c ∈ C) : ∃ p, p ∈ pcs lc ∧ p.1 = (0, 2 * c) ∧ p.2.2 ≤ 10 := by
  obtain ⟨h1, -, -, -, m, m1, m2⟩ := hC.2 c hc
  obtain ⟨y, hy⟩ := H.1.1.2.2.1 c h1
  obtain ⟨x, x1, x2⟩ := List.mem_map.mp hy
  refine ⟨_, pcs_0 x1, by show (0, x.1.1) = (0, 2 * c); rw [x2], ?_⟩
  have e := pc_m (m := m) H (pcs_0 x1) (by show ((0, x.1.1), m) ∈ Un; rw [x2]; exact m2)
  omega
theorem lt_1 (H : tlQ ρ tE tN Un Ls W lc) (L1 : uLc ρ Un Ls p1.1 C1) : C1.length ≤ (((pcs lc).filter (fun q => !(decide (q.1 = p1.1)))).filter (fun p => decide (p.2.2 ≤ 10))).length := by
  refine pg_le (R := fun (c : Nat) (p : (Nat × Nat) × tY × Nat) => p.1 = (0, 2 * c)) (fun x x' p e e' => ?_) C1 _ L1.1 (fun c hc => ?_)
  · have := e.symm.trans e'
    injection this with _ this
    omega
  · obtain ⟨p, q1, q2, q3⟩ := pc_lt H L1 hc
    refine ⟨p, List.mem_filter.mpr ⟨List.mem_filter.mpr ⟨q1, ?_⟩, decide_eq_true q3⟩, q2⟩
    rw [q2, decide_eq_false (fun z => (L1.2 c hc).2.1 z.symm)]
    rfl
/-- **lets of two chains** -/
theorem lt_cn (H : tlQ ρ tE tN Un Ls W lc) (h1 : p1 ∈ pcs lc) (h2 : p2 ∈ pcs lc) (ne : p1.1 ≠ p2.1) (L1 : uLc ρ Un Ls p1.1 C1) (L2 : uLc ρ Un Ls p2.1 C2) : C1.length + C2.length ≤ (((pcs lc).filter (fun p => !(decide (p.1 = p1.1) || decide (p.1 = p2.1)))).filter (fun p => decide (p.2.2 ≤ 10))).length ∨ (C1.length + C2.length ≤ (((pcs lc).filter (fun p => !(decide (p.1 = p1.1) || decide (p.1 = p2.1)))).filter (fun p => decide (p.2.2 ≤ 10))).length + 1 ∧ ((0 < C1.length ∧ p2.2.2 ≤ 10) ∨ (0 < C2.length ∧ p1.2.2 ≤ 10))) := by
  have E : (C1 ++ C2).Nodup := List.nodup_append.mpr ⟨L1.1, L2.1, fun a ha b hb e => ne (by
    rw [← (L1.2 a ha).2.2.1, ← (L2.2 b hb).2.2.1, e])⟩
  have D : ((C1 ++ C2).filter (fun c => !(decide (((0, 2 * c) : Nat × Nat) = p1.1) || decide (((0, 2 * c) : Nat × Nat) = p2.1)))).length ≤ (((pcs lc).filter (fun p => !(decide (p.1 = p1.1) || decide (p.1 = p2.1)))).filter (fun p => decide (p.2.2 ≤ 10))).length := by
    refine pg_le (R := fun (c : Nat) (p : (Nat × Nat) × tY × Nat) => p.1 = (0, 2 * c)) (fun x x' p e e' => ?_) _ _ ((List.filter_sublist).nodup E) (fun c hc => ?_)
    · have := e.symm.trans e'
      injection this with _ this
      omega
    · obtain ⟨m1, m2⟩ := List.mem_filter.mp hc
      have G : ∃ p, p ∈ pcs lc ∧ p.1 = (0, 2 * c) ∧ p.2.2 ≤ 10 := by
        rcases List.mem_append.mp m1 with m1 | m1
        · exact pc_lt H L1 m1
        · exact pc_lt H L2 m1
      obtain ⟨p, q1, q2, q3⟩ := G
      exact ⟨p, List.mem_filter.mpr ⟨List.mem_filter.mpr ⟨q1, by rw [q2]; exact m2⟩, decide_eq_true q3⟩, q2⟩
  have le : (C1 ++ C2).length = C1.length + C2.length := List.length_append
  have notb : ∀ {c : Nat}, (!(decide (((0, 2 * c) : Nat × Nat) = p1.1) || decide (((0, 2 * c) : Nat × Nat) = p2.1))) = false → (0, 2 * c) = p1.1 ∨ (0, 2 * c) = p2.1 := fun {c} h => by
    by_cases e1 : ((0, 2 * c) : Nat × Nat) = p1.1
    · exact Or.inl e1
    · by_cases e2 : ((0, 2 * c) : Nat × Nat) = p2.1
      · exact Or.inr e2
      · rw [decide_eq_false e1, decide_eq_false e2] at h
        cases h
  by_cases A : ∃ c, c ∈ C1 ∧ ((0, 2 * c) : Nat × Nat) = p2.1
  · obtain ⟨c0, a1, a2⟩ := A
    refine Or.inr ⟨?_, Or.inl ⟨List.length_pos_of_mem a1, ?_⟩⟩
    · have := fl_1 (f := fun c => !(decide (((0, 2 * c) : Nat × Nat) = p1.1) || decide (((0, 2 * c) : Nat × Nat) = p2.1))) (c0 := c0) _ E (fun c hc hf => by
        rcases notb hf with e | e
        · rcases List.mem_append.mp hc with m | m
          · exact absurd e.symm (L1.2 c m).2.1
          · have w1 := (L1.2 c0 a1).2.2.2.1 (by rw [← e])
            have w2 := (L2.2 c m).2.2.2.1 (by rw [← a2])
            rw [← e] at w1
            rw [← a2] at w2
            have w1 : 2 * c / 2 ≤ c0 := w1
            have w2 : 2 * c0 / 2 ≤ c := w2
            omega
        · have := e.trans a2.symm
          injection this with _ this
          omega)
      omega
    · obtain ⟨-, -, -, -, m, m1, m2⟩ := L1.2 c0 a1
      have := pc_m (m := m) H h2 (by rw [← a2]; exact m2)
      omega
  · by_cases B : ∃ c, c ∈ C2 ∧ ((0, 2 * c) : Nat × Nat) = p1.1
    · obtain ⟨c0, a1, a2⟩ := B
      refine Or.inr ⟨?_, Or.inr ⟨List.length_pos_of_mem a1, ?_⟩⟩
      · have := fl_1 (f := fun c => !(decide (((0, 2 * c) : Nat × Nat) = p1.1) || decide (((0, 2 * c) : Nat × Nat) = p2.1))) (c0 := c0) _ E (fun c hc hf => by
          rcases notb hf with e | e
          · have := e.trans a2.symm
            injection this with _ this
            omega
          · rcases List.mem_append.mp hc with m | m
            · exact absurd ⟨c, m, e⟩ A
            · exact absurd e.symm (L2.2 c m).2.1)
        omega
      · obtain ⟨-, -, -, -, m, m1, m2⟩ := L2.2 c0 a1
        have := pc_m (m := m) H h1 (by rw [← a2]; exact m2)
        omega
    · left
      have e : (C1 ++ C2).filter (fun c => !(decide (((0, 2 * c) : Nat × Nat) = p1.1) || decide (((0, 2 * c) : Nat × Nat) = p2.1))) = C1 ++ C2 := List.filter_eq_self.mpr (fun c hc => by
        cases hf : (!(decide (((0, 2 * c) : Nat × Nat) = p1.1) || decide (((0, 2 * c) : Nat × Nat) = p2.1))) with
        | true => rfl
        | false =>
          rcases notb hf with e | e
          · rcases List.mem_append.mp hc with m | m
            · exact absurd e.symm (L1.2 c m).2.1
            · exact absurd ⟨c, m, e⟩ B
          · rcases List.mem_append.mp hc with m | m
            · exact absurd ⟨c, m, e⟩ A
            · exact absurd e.symm (L2.2 c m).2.1)
      rw [e, le] at D
      exact D
end LTC
