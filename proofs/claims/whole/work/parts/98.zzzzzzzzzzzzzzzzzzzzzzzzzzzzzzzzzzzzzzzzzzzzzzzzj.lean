/-! ROOM: funs whose heads ask for parts of a type -/
section TZF
variable {ρ : Nat → Nat × Nat} {tE tN : Nat → tY} {Un : List ((Nat × Nat) × Nat)} {Ls W : List Nat} {l : List (Nat × tY × List Nat)}
theorem ex_B : ∀ Zf : List tY, (∀ z, z ∈ Zf → ∃ x, x ∈ l ∧ fuP x = true ∧ z = x.2.1) → ∃ B : List (Nat × tY × List Nat), B.map (fun x => x.2.1) = Zf ∧ ∀ b, b ∈ B → b ∈ l ∧ fuP b = true
  | [], _ => ⟨[], rfl, fun b h => by cases h⟩
  | z :: Zf, h => by
    obtain ⟨B, b1, b2⟩ := ex_B Zf (fun y hy => h y (List.mem_cons_of_mem _ hy))
    obtain ⟨x, h1, h2, h3⟩ := h z (List.mem_cons_self ..)
    refine ⟨x :: B, by rw [List.map_cons, b1, h3], fun b hb => ?_⟩
    rcases List.mem_cons.mp hb with q | q
    · rw [q]; exact ⟨h1, h2⟩
    · exact b2 b q
/-- **a unit, funs whose heads are smaller than it, and the other funs** -/
theorem tl_zf (h : tlH ρ tE tN Un Ls W l) {id0 : Nat × Nat} {m0 : Nat} (hu : (id0, m0) ∈ Un) {Zf : List tY} (hn : Zf.Nodup) (hz : ∀ z, z ∈ Zf → (∃ x, x ∈ l ∧ fuP x = true ∧ z = x.2.1) ∧ yAr z < yAr (uY tE tN id0)) : yAr (uY tE tN id0) + (Zf.map yAr).sum + (l.filter fuP).length ≤ tlN l + 1 + Zf.length := by
  obtain ⟨B, b1, b2⟩ := ex_B (l := l) Zf (fun z hz' => (hz z hz').1)
  obtain ⟨x0, hx0, le, -⟩ := tl_in h hu
  have nB : B.Nodup := List.Pairwise.of_map (R := fun a b => a ≠ b) (S := fun a b => a ≠ b) (fun x : Nat × tY × List Nat => x.2.1) (fun a b hne e => hne (by rw [e])) (by rw [b1]; exact hn)
  have n0 : x0 ∉ B := fun c => by
    have m : x0.2.1 ∈ Zf := by rw [← b1]; exact List.mem_map.mpr ⟨x0, c, rfl⟩
    have := (hz _ m).2
    omega
  have K := tl_B h (B := x0 :: B) (List.nodup_cons.mpr ⟨n0, nB⟩) (fun b hb => by
    rcases List.mem_cons.mp hb with q | q
    · rw [q]; exact hx0
    · exact (b2 b q).1)
  have e1 : B.map (fun x : Nat × tY × List Nat => yAr x.2.1) = Zf.map yAr := by
    rw [← b1, List.map_map]
    rfl
  have e2 : B.length = Zf.length := by rw [← b1, List.length_map]
  rw [List.map_cons, List.sum_cons, List.length_cons, e1, e2] at K
  omega
end TZF
