/-! the start of a script -/
section LST
variable {κ : oKv} {ks : Nat → Nat} {T sz : Nat}
theorem lU_13 (κ : oKv) (sz : Nat) : (lU κ sz).1 (sz + 13) = some (.inl (.long, 6, .inr (.inl (fun _ => 0)))) := by
  have h := hS_at sz 13 19 7590
  exact h _
theorem lU_14 (κ : oKv) (sz : Nat) : (lU κ sz).1 (sz + 14) = some (.inl (.array .int, 6, .inr (.inr (.inr (.inr (fun _ => none)))))) := by
  have h := hS_at sz 14 19 7590
  exact h _
theorem lU_rm (κ : oKv) (sz : Nat) : oRm sz (lsh (lU κ sz)) := by
  have e : ∀ q, (lsh (lU κ sz)).1 q = (lU κ sz).1 q := fun _ => rfl
  refine ⟨fun q hq => ?_, fun q hq => ?_, ?_⟩
  · rw [e]
    show (if sz ≤ q then _ else none) = none
    rw [if_neg (by omega)]
  · have hq : (lU κ sz).2.1 + 123 ≤ q := hq
    have h2 : (lU κ sz).2.1 = sz + 19 := rfl
    rw [e]
    show (if sz ≤ q then _ else none) = none
    rw [if_pos (by omega)]
    exact List.getElem?_eq_none (by show 19 ≤ q - sz; omega)
  · have h2 : (lsh (lU κ sz)).2.1 = sz + 19 + 123 := rfl
    omega
/-- the invariant holds at the start -/
theorem lJ_0 (κ : oKv) (T sz : Nat) : lJ κ T sz sz 0 (lsh (lU κ sz)) zst0 := by
  refine ⟨lU_rel κ sz, lU_rm κ sz, rfl, ⟨0, rfl, Nat.le_refl _⟩, ⟨sz + 12, sz + 13, sz + 14, _, fun _ => 0, fun _ => none, ⟨_, lU_0 κ sz, rfl⟩, ⟨lU_12 κ sz, rfl, rfl, rfl⟩, lU_13 κ sz, lU_14 κ sz, fun i b hi e => (by cases e), fun i j b hi hj e => (by cases e)⟩, Or.inl ⟨⟨_, lU_0 κ sz, rfl, rfl⟩, rfl⟩⟩
end LST
