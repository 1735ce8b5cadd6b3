/-! the invariant at the start -/
section LZZ
variable {κ : oKv} {T sz : Nat}
theorem lU_k (κ : oKv) (sz : Nat) {q ci : Nat} {fs : List Value} (h : (lsh (lU κ sz)).1 q = some (.inr (ci, fs))) : (q = sz ∧ ci = 14) ∨ (q = sz + 4 ∧ ci = 1) ∨ (q = sz + 5 ∧ ci = 3) ∨ (q = sz + 6 ∧ ci = 8) ∨ (q = sz + 12 ∧ ci = 5) := by
  have hr := lU_rm κ sz
  have h1 : sz ≤ q := Nat.le_of_not_lt (fun w => by rw [hr.1 q w] at h; cases h)
  obtain ⟨k, rfl⟩ : ∃ k, q = sz + k := ⟨q - sz, by omega⟩
  have h2 : (lU κ sz).1 (sz + k) = _ := hS_at sz k 19 7590 _
  have h3 : (lsh (lU κ sz)).1 (sz + k) = (lU κ sz).1 (sz + k) := rfl
  rw [h3, h2] at h
  match k with
  | 0 => injection h with h; injection h with h; injection h with h _; exact Or.inl ⟨rfl, h.symm⟩
  | 1 => injection h with h; injection h
  | 2 => injection h with h; injection h
  | 3 => injection h with h; injection h
  | 4 => injection h with h; injection h with h; injection h with h _; exact Or.inr (Or.inl ⟨rfl, h.symm⟩)
  | 5 => injection h with h; injection h with h; injection h with h _; exact Or.inr (Or.inr (Or.inl ⟨rfl, h.symm⟩))
  | 6 => injection h with h; injection h with h; injection h with h _; exact Or.inr (Or.inr (Or.inr (Or.inl ⟨rfl, h.symm⟩)))
  | 7 => injection h with h; injection h
  | 8 => injection h with h; injection h
  | 9 => injection h with h; injection h
  | 10 => injection h with h; injection h
  | 11 => injection h with h; injection h
  | 12 => injection h with h; injection h with h; injection h with h _; exact Or.inr (Or.inr (Or.inr (Or.inr ⟨rfl, h.symm⟩)))
  | 13 => injection h with h; injection h
  | 14 => injection h with h; injection h
  | 15 => injection h with h; injection h
  | 16 => injection h with h; injection h
  | 17 => injection h with h; injection h
  | 18 => injection h with h; injection h
  | k + 19 => cases h
theorem lU_5 (κ : oKv) (sz : Nat) : (lU κ sz).1 (sz + 5) = some (.inr (3, [.ref (sz + 6), .ref (sz + 8), .ref (sz + 9), .int 0, .ref (sz + 10), .ref (sz + 11), .int 0, .int 0, .null, .int 0])) := hS_at sz 5 19 7590 _
theorem lU_6 (κ : oKv) (sz : Nat) : (lU κ sz).1 (sz + 6) = some (cOct (sz + 7)) := hS_at sz 6 19 7590 _
theorem lU_7 (κ : oKv) (sz : Nat) : (lU κ sz).1 (sz + 7) = some cL0 := hS_at sz 7 19 7590 _
theorem lU_8 (κ : oKv) (sz : Nat) : (lU κ sz).1 (sz + 8) = some (cQ (oq 7).1 40) := hS_at sz 8 19 7590 _
theorem lU_9 (κ : oKv) (sz : Nat) : (lU κ sz).1 (sz + 9) = some (cZ 40) := hS_at sz 9 19 7590 _
theorem lU_10 (κ : oKv) (sz : Nat) : (lU κ sz).1 (sz + 10) = some (cQ (oq 6).1 40) := hS_at sz 10 19 7590 _
theorem lU_11 (κ : oKv) (sz : Nat) : (lU κ sz).1 (sz + 11) = some (cZ 40) := hS_at sz 11 19 7590 _
theorem lU_15 (κ : oKv) (sz : Nat) : (lU κ sz).1 (sz + 15) = some (cJ 64) := hS_at sz 15 19 7590 _
theorem lU_16 (κ : oKv) (sz : Nat) : (lU κ sz).1 (sz + 16) = some (cQ (oq 7).1 1683) := hS_at sz 16 19 7590 _
theorem lU_17 (κ : oKv) (sz : Nat) : (lU κ sz).1 (sz + 17) = some (cI 1683) := hS_at sz 17 19 7590 _
theorem lU_18 (κ : oKv) (sz : Nat) : (lU κ sz).1 (sz + 18) = some (cI 1683) := hS_at sz 18 19 7590 _
theorem lU_3 (κ : oKv) (sz : Nat) : (lU κ sz).1 (sz + 3) = some (cB 128) := hS_at sz 3 19 7590 _
theorem lU_4 (κ : oKv) (sz : Nat) : (lU κ sz).1 (sz + 4) = some (.inr (1, [.int 0, .ref κ.2.2.1, .int 0])) := hS_at sz 4 19 7590 _
/-- **the invariant holds at the start** -/
theorem lZ_0 (κ : oKv) (T sz : Nat) (hκ : κ.2.2.1 < sz) : lZ κ T sz sz 0 (sz + 19) (sz + 5) (sz + 6) 0 ((sz : Int) + 123) 64 (128, 128, 0) none (lsh (lU κ sz)) zst0 := by
  have hr := lU_rm κ sz
  obtain ⟨h1, h2, h3, h4, h5, -⟩ := lJ_0 κ T sz
  refine ⟨⟨h1, h2, h3, h4, h5⟩, ⟨?_, ?_, fun q gs e => ?_, ⟨hr.2.1, Nat.zero_le _, fun w fs i r _ e => ?_, fun w w' fs fs' i r _ _ e => ?_⟩, fun w fs e => ?_, ?_, ?_⟩, ?_, ⟨⟨_, lU_0 κ sz, rfl, rfl⟩, rfl⟩⟩
  · exact ⟨_, sz + 12, _, sz + 13, sz + 15, fun _ => 0, sz + 16, sz + 17, sz + 18, fun _ => none, fun _ => 0, fun _ => 0, ⟨lU_0 κ sz, rfl⟩, ⟨lU_12 κ sz, rfl, rfl⟩, ⟨rfl, lU_15 κ sz, by omega, by omega, by omega⟩, ⟨⟨rfl, rfl, rfl⟩, ⟨lU_16 κ sz, lU_17 κ sz, lU_18 κ sz⟩, by omega⟩, by omega⟩
  · refine ⟨_, sz + 12, _, sz + 13, sz + 15, sz + 7, sz + 8, sz + 9, sz + 10, sz + 11, 0, 0, 0, 0, 0, fun _ => 0, 0, none, 0, [], [], ⟨lU_0 κ sz, rfl, rfl⟩, ⟨lU_12 κ sz, rfl, rfl⟩, ⟨lU_5 κ sz, ⟨lU_6 κ sz, lU_7 κ sz⟩, ⟨fun _ => none, fun _ => 0, lU_8 κ sz, lU_9 κ sz, fun k x e => ?_⟩, ⟨fun _ => none, fun _ => 0, lU_10 κ sz, lU_11 κ sz, fun k x e => ?_⟩, ⟨by decide, by decide⟩, by omega⟩, ⟨by omega, rfl⟩, by omega, by omega, by omega⟩
    · cases e
    · cases e
  · have h := lU_k κ sz e; omega
  · have h := lU_k κ sz e; omega
  · have h := lU_k κ sz e; omega
  · have h := lU_k κ sz e; omega
  · show ((sz + 19 + 123 : Nat) : Int) = ((19 : Nat) : Int) + ((sz : Int) + 123)
    omega
  · exact ⟨_, sz + 1, sz + 2, sz + 3, sz + 4, κ.2.2.1, 0, 0, fun _ => 0, fun _ => 0, fun _ => none, lU_0 κ sz, ⟨rfl, rfl, rfl, rfl⟩, ⟨lU_2 κ sz, lU_3 κ sz⟩, ⟨by decide, by decide, by omega, by omega, by omega, by omega, by omega⟩, ⟨Or.inr (Nat.zero_le _), Or.inr (Nat.zero_le _), by omega, Or.inr (Nat.zero_le _)⟩, ⟨lU_4 κ sz, Or.inl ⟨rfl, rfl, rfl, hr.1 _ hκ⟩, fun j hj => absurd hj (by omega)⟩, by omega, Nat.zero_le _⟩
  · show sz + 19 ≤ sz + 19 + 123
    omega
end LZZ
