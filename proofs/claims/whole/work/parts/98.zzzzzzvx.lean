/-! E's as they are read: words of PARTS, ARGS in ( ) -/
def sGd (cnt : Nat) (ps : List tP) : Prop := (∀ p, p ∈ ps → p.2.2 < cnt) ∧ ps.length ≤ 1001
def tGd (kk : Nat → Int32) (cnt : Nat) : tT → Prop
  | .leaf => True
  | .inner g d _ a b => (sGd cnt d.2.2.2.1.2 ∧ sGd cnt d.2.2.2.2.2) ∧ (g = 33 → d.1 < cnt ∧ ((d.2.1 = 1 ∧ kk d.1 = nI 40) ∨ (d.2.1 = 0 ∧ (kk d.1 = nI 1 ∨ kk d.1 = nI 2)))) ∧ ((g = 24 ∨ g = 25 → a = .leaf ∧ b = .leaf) ∧ (g = 14 ∨ g = 18 → a = .leaf ∧ b = .leaf) ∧ (g = 3 ∨ g = 6 ∨ g = 15 → b = .leaf)) ∧ tGd kk cnt a ∧ tGd kk cnt b
section TGD
variable {kk : Nat → Int32} {T cnt : Nat}
theorem sGd.nil : sGd cnt s0.2 := ⟨fun p hp => (by cases hp), by show 0 ≤ 1001; omega⟩
theorem aSm_gd (hc : cnt ≤ 2000) {i j : Nat} {S : tS} (h : aSm kk T i = .inr (S, j)) (hj : j ≤ cnt) : sGd cnt S.2 := by
  obtain ⟨-, -, -, -, h5, h6⟩ := aSm_fx h
  exact ⟨fun p hp => by have := (h5 p hp).2; omega, by omega⟩
theorem aC_gd (hc : cnt ≤ 2000) (k i : Nat) (t : tT) (j : Nat) (h : aEi kk T (aSi kk T k) i = .inr (t, j)) : i < j ∧ (j ≤ cnt → tGd kk cnt t) := by
  have n33 : ∀ {g : Nat} {X : Prop}, g ≠ 33 → (g = 33 → X) := fun h z => absurd z h
  have n24 : ∀ {g : Nat} {a b : tT}, ¬ (g = 24 ∨ g = 25 ∨ g = 14 ∨ g = 18 ∨ g = 3 ∨ g = 6 ∨ g = 15) → (g = 24 ∨ g = 25 → a = .leaf ∧ b = .leaf) ∧ (g = 14 ∨ g = 18 → a = .leaf ∧ b = .leaf) ∧ (g = 3 ∨ g = 6 ∨ g = 15 → b = .leaf) := fun h => ⟨fun z => absurd (z.elim Or.inl (fun y => Or.inr (Or.inl y))) h, fun z => absurd (z.elim (fun y => Or.inr (Or.inr (Or.inl y))) (fun y => Or.inr (Or.inr (Or.inr (Or.inl y))))) h, fun z => absurd (by omega) h⟩
  have nb : ∀ {g : Nat} {a : tT}, ¬ (g = 24 ∨ g = 25 ∨ g = 14 ∨ g = 18) → (g = 24 ∨ g = 25 → a = .leaf ∧ (.leaf : tT) = .leaf) ∧ (g = 14 ∨ g = 18 → a = .leaf ∧ (.leaf : tT) = .leaf) ∧ (g = 3 ∨ g = 6 ∨ g = 15 → (.leaf : tT) = .leaf) := fun h => ⟨fun z => absurd (by omega) h, fun z => absurd (by omega) h, fun _ => rfl⟩
  refine (aC_ind (P := fun i t j => i < j ∧ (j ≤ cnt → tGd kk cnt t)) (R := fun i t j => i ≤ j ∧ (j ≤ cnt → tGd kk cnt t)) ?_ ?_ ?_ ?_ ?_ ?_ ?_ ?_ k).2 i t j h
  · exact fun i c j _ h => ⟨by omega, fun hj => ⟨⟨sGd.nil, sGd.nil⟩, n33 (by decide), n24 (by decide), h.2 hj, trivial⟩⟩
  · exact fun i c j _ h _ => ⟨by omega, fun hj => h.2 (by omega)⟩
  · exact fun i v _ => ⟨by omega, fun _ => ⟨⟨sGd.nil, sGd.nil⟩, n33 (by decide), n24 (by decide), trivial, trivial⟩⟩
  · exact fun i S j h1 _ => ⟨(aSm_fx h1).1.2, fun _ => ⟨⟨sGd.nil, sGd.nil⟩, n33 (by decide), ⟨fun _ => ⟨rfl, rfl⟩, fun _ => ⟨rfl, rfl⟩, fun _ => rfl⟩, trivial, trivial⟩⟩
  · exact fun i S l S' j _ h1 h2 => by
      have a := (aSm_fx h1).1.2
      have b := (aSm_fx h2).1.2
      exact ⟨by omega, fun hj => ⟨⟨aSm_gd hc h1 (by omega), aSm_gd hc h2 hj⟩, n33 (by decide), ⟨fun _ => ⟨rfl, rfl⟩, fun _ => ⟨rfl, rfl⟩, fun _ => rfl⟩, trivial, trivial⟩⟩
  · exact fun i => ⟨Nat.le_refl _, fun _ => trivial⟩
  · exact fun g i c l cs j _ _ h1 h2 => ⟨by omega, fun hj => ⟨⟨sGd.nil, sGd.nil⟩, n33 (by decide), n24 (by decide), h1.2 (by omega), h2.2 hj⟩⟩
  · exact fun g i c l cs j hg h1 h2 => ⟨by omega, fun hj => by
      cases cs with
      | leaf => exact h1.2 (by omega)
      | inner => exact ⟨⟨sGd.nil, sGd.nil⟩, n33 (by omega), n24 (by omega), h1.2 (by omega), h2.2 hj⟩⟩
set_option maxHeartbeats 1000000 in
theorem aE_gd (hc : cnt ≤ 2000) (k i : Nat) (t : tT) (j : Nat) (h : aE kk T k i = .inr (t, j)) : i < j ∧ (j ≤ cnt → tGd kk cnt t) := by
  have z := @sGd.nil cnt
  have n33 : ∀ {g : Nat} {X : Prop}, g ≠ 33 → (g = 33 → X) := fun h z => absurd z h
  have n24 : ∀ {g : Nat} {a b : tT}, ¬ (g = 24 ∨ g = 25 ∨ g = 14 ∨ g = 18 ∨ g = 3 ∨ g = 6 ∨ g = 15) → (g = 24 ∨ g = 25 → a = .leaf ∧ b = .leaf) ∧ (g = 14 ∨ g = 18 → a = .leaf ∧ b = .leaf) ∧ (g = 3 ∨ g = 6 ∨ g = 15 → b = .leaf) := fun h => ⟨fun z => absurd (z.elim Or.inl (fun y => Or.inr (Or.inl y))) h, fun z => absurd (z.elim (fun y => Or.inr (Or.inr (Or.inl y))) (fun y => Or.inr (Or.inr (Or.inr (Or.inl y))))) h, fun z => absurd (by omega) h⟩
  have nb : ∀ {g : Nat} {a : tT}, ¬ (g = 24 ∨ g = 25 ∨ g = 14 ∨ g = 18) → (g = 24 ∨ g = 25 → a = .leaf ∧ (.leaf : tT) = .leaf) ∧ (g = 14 ∨ g = 18 → a = .leaf ∧ (.leaf : tT) = .leaf) ∧ (g = 3 ∨ g = 6 ∨ g = 15 → (.leaf : tT) = .leaf) := fun h => ⟨fun z => absurd (by omega) h, fun z => absurd (by omega) h, fun _ => rfl⟩
  refine aE_ind (P := fun k i t j => i < j ∧ (j ≤ cnt → tGd kk cnt t)) (Q := fun k q i t j => i ≤ j ∧ (j ≤ cnt → tGd kk cnt t)) ?_ ?_ ?_ ?_ ?_ ?_ ?_ ?_ ?_ ?_ ?_ ?_ ?_ ?_ ?_ ?_ ?_ ?_ ?_ ?_ k i t j h
  · exact fun k i a l b j _ _ h1 _ h2 => ⟨by omega, fun hj => ⟨⟨z, z⟩, n33 (by decide), n24 (by decide), h1.2 (by omega), h2.2 hj⟩⟩
  · exact fun k i q a l b j _ _ _ _ _ _ h1 _ h2 => ⟨by omega, fun hj => ⟨⟨z, z⟩, n33 (by decide), n24 (by decide), h1.2 (by omega), h2.2 hj⟩⟩
  · exact fun k i a j _ _ _ h1 => ⟨by omega, fun hj => ⟨⟨z, z⟩, n33 (by decide), nb (by decide), h1.2 hj, trivial⟩⟩
  · exact fun k i c l a m b j _ hC _ h1 _ h2 => by
      have c := aC_gd (cnt := cnt) hc _ _ _ _ hC
      exact ⟨by omega, fun hj => ⟨⟨z, z⟩, n33 (by decide), n24 (by decide), c.2 (by omega), ⟨z, z⟩, n33 (by decide), n24 (by decide), h1.2 (by omega), h2.2 hj⟩⟩
  · exact fun k i c l a j _ hC _ h1 => by
      have c := aC_gd (cnt := cnt) hc _ _ _ _ hC
      exact ⟨by omega, fun hj => ⟨⟨z, z⟩, n33 (by decide), n24 (by decide), c.2 (by omega), h1.2 hj⟩⟩
  · exact fun k i S l S' m a j _ _ _ hS _ _ hS' _ h1 => by
      have a := (aSm_fx hS).1.2
      have b := (aSm_fx hS').1.2
      exact ⟨by omega, fun hj => ⟨⟨aSm_gd hc hS (by omega), aSm_gd hc hS' (by omega)⟩, n33 (by decide), nb (by decide), h1.2 hj, trivial⟩⟩
  · exact fun k i S j _ hS => by
      have a := (aSm_fx hS).1.2
      exact ⟨by omega, fun hj => ⟨⟨aSm_gd hc hS hj, z⟩, n33 (by decide), n24 (by decide), trivial, trivial⟩⟩
  · exact fun k i g hg => ⟨by omega, fun hj => ⟨⟨z, z⟩, n33 (by omega), n24 (by omega), trivial, trivial⟩⟩
  · exact fun k i S j _ hS => ⟨(aSm_fx hS).1.2, fun hj => ⟨⟨aSm_gd hc hS hj, z⟩, n33 (by decide), n24 (by decide), trivial, trivial⟩⟩
  · exact fun k i g S l S' j hg hS hS' => by
      have a := (aSm_fx hS).1.2
      have b := (aSm_fx hS').1.2
      exact ⟨by omega, fun hj => ⟨⟨aSm_gd hc hS (by omega), aSm_gd hc hS' hj⟩, n33 (by omega), n24 (by omega), trivial, trivial⟩⟩
  · exact fun k i S l _ _ hS _ => by
      have a := (aSm_fx hS).1.2
      exact ⟨by omega, fun hj => ⟨⟨aSm_gd hc hS (by omega), z⟩, n33 (by decide), ⟨fun _ => ⟨rfl, rfl⟩, fun _ => ⟨rfl, rfl⟩, fun _ => rfl⟩, trivial, trivial⟩⟩
  · exact fun k i as j _ _ h1 => ⟨by omega, fun hj => ⟨⟨z, z⟩, n33 (by decide), nb (by decide), h1.2 hj, trivial⟩⟩
  · exact fun k i a l _ h1 _ => ⟨by omega, fun hj => ⟨⟨z, z⟩, n33 (by decide), n24 (by decide), h1.2 (by omega), trivial⟩⟩
  · exact fun k i S l _ hS _ => by
      have a := (aSm_fx hS).1.2
      exact ⟨by omega, fun hj => ⟨⟨aSm_gd hc hS (by omega), z⟩, n33 (by decide), ⟨fun _ => ⟨rfl, rfl⟩, fun _ => ⟨rfl, rfl⟩, fun _ => rfl⟩, trivial, trivial⟩⟩
  · exact fun k i a l b j _ _ h1 _ _ _ _ h2 => ⟨by omega, fun hj => ⟨⟨z, z⟩, n33 (by decide), n24 (by decide), h1.2 (by omega), h2.2 hj⟩⟩
  · exact fun k q i _ => ⟨Nat.le_refl _, fun _ => trivial⟩
  · exact fun k q i b j _ _ hk h1 => ⟨by omega, fun hj => ⟨⟨⟨fun p hp => by rw [List.mem_singleton.mp hp]; show i < cnt; omega, by show 1 ≤ 1001; omega⟩, z⟩, fun _ => ⟨by show i < cnt; omega, Or.inr ⟨rfl, hk.symm⟩⟩, n24 (by decide), trivial, h1.2 hj⟩⟩
  · exact fun k q i S l b j hk _ hS _ h1 => by
      have a := (aSm_fx hS).1.2
      exact ⟨by omega, fun hj => ⟨⟨aSm_gd hc hS (by omega), z⟩, fun _ => ⟨by show i < cnt; omega, Or.inl ⟨rfl, hk⟩⟩, n24 (by decide), trivial, h1.2 hj⟩⟩
  · exact fun k q i e l b j _ _ h0 _ h1 => ⟨by omega, fun hj => ⟨⟨z, z⟩, n33 (by decide), n24 (by decide), h0.2 (by omega), h1.2 hj⟩⟩
  · exact fun k q i v b j _ h1 => ⟨by omega, fun hj => ⟨⟨z, z⟩, n33 (by decide), n24 (by decide), trivial, h1.2 hj⟩⟩
theorem aPr_gd (hc : cnt ≤ 2000) {xs : List tQ} {is : List (Nat × Nat)} {e : tT} {j : Nat} (h : aPr kk T cnt = .inr ((xs, is, e), j)) : tGd kk cnt e := by
  unfold aPr at h
  obtain ⟨qs, j1, h1, h⟩ := on_inr h
  obtain ⟨is', j2, h2, h⟩ := on_inr h
  obtain ⟨t, j3, h3, h⟩ := on_inr h
  split at h
  · rename_i c
    injection h with h
    injection h with h4 h5
    injection h4 with h6 h7
    injection h7 with h8 h9
    subst h9
    exact (aE_gd hc 31 _ _ _ h3).2 (by omega)
  · cases h
end TGD
