/-! keys of TEMPLATES are all different -/
section TLK
variable {tE tN : Nat → tY}
theorem tLs_nd : ∀ (t : tT) (i j : Nat), tRg t i j → (∀ x, x ∈ tLs tE tN t → 2 * i ≤ x.1 ∧ x.1 < 2 * j) ∧ ((tLs tE tN t).map Prod.fst).Nodup
  | .leaf, i, j, _ => ⟨fun x hx => (by cases hx), List.nodup_nil⟩
  | .inner g d z a b, i, j, hr => by
    unfold tLs
    by_cases c31 : g = 31
    · subst c31
      obtain ⟨k, ra, rb⟩ : ∃ k, tRg a i k ∧ tRg b k j := hr
      have la := ra.le
      have lb := rb.le
      obtain ⟨a1, a2⟩ := tLs_nd a i k ra
      obtain ⟨b1, b2⟩ := tLs_nd b k j rb
      show (∀ x, x ∈ tLs tE tN a ++ tLs tE tN b → _) ∧ ((tLs tE tN a ++ tLs tE tN b).map Prod.fst).Nodup
      refine ⟨fun x hx => ?_, ?_⟩
      · rcases List.mem_append.mp hx with h | h
        · have := a1 x h; omega
        · have := b1 x h; omega
      · rw [List.map_append, List.nodup_append]
        refine ⟨a2, b2, fun u hu w hw e => ?_⟩
        obtain ⟨x, hx, rfl⟩ := List.mem_map.mp hu
        obtain ⟨x', hx', rfl⟩ := List.mem_map.mp hw
        have := a1 x hx
        have := b1 x' hx'
        omega
    · unfold tRg at hr
      rw [if_neg c31] at hr
      obtain ⟨⟨r1, r2, -⟩, k, ⟨r3, -⟩, ra, rb⟩ := hr
      have lb := rb.le
      obtain ⟨b1, b2⟩ := tLs_nd b k j rb
      have A : ¬ (g = 4 ∨ g = 5) → (∀ x, x ∈ tLs tE tN a → 2 * (d.1 + 1) ≤ x.1 ∧ x.1 < 2 * k) ∧ ((tLs tE tN a).map Prod.fst).Nodup := fun c => tLs_nd a (d.1 + 1) k (by rw [if_neg c] at ra; exact ra)
      have AB : ¬ (g = 4 ∨ g = 5) → (∀ x, x ∈ tLs tE tN a ++ tLs tE tN b → 2 * (d.1 + 1) ≤ x.1 ∧ x.1 < 2 * j) ∧ ((tLs tE tN a ++ tLs tE tN b).map Prod.fst).Nodup := fun c => by
        obtain ⟨a1, a2⟩ := A c
        refine ⟨fun x hx => ?_, ?_⟩
        · rcases List.mem_append.mp hx with h | h
          · have := a1 x h; omega
          · have := b1 x h; omega
        · rw [List.map_append, List.nodup_append]
          refine ⟨a2, b2, fun u hu w hw e => ?_⟩
          obtain ⟨x, hx, rfl⟩ := List.mem_map.mp hu
          obtain ⟨x', hx', rfl⟩ := List.mem_map.mp hw
          have := a1 x hx
          have := b1 x' hx'
          omega
      have C : ∀ (y : tY) (ns : List Nat) (l : List (Nat × tY × List Nat)), (∀ x, x ∈ l → 2 * d.1 + 1 ≤ x.1 ∧ x.1 < 2 * j) → (l.map Prod.fst).Nodup → (∀ x, x ∈ (2 * d.1, y, ns) :: l → 2 * i ≤ x.1 ∧ x.1 < 2 * j) ∧ (((2 * d.1, y, ns) :: l).map Prod.fst).Nodup := fun y ns l h1 h2 => by
        refine ⟨fun x hx => ?_, ?_⟩
        · rcases List.mem_cons.mp hx with h | h
          · rw [h]
            show 2 * i ≤ 2 * d.1 ∧ 2 * d.1 < 2 * j
            omega
          · have := h1 x h
            omega
        · rw [List.map_cons, List.nodup_cons]
          refine ⟨fun h => ?_, h2⟩
          obtain ⟨x, hx, e⟩ := List.mem_map.mp h
          have := h1 x hx
          have e : x.1 = 2 * d.1 := e
          omega
      have wk : ∀ {l : List (Nat × tY × List Nat)} {q : Nat}, q ≤ 2 * j → (∀ x, x ∈ l → 2 * (d.1 + 1) ≤ x.1 ∧ x.1 < q) → ∀ x, x ∈ l → 2 * d.1 + 1 ≤ x.1 ∧ x.1 < 2 * j := fun hq h x hx => by have := h x hx; omega
      by_cases c1 : g = 1 ∨ g = 19
      · rw [if_pos c1]
        obtain ⟨h1, h2⟩ := AB (by omega)
        exact C _ _ _ (wk (Nat.le_refl _) h1) h2
      rw [if_neg c1]
      by_cases c2 : g = 2
      · rw [if_pos c2]
        obtain ⟨h1, h2⟩ := AB (by omega)
        refine C _ _ _ (fun x hx => ?_) ?_
        · rcases List.mem_cons.mp hx with h | h
          · rw [h]
            show 2 * d.1 + 1 ≤ 2 * d.1 + 1 ∧ 2 * d.1 + 1 < 2 * j
            omega
          · have := h1 x h
            omega
        · rw [List.map_cons, List.nodup_cons]
          refine ⟨fun h => ?_, h2⟩
          obtain ⟨x, hx, e⟩ := List.mem_map.mp h
          have := h1 x hx
          have e : x.1 = 2 * d.1 + 1 := e
          omega
      rw [if_neg c2]
      by_cases c3 : g = 3
      · rw [if_pos c3]
        obtain ⟨h1, h2⟩ := A (by omega)
        exact C _ _ _ (wk (by omega) h1) h2
      rw [if_neg c3]
      by_cases c4 : g = 4
      · rw [if_pos c4]
        exact C _ _ _ (fun x hx => by have := b1 x hx; omega) b2
      rw [if_neg c4]
      by_cases c5 : g = 5 ∨ g = 33 ∨ g = 35
      · rw [if_pos c5]
        exact ⟨fun x hx => by have := b1 x hx; omega, b2⟩
      rw [if_neg c5]
      by_cases c6 : g = 6 ∨ g = 15 ∨ g = 16
      · rw [if_pos c6]
        obtain ⟨h1, h2⟩ := A (by omega)
        exact ⟨fun x hx => by have := h1 x hx; omega, h2⟩
      rw [if_neg c6]
      by_cases c7 : g = 31 ∨ g = 34
      · rw [if_pos c7]
        obtain ⟨h1, h2⟩ := AB (by omega)
        exact ⟨fun x hx => by have := h1 x hx; omega, h2⟩
      rw [if_neg c7]
      exact ⟨fun x hx => (by cases hx), List.nodup_nil⟩
end TLK
