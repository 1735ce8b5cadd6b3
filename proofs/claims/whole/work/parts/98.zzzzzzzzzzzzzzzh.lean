/-! read trees: numbers are NUMBERS -/
section RDK
variable {kk : Nat → Int32} {T : Nat}
theorem aPt_kn {g : Bool} {i j : Nat} {p : tP} (h : aPt kk g i = .inr (p, j)) : p.1 = 0 → kk p.2.2 = nI 2 := by
  unfold aPt at h
  split at h
  · obtain ⟨_, l, e1, h⟩ := on_inr h
    injection h with h; injection h with e3 e4; subst e3
    exact fun z => absurd z (by show ¬ 2 = 0; decide)
  · split at h
    · obtain ⟨_, l, e1, h⟩ := on_inr h
      injection h with h; injection h with e3 e4; subst e3
      exact fun z => absurd z (by show ¬ 3 = 0; decide)
    · split at h
      · rename_i c
        injection h with h; injection h with e3 e4; subst e3
        exact fun _ => aIs_t c
      · obtain ⟨_, l, e1, h⟩ := on_inr h
        injection h with h; injection h with e3 e4; subst e3
        exact fun z => absurd z (by show ¬ 1 = 0; decide)
theorem aSL_kn : ∀ (t i : Nat) {ps : List tP} {j : Nat}, aSL kk t i = .inr (ps, j) → sKn kk ps
  | 0, i, ps, j, h => by unfold aSL at h; cases h
  | t + 1, i, ps, j, h => by
    unfold aSL at h
    split at h
    · obtain ⟨p, l, e1, h⟩ := on_inr h
      obtain ⟨ps', l2, e2, h⟩ := on_inr h
      injection h with h; injection h with e3 e4; subst e3
      intro q hq
      rcases List.mem_cons.mp hq with e | e
      · rw [e]; exact aPt_kn e1
      · exact aSL_kn t l e2 q e
    · injection h with h; injection h with e3 e4; subst e3
      exact fun p hp => by cases hp
theorem aSm_kn {i j : Nat} {S : tS} (h : aSm kk T i = .inr (S, j)) : sKn kk S.2 := by
  unfold aSm at h
  obtain ⟨p, l, e1, h⟩ := on_inr h
  obtain ⟨ps, l2, e2, h⟩ := on_inr h
  injection h with h; injection h with e3 e4; subst e3
  intro q hq
  rcases List.mem_cons.mp hq with e | e
  · rw [e]; exact aPt_kn e1
  · exact aSL_kn T l e2 q e
theorem sKn_0 : sKn kk s0.2 := fun p hp => by cases hp
theorem aE_kn (k i : Nat) (t : tT) (j : Nat) (h : aE kk T k i = .inr (t, j)) : tKn kk t := by
  have z0 : sKn kk s0.2 ∧ sKn kk s0.2 := ⟨sKn_0, sKn_0⟩
  refine aE_ind (P := fun k i t j => tKn kk t) (Q := fun k q i t j => tKn kk t) ?_ ?_ ?_ ?_ ?_ ?_ ?_ ?_ ?_ ?_ ?_ ?_ ?_ ?_ ?_ ?_ ?_ ?_ ?_ ?_ k i t j h
  · intro k i a l b j _ _ Pa _ Pb
    exact ⟨z0, Pa, Pb⟩
  · intro k i q a l b j _ _ _ _ _ _ Pa _ Pb
    exact ⟨z0, Pa, Pb⟩
  · intro k i a j _ _ _ Pa
    exact ⟨z0, Pa, trivial⟩
  · intro k i c l a m b j _ _ _ Pa _ Pb
    exact ⟨z0, trivial, z0, Pa, Pb⟩
  · intro k i c l a j _ _ _ Pa
    exact ⟨z0, trivial, Pa⟩
  · intro k i S l S' m a j _ _ _ h1 _ _ h2 _ Pa
    exact ⟨⟨aSm_kn h1, aSm_kn h2⟩, Pa, trivial⟩
  · intro k i S j _ h1
    exact ⟨⟨aSm_kn h1, sKn_0⟩, trivial, trivial⟩
  · intro k i g hg
    rcases hg with ⟨_, rfl⟩ | ⟨_, rfl⟩ | ⟨_, rfl⟩ <;> exact ⟨z0, trivial, trivial⟩
  · intro k i S j _ h1
    exact ⟨⟨aSm_kn h1, sKn_0⟩, trivial, trivial⟩
  · intro k i g S l S' j hg h1 h2
    rcases hg with ⟨_, rfl⟩ | ⟨_, rfl⟩ | ⟨_, rfl⟩ <;> exact ⟨⟨aSm_kn h1, aSm_kn h2⟩, trivial, trivial⟩
  · intro k i S l _ _ h1 _
    exact ⟨⟨aSm_kn h1, sKn_0⟩, trivial, trivial⟩
  · intro k i as j _ _ Qa
    exact ⟨z0, Qa, trivial⟩
  · intro k i a l _ Pa _
    exact ⟨z0, Pa, trivial⟩
  · intro k i S l _ h1 _
    exact ⟨⟨aSm_kn h1, sKn_0⟩, trivial, trivial⟩
  · intro k i a l b j _ _ Pa _ _ _ _ Pb
    exact ⟨z0, Pa, Pb⟩
  · intro k q i _
    exact trivial
  · intro k q i b j _ _ hk Qb
    refine ⟨⟨fun p hp h0 => ?_, sKn_0⟩, trivial, Qb⟩
    rw [List.mem_singleton.mp hp] at h0 ⊢
    by_cases c : aIs kk 2 i = true
    · exact aIs_t c
    · have h0 : (if aIs kk 2 i = true then 0 else 1) = 0 := h0
      rw [if_neg c] at h0
      cases h0
  · intro k q i S l b j _ _ h1 _ Qb
    exact ⟨⟨aSm_kn h1, sKn_0⟩, trivial, Qb⟩
  · intro k q i e l b j _ _ Pe _ Qb
    exact ⟨z0, Pe, Qb⟩
  · intro k q i v b j _ Qb
    exact ⟨z0, trivial, Qb⟩
end RDK
