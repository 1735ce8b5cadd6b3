/-! types of TEMPLATES; NAMES in the order of the walk -/
section TPR
variable {kk : Nat → Int32} {cnt : Nat} {tE tN : Nat → tY} {g : gG} {ρ : Nat → tY}
theorem gCo.pr (hK : gK g) (h : gCo g ρ) : ∀ (k c : Nat), yH (ρ c) ≤ k → c < g.n → yPr (ρ c) ∧ 1 ≤ yK (ρ c)
  | k, c, hk, hc => by
    rcases h.at hK hc with ⟨e1, e2, e3, e4⟩ | ⟨e1, e2⟩
    · have hh : yH (ρ (g.L (gR g c))) < yH (ρ c) ∧ yH (ρ (g.R (gR g c))) < yH (ρ c) := by
        rw [e2]
        show _ < max _ _ + 1 ∧ _ < max _ _ + 1
        omega
      match k, hk with
      | 0, hk => omega
      | k + 1, hk =>
        rw [e2]
        refine ⟨?_, by show 1 ≤ 0 + 1; omega⟩
        show if 0 = 0 then _ else _
        rw [if_pos rfl]
        exact ⟨(gCo.pr hK h k _ (by omega) e3).1, (gCo.pr hK h k _ (by omega) e4).1⟩
    · rw [e2]
      refine ⟨?_, by show 1 ≤ _ + 1; omega⟩
      show if g.K (gR g c) - 2 + 1 = 0 then _ else _
      rw [if_neg (by omega)]
      exact ⟨rfl, rfl⟩
/-- whose types TEMPLATES have -/
theorem tLs_ty : ∀ (t : tT) (l : Nat), tWf kk cnt t l → tGd kk cnt t → ∀ x, x ∈ tLs tE tN t → (∃ u, u ∈ tTg t ∧ x.2.1 = tE u) ∨ ∃ u, u ∈ tW t ∧ x.2.1 = tN u
  | .leaf, _, _, _ => fun x hx => by cases hx
  | .inner g d z a b, l, wf, gd => by
    obtain ⟨w1, w2, w3, w4, w5, w6, w7, w8, w9⟩ := wf.ch
    obtain ⟨-, -, ⟨-, g14, g3⟩, ga, gb⟩ := gd
    have Ia := fun l w => tLs_ty a l w ga
    have Ib := fun l w => tLs_ty b l w gb
    have A : ∀ {x : Nat × tY × List Nat}, ((∃ u, u ∈ tTg a ∧ x.2.1 = tE u) ∨ ∃ u, u ∈ tW a ∧ x.2.1 = tN u) → ¬ (g = 4 ∨ g = 5 ∨ g = 33) → (∀ u, u ∈ tW a → u ∈ tW (.inner g d z a b)) → (∃ u, u ∈ tTg (.inner g d z a b) ∧ x.2.1 = tE u) ∨ ∃ u, u ∈ tW (.inner g d z a b) ∧ x.2.1 = tN u := fun h c hs => h.imp (fun ⟨u, u1, u2⟩ => ⟨u, List.mem_append_right _ (List.mem_append_left _ (by rw [if_neg c]; exact u1)), u2⟩) (fun ⟨u, u1, u2⟩ => ⟨u, hs u u1, u2⟩)
    have Bx : ∀ {x : Nat × tY × List Nat}, ((∃ u, u ∈ tTg b ∧ x.2.1 = tE u) ∨ ∃ u, u ∈ tW b ∧ x.2.1 = tN u) → (∀ u, u ∈ tW b → u ∈ tW (.inner g d z a b)) → (∃ u, u ∈ tTg (.inner g d z a b) ∧ x.2.1 = tE u) ∨ ∃ u, u ∈ tW (.inner g d z a b) ∧ x.2.1 = tN u := fun h hs => h.imp (fun ⟨u, u1, u2⟩ => ⟨u, List.mem_append_right _ (List.mem_append_right _ u1), u2⟩) (fun ⟨u, u1, u2⟩ => ⟨u, hs u u1, u2⟩)
    have own : g = 1 ∨ g = 2 ∨ g = 3 ∨ g = 4 ∨ g = 19 → d.1 ∈ tTg (.inner g d z a b) := fun h => List.mem_append_left _ (by rw [if_pos h]; exact List.mem_singleton.mpr rfl)
    intro x hx
    unfold tLs at hx
    by_cases c1 : g = 1
    · rw [if_pos (Or.inl c1)] at hx
      obtain ⟨wa, wb⟩ := w1 (by omega)
      subst c1
      rcases List.mem_cons.mp hx with h | h
      · exact Or.inl ⟨d.1, own (by omega), by rw [h]⟩
      · rcases List.mem_append.mp h with h | h
        · exact A (Ia 0 wa x h) (by omega) (fun u hu => List.mem_cons_of_mem _ (List.mem_append_left _ hu))
        · exact Bx (Ib 0 wb x h) (fun u hu => List.mem_cons_of_mem _ (List.mem_append_right _ hu))
    by_cases c19 : g = 19
    · rw [if_pos (Or.inr c19)] at hx
      obtain ⟨wa, wb⟩ := w1 (by omega)
      subst c19
      rcases List.mem_cons.mp hx with h | h
      · exact Or.inl ⟨d.1, own (by omega), by rw [h]⟩
      · rcases List.mem_append.mp h with h | h
        · exact A (Ia 0 wa x h) (by omega) (fun u hu => List.mem_append_left _ hu)
        · exact Bx (Ib 0 wb x h) (fun u hu => List.mem_append_right _ (List.mem_append_right _ hu))
    rw [if_neg (by omega)] at hx
    by_cases c2 : g = 2
    · rw [if_pos c2] at hx
      obtain ⟨wa, wb⟩ := w1 (by omega)
      subst c2
      rcases List.mem_cons.mp hx with h | h
      · exact Or.inl ⟨d.1, own (by omega), by rw [h]⟩
      · rcases List.mem_cons.mp h with h | h
        · exact Or.inr ⟨d.1 + 2, List.mem_cons_self .., by rw [h]⟩
        · rcases List.mem_append.mp h with h | h
          · exact A (Ia 0 wa x h) (by omega) (fun u hu => List.mem_cons_of_mem _ (List.mem_append_right _ (List.mem_append_left _ hu)))
          · exact Bx (Ib 0 wb x h) (fun u hu => List.mem_cons_of_mem _ (List.mem_append_right _ (List.mem_append_right _ hu)))
    rw [if_neg c2] at hx
    by_cases c3 : g = 3
    · rw [if_pos c3] at hx
      have wa := w2 (by omega)
      subst c3
      rcases List.mem_cons.mp hx with h | h
      · exact Or.inl ⟨d.1, own (by omega), by rw [h]⟩
      · exact A (Ia 0 wa x h) (by omega) (fun u hu => List.mem_cons_of_mem _ hu)
    rw [if_neg c3] at hx
    by_cases c4 : g = 4
    · rw [if_pos c4] at hx
      have wb := w3 c4
      subst c4
      rcases List.mem_cons.mp hx with h | h
      · exact Or.inl ⟨d.1, own (by omega), by rw [h]⟩
      · exact Bx (Ib 1 wb x h) (fun u hu => hu)
    rw [if_neg c4] at hx
    by_cases c5 : g = 5
    · rw [if_pos (Or.inl c5)] at hx
      have wb := w4 c5
      subst c5
      exact Bx (Ib 0 wb x hx) (fun u hu => hu)
    by_cases c33 : g = 33 ∨ g = 35
    · rw [if_pos (Or.inr c33)] at hx
      have wb := w6 c33
      rcases c33 with c | c <;> subst c
      · exact Bx (Ib 2 wb x hx) (fun u hu => List.mem_append_right _ hu)
      · exact Bx (Ib 2 wb x hx) (fun u hu => List.mem_append_right _ hu)
    rw [if_neg (by omega)] at hx
    by_cases c6 : g = 6 ∨ g = 15 ∨ g = 16
    · rw [if_pos c6] at hx
      rcases c6 with c | c | c
      · have wa := w2 (by omega)
        subst c
        exact A (Ia 0 wa x hx) (by omega) (fun u hu => hu)
      · have wa := w5 c
        subst c
        exact A (Ia 2 wa x hx) (by omega) (fun u hu => hu)
      · have wa := w2 (by omega)
        subst c
        exact A (Ia 0 wa x hx) (by omega) (fun u hu => List.mem_append_left _ hu)
    rw [if_neg c6] at hx
    by_cases c7 : g = 31 ∨ g = 34
    · rw [if_pos c7] at hx
      rcases c7 with c | c
      · obtain ⟨wa, wb⟩ := w1 (by omega)
        subst c
        rcases List.mem_append.mp hx with h | h
        · exact A (Ia 0 wa x h) (by omega) (fun u hu => List.mem_append_left _ hu)
        · exact Bx (Ib 0 wb x h) (fun u hu => List.mem_append_right _ hu)
      · obtain ⟨wa, wb⟩ := w7 c
        subst c
        rcases List.mem_append.mp hx with h | h
        · exact A (Ia 0 wa x h) (by omega) (fun u hu => List.mem_append_left _ hu)
        · exact Bx (Ib 2 wb x h) (fun u hu => List.mem_append_right _ hu)
    rw [if_neg c7] at hx
    cases hx
/-- NAMES in the order of the walk are the NAMES -/
theorem wW_pm : ∀ (t : tT) (l : Nat), tWf kk cnt t l → tGd kk cnt t → (wW t).Perm (tW t)
  | .leaf, _, _, _ => List.Perm.refl _
  | .inner g d z a b, l, wf, gd => by
    obtain ⟨w1, w2, w3, w4, w5, w6, w7, w8, w9⟩ := wf.ch
    have gg : g = 1 ∨ g = 2 ∨ g = 3 ∨ g = 4 ∨ g = 5 ∨ g = 6 ∨ g = 7 ∨ g = 8 ∨ g = 9 ∨ g = 10 ∨ g = 11 ∨ g = 12 ∨ g = 13 ∨ g = 14 ∨ g = 15 ∨ g = 16 ∨ g = 17 ∨ g = 18 ∨ g = 19 ∨ g = 31 ∨ g = 33 ∨ g = 34 ∨ g = 35 := by clear w1 w2 w3 w4 w5 w6 w7; omega
    obtain ⟨-, -, ⟨-, g14, g3⟩, ga, gb⟩ := gd
    have Ia := fun l w => wW_pm a l w ga
    have Ib := fun l w => wW_pm b l w gb
    have lf : (g = 7 ∨ g = 8 ∨ g = 9 ∨ g = 10 ∨ g = 11 ∨ g = 12 ∨ g = 13 ∨ g = 17 → a = .leaf ∧ b = .leaf) ∧ (g = 33 ∨ g = 35 → a = .leaf) ∧ (g = 16 → b = .leaf) := by
      rcases wf with ⟨_, h, _⟩ | ⟨_, _, _, h⟩ | ⟨_, h⟩
      · subst h; exact ⟨fun e => absurd e (by decide), fun e => absurd e (by decide), fun e => absurd e (by decide)⟩
      · rcases h with ⟨h, _, q⟩ | ⟨h, _⟩ | ⟨h, _, q, _⟩ <;> subst h
        · exact ⟨fun e => absurd e (by decide), fun _ => q, fun e => absurd e (by decide)⟩
        · exact ⟨fun e => absurd e (by decide), fun e => absurd e (by decide), fun e => absurd e (by decide)⟩
        · exact ⟨fun e => absurd e (by decide), fun _ => q, fun e => absurd e (by decide)⟩
      · refine ⟨fun e => ?_, fun e => ?_, fun e => ?_⟩
        all_goals rcases h with ⟨h, _⟩ | ⟨h, _⟩ | ⟨h, _⟩ | ⟨h, wc, _⟩ | ⟨h, wc, _⟩ | ⟨h, _, wc, _⟩ | ⟨h, _, _, wc⟩ | ⟨h, _, wc⟩ | ⟨h, _, wc⟩ | ⟨h, _, wc⟩ | ⟨h, _⟩ | ⟨h, _, _, wc⟩ | ⟨h, _⟩ | ⟨h, _⟩
        all_goals first | omega | exact wc
    unfold wW tW
    rcases gg with h | h | h | h | h | h | h | h | h | h | h | h | h | h | h | h | h | h | h | h | h | h | h <;> subst h <;> simp only [reduceIte, Nat.reduceEqDiff, or_self, or_false, false_or, or_true, true_or, true_implies, false_implies, and_true, true_and] at g14 g3 w1 w2 w3 w4 w5 w6 w7 lf ⊢
    · exact ((Ia 0 w1.1).append (List.Perm.cons _ (Ib 0 w1.2))).trans List.perm_middle
    · show ((d.1 + 2) :: (List.range' (d.1 + 3) d.2.1 ++ (wW a ++ wW b))).Perm _
      exact List.Perm.cons _ (List.Perm.append (List.Perm.refl (List.range' (d.1 + 3) d.2.1)) ((Ia 0 w1.1).append (Ib 0 w1.2)))
    · exact List.Perm.cons _ (Ia 0 w2)
    · exact Ib 1 w3
    · exact Ib 0 w4
    · exact Ia 0 w2
    · rw [lf.1, lf.2]; exact List.Perm.refl _
    · rw [lf.1, lf.2]; exact List.Perm.refl _
    · rw [lf.1, lf.2]; exact List.Perm.refl _
    · rw [lf.1, lf.2]; exact List.Perm.refl _
    · rw [lf.1, lf.2]; exact List.Perm.refl _
    · rw [lf.1, lf.2]; exact List.Perm.refl _
    · rw [lf.1, lf.2]; exact List.Perm.refl _
    · exact List.Perm.refl _
    · exact Ia 2 w5
    · rw [lf]
      show (wW a).Perm (tW a ++ [])
      rw [List.append_nil]
      exact Ia 0 w2
    · rw [lf.1, lf.2]; exact List.Perm.refl _
    · exact List.Perm.refl _
    · exact (Ia 0 w1.1).append ((List.Perm.refl _).append (Ib 0 w1.2))
    · exact (Ia 0 w1.1).append (Ib 0 w1.2)
    · rw [lf]; exact Ib 2 w6
    · exact (Ia 0 w7.1).append (Ib 2 w7.2)
    · rw [lf]; exact Ib 2 w6
end TPR
