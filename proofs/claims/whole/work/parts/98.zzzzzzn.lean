/-! the nodes of a read E are all different -/
section NEP
variable {V : zSt} {kk pp : Nat → Int32} {cnt lo N S P A : Nat}
theorem nE_rg : ∀ (t : tT) (m0 m i j : Nat), tRg t i j → ∀ p, p ∈ nE V t m0 m → i ≤ p.2 ∧ p.2 < j
  | .leaf, _, _, _, _, _, p, hp => by cases hp
  | .inner g d _ a b, m0, m, i, j, hr, p, hp => by
    have Ia := fun x y i j h => nE_rg a x y i j h p
    have Ib := fun x y i j h => nE_rg b x y i j h p
    by_cases c31 : g = 31
    · subst c31
      obtain ⟨l, r1, r2⟩ := hr
      have l1 := tRg.le _ _ _ r1
      have l2 := tRg.le _ _ _ r2
      have hp : p ∈ nE V a 0 m0 ++ nE V b 0 m := hp
      rcases List.mem_append.mp hp with h | h
      · have := Ia _ _ _ _ r1 h
        omega
      · have := Ib _ _ _ _ r2 h
        omega
    unfold tRg at hr
    rw [if_neg c31] at hr
    obtain ⟨⟨r1, r2, -, -⟩, l, ⟨r3, -⟩, ra, rb⟩ := hr
    have lb := tRg.le _ _ _ rb
    have Jb : ∀ x y, p ∈ nE V b x y → i ≤ p.2 ∧ p.2 < j := fun x y h => by
      have := Ib x y _ _ rb h
      omega
    have Ja : ¬ (g = 4 ∨ g = 5) → ∀ x y, p ∈ nE V a x y → i ≤ p.2 ∧ p.2 < j := fun c x y h => by
      rw [if_neg c] at ra
      have := tRg.le _ _ _ ra
      have := Ia x y _ _ ra h
      omega
    clear Ia Ib
    unfold nE at hp
    rw [if_neg c31] at hp
    split at hp
    · exact Jb _ _ hp
    · split at hp
      · rcases List.mem_append.mp hp with h | h
        · exact Ja (by omega) _ _ h
        · exact Jb _ _ h
      · rcases List.mem_cons.mp hp with h | hp
        · rw [h]
          exact ⟨r1, r2⟩
        · split at hp
          · exact Jb _ _ hp
          · split at hp
            · exact Jb _ _ hp
            · have Ja := Ja (by omega)
              split at hp
              · exact Ja _ _ hp
              · split at hp
                · exact Ja _ _ hp
                · split at hp
                  · exact Ja _ _ hp
                  · split at hp
                    · cases hp
                    · rcases List.mem_append.mp hp with h | h
                      · exact Ja _ _ h
                      · exact Jb _ _ h
theorem nE_p2 : ∀ (t : tT) (m0 m i j : Nat), tRg t i j → (nE V t m0 m).Pairwise (fun p q => p.2 ≠ q.2)
  | .leaf, _, _, _, _, _ => List.Pairwise.nil
  | .inner g d _ a b, m0, m, i, j, hr => by
    by_cases c31 : g = 31
    · subst c31
      obtain ⟨l, r1, r2⟩ := hr
      refine List.pairwise_append.mpr ⟨nE_p2 a _ _ _ _ r1, nE_p2 b _ _ _ _ r2, fun p hp q hq e => ?_⟩
      have := nE_rg a _ _ _ _ r1 p hp
      have := nE_rg b _ _ _ _ r2 q hq
      omega
    unfold tRg at hr
    rw [if_neg c31] at hr
    obtain ⟨⟨r1, r2, -, -⟩, l, ⟨r3, -⟩, ra, rb⟩ := hr
    have Jb : ∀ x y, (nE V b x y).Pairwise (fun p q => p.2 ≠ q.2) := fun x y => nE_p2 b x y _ _ rb
    have Ja : ¬ (g = 4 ∨ g = 5) → ∀ x y, (nE V a x y).Pairwise (fun p q => p.2 ≠ q.2) := fun c x y => by
      rw [if_neg c] at ra
      exact nE_p2 a x y _ _ ra
    have Jab : ¬ (g = 4 ∨ g = 5) → ∀ x y x' y', (nE V a x y ++ nE V b x' y').Pairwise (fun p q => p.2 ≠ q.2) := fun c x y x' y' => by
      refine List.pairwise_append.mpr ⟨Ja c x y, Jb x' y', fun p hp q hq e => ?_⟩
      rw [if_neg c] at ra
      have := nE_rg a _ _ _ _ ra p hp
      have := nE_rg b _ _ _ _ rb q hq
      omega
    have Kb : ∀ x y, ∀ p, p ∈ nE V b x y → (m, d.1).2 ≠ p.2 := fun x y p hp e => by
      have := nE_rg b _ _ _ _ rb p hp
      have e : d.1 = p.2 := e
      omega
    have Ka : ¬ (g = 4 ∨ g = 5) → ∀ x y, ∀ p, p ∈ nE V a x y → (m, d.1).2 ≠ p.2 := fun c x y p hp e => by
      rw [if_neg c] at ra
      have := nE_rg a _ _ _ _ ra p hp
      have e : d.1 = p.2 := e
      omega
    unfold nE
    rw [if_neg c31]
    split
    · exact Jb _ _
    · split
      · exact Jab (by omega) _ _ _ _
      · refine List.pairwise_cons.mpr ?_
        split
        · exact ⟨Kb _ _, Jb _ _⟩
        · split
          · exact ⟨Kb _ _, Jb _ _⟩
          · have c45 : ¬ (g = 4 ∨ g = 5) := by omega
            split
            · exact ⟨Ka c45 _ _, Ja c45 _ _⟩
            · split
              · exact ⟨Ka c45 _ _, Ja c45 _ _⟩
              · split
                · exact ⟨Ka c45 _ _, Ja c45 _ _⟩
                · split
                  · exact ⟨fun p hp => (by cases hp), List.Pairwise.nil⟩
                  · exact ⟨fun p hp => (List.mem_append.mp hp).elim (Ka c45 _ _ p) (Kb _ _ p), Jab c45 _ _ _ _⟩
theorem nE_pl (hN : N ≤ 2100) (hA : A ≤ 2100) : ∀ (t : tT) (m0 m m' l : Nat), rTr pp V lo N S P A t 0 m0 m → tWf kk cnt t l → (l = 2 ∨ m' = m) → ∀ p, p ∈ nE V t m0 m' → p.1 < N ∧ V.2.2.1 7 p.1 = pp p.2
  | .leaf, _, _, _, _, _, _, _, p, hp => by cases hp
  | .inner g d z a b, m0, m, m', l, ht, wf, hm, p, hp => by
    have Ia := fun x y y' k h w e => nE_pl hN hA a x y y' k h w e p
    have Ib := fun x y y' k h w e => nE_pl hN hA b x y y' k h w e p
    have cl : ∀ x, x < N → (nI x).toNatClampNeg = x := fun x hx => nI_clamp (show x < 2 ^ 31 by omega)
    have own : ∀ g', rNd pp V lo N m g' d.1 → (m, d.1).1 < N ∧ V.2.2.1 7 (m, d.1).1 = pp (m, d.1).2 := fun g' h => ⟨h.1.2, h.2.2⟩
    have nx : ∀ {t : tT} {x : Nat}, rTr pp V lo N S P A t 0 0 x → tWf kk cnt t 0 → x < N := fun h w => (rTr_fw h w).1
    rcases wf with ⟨rfl, rfl, _, wa, wb⟩ | ⟨rfl, _, wb, hg⟩ | ⟨rfl, h⟩
    · obtain ⟨ta, tb⟩ := ht
      have hm : m' = m := hm.resolve_left (by decide)
      subst hm
      have hp : p ∈ nE V a 0 m0 ++ nE V b 0 m' := hp
      rcases List.mem_append.mp hp with h | h
      · exact Ia _ _ _ _ ta wa (Or.inr rfl) h
      · exact Ib _ _ _ _ tb wb (Or.inr rfl) h
    · rcases hg with ⟨rfl, _⟩ | ⟨rfl, _, wa⟩ | ⟨rfl, _⟩
      · exact Ib _ _ _ _ ht.2 wb (Or.inl rfl) hp
      · obtain ⟨⟨t0, t1, t2, x, t3, ta⟩, tb⟩ := ht
        have hp : p ∈ nE V a 0 (V.2.2.1 20 m0).toNatClampNeg ++ nE V b (m0 + 1) 0 := hp
        rw [show V.2.2.1 20 m0 = nI x from t3, cl x (nx ta wa)] at hp
        rcases List.mem_append.mp hp with h | h
        · exact Ia _ _ _ _ ta wa (Or.inr rfl) h
        · exact Ib _ _ _ _ tb wb (Or.inl rfl) h
      · exact Ib _ _ _ _ ht.2 wb (Or.inl rfl) hp
    · have hm : m' = m := hm.resolve_left (by decide)
      subst hm
      have two : ∀ {x y : Nat}, (V.2.2.1 11 m' = nI x ∧ V.2.2.1 12 m' = nI y) → rTr pp V lo N S P A a 0 0 x → rTr pp V lo N S P A b 0 0 y → tWf kk cnt a 0 → tWf kk cnt b 0 → p ∈ nE V a 0 (V.2.2.1 11 m').toNatClampNeg ++ nE V b 0 (V.2.2.1 12 m').toNatClampNeg → p.1 < N ∧ V.2.2.1 7 p.1 = pp p.2 := fun e ta tb wa wb hp => by
        rw [e.1, e.2, cl _ (nx ta wa), cl _ (nx tb wb)] at hp
        rcases List.mem_append.mp hp with h | h
        · exact Ia _ _ _ _ ta wa (Or.inr rfl) h
        · exact Ib _ _ _ _ tb wb (Or.inr rfl) h
      rcases h with ⟨rfl, _, wa, wb⟩ | ⟨rfl, _, wa, wb⟩ | ⟨rfl, _, wa⟩ | ⟨rfl, _, wb⟩ | ⟨rfl, _, wb⟩ | ⟨rfl, _, _, wa⟩ | ⟨rfl | rfl, _⟩ | ⟨rfl | rfl | rfl, _⟩ | ⟨rfl | rfl | rfl, _⟩ | ⟨rfl, _⟩ | ⟨rfl, _, wa⟩ | ⟨rfl, _, wa, _⟩ | ⟨rfl, _⟩ | ⟨rfl, _, wa, wb⟩
      · obtain ⟨t0, _, x, y, t1, ta, tb⟩ := ht
        rcases List.mem_cons.mp hp with h | hp
        · rw [h]; exact own _ t0
        · exact two t1 ta tb wa wb hp
      · obtain ⟨t0, _, x, y, t1, ta, tb⟩ := ht
        rcases List.mem_cons.mp hp with h | hp
        · rw [h]; exact own _ t0
        · exact two t1 ta tb wa wb hp
      · obtain ⟨t0, _, x, t1, ta⟩ := ht
        rcases List.mem_cons.mp hp with h | hp
        · rw [h]; exact own _ t0
        · have hp : p ∈ nE V a 0 (V.2.2.1 11 m').toNatClampNeg := hp
          rw [show V.2.2.1 11 m' = nI x from t1, cl x (nx ta wa)] at hp
          exact Ia _ _ _ _ ta wa (Or.inr rfl) hp
      · obtain ⟨t0, _, x, y, q, ⟨_, t2, t3⟩, _, tb⟩ := ht
        rcases List.mem_cons.mp hp with h | hp
        · rw [h]; exact own _ t0
        · have hp : p ∈ nE V b (V.2.2.1 11 m').toNatClampNeg (V.2.2.1 12 m').toNatClampNeg := hp
          cases b with
          | leaf => cases hp
          | inner g' d' z' b1 b2 =>
            rcases id wb with ⟨_, rfl, _, wb1, wb2⟩ | ⟨h, _⟩ | ⟨h, _⟩
            · obtain ⟨tb1, tb2⟩ := tb
              rw [show V.2.2.1 11 m' = nI y from t2, show V.2.2.1 12 m' = nI q from t3, cl y (nx tb1 wb1), cl q (nx tb2 wb2)] at hp
              exact Ib _ _ _ _ ⟨tb1, tb2⟩ wb (Or.inr rfl) hp
            · cases h
            · cases h
      · obtain ⟨t0, _, x, y, ⟨_, t2⟩, _, tb⟩ := ht
        rcases List.mem_cons.mp hp with h | hp
        · rw [h]; exact own _ t0
        · have hp : p ∈ nE V b 0 (V.2.2.1 11 m').toNatClampNeg := hp
          rw [show V.2.2.1 11 m' = nI y from t2, cl y (nx tb wb)] at hp
          exact Ib _ _ _ _ tb wb (Or.inr rfl) hp
      · obtain ⟨t0, _, x, y, q, ⟨_, _, t3⟩, _, _, ta⟩ := ht
        rcases List.mem_cons.mp hp with h | hp
        · rw [h]; exact own _ t0
        · have hp : p ∈ nE V a 0 (V.2.2.1 12 m').toNatClampNeg := hp
          rw [show V.2.2.1 12 m' = nI q from t3, cl q (nx ta wa)] at hp
          exact Ia _ _ _ _ ta wa (Or.inr rfl) hp
      · rcases List.mem_cons.mp hp with h | hp
        · rw [h]; exact own _ ht.1
        · cases hp
      · rcases List.mem_cons.mp hp with h | hp
        · rw [h]; exact own _ ht.1
        · cases hp
      · rcases List.mem_cons.mp hp with h | hp
        · rw [h]; exact own _ ht
        · cases hp
      · rcases List.mem_cons.mp hp with h | hp
        · rw [h]; exact own _ ht
        · cases hp
      · rcases List.mem_cons.mp hp with h | hp
        · rw [h]; exact own _ ht
        · cases hp
      · rcases List.mem_cons.mp hp with h | hp
        · rw [h]; exact own _ ht.1
        · cases hp
      · rcases List.mem_cons.mp hp with h | hp
        · rw [h]; exact own _ ht.1
        · cases hp
      · rcases List.mem_cons.mp hp with h | hp
        · rw [h]; exact own _ ht.1
        · cases hp
      · rcases List.mem_cons.mp hp with h | hp
        · rw [h]; exact own _ ht.1
        · cases hp
      · obtain ⟨t0, _, x, q, ⟨t1, _⟩, ta⟩ := ht
        rcases List.mem_cons.mp hp with h | hp
        · rw [h]; exact own _ t0
        · have hp : p ∈ nE V a (V.2.2.1 10 m').toNatClampNeg 0 := hp
          cases a with
          | leaf => cases hp
          | inner g' d' z' a' b' =>
            have xA : x < A := by
              rcases wa with ⟨h, _⟩ | ⟨_, _, _, hg⟩ | ⟨h, _⟩
              · cases h
              · rcases hg with ⟨rfl, _⟩ | ⟨rfl, _⟩ | ⟨rfl, _⟩
                all_goals exact ta.1.1
              · cases h
            rw [show V.2.2.1 10 m' = nI x from t1, nI_clamp (show x < 2 ^ 31 by omega)] at hp
            exact Ia _ _ _ _ ta wa (Or.inl rfl) hp
      · obtain ⟨t0, x, t1, ta⟩ := ht
        rcases List.mem_cons.mp hp with h | hp
        · rw [h]; exact own _ t0
        · have hp : p ∈ nE V a 0 (V.2.2.1 11 m').toNatClampNeg := hp
          rw [show V.2.2.1 11 m' = nI x from t1, cl x (nx ta wa)] at hp
          exact Ia _ _ _ _ ta wa (Or.inr rfl) hp
      · rcases List.mem_cons.mp hp with h | hp
        · rw [h]; exact own _ ht.1
        · cases hp
      · obtain ⟨t0, _, x, y, t1, ta, tb⟩ := ht
        rcases List.mem_cons.mp hp with h | hp
        · rw [h]; exact own _ t0
        · exact two t1 ta tb wa wb hp
theorem nE_pw (hN : N ≤ 2100) (hA : A ≤ 2100) (hpp : ∀ u v, u < cnt → v < cnt → pp u = pp v → u = v) {t : tT} {m i j : Nat} (ht : rTr pp V lo N S P A t 0 0 m) (wf : tWf kk cnt t 0) (hr : tRg t i j) (hj : j ≤ cnt) : nPw (nE V t 0 m) := by
  refine (nE_p2 t 0 m i j hr).imp_of_mem (fun {p q} hp hq h => ⟨fun e => h ?_, h⟩)
  have p1 := nE_pl hN hA t 0 m m 0 ht wf (Or.inr rfl) p hp
  have q1 := nE_pl hN hA t 0 m m 0 ht wf (Or.inr rfl) q hq
  have p2 := nE_rg t 0 m i j hr p hp
  have q2 := nE_rg t 0 m i j hr q hq
  exact hpp _ _ (by omega) (by omega) (by rw [← p1.2, ← q1.2, e])
end NEP
