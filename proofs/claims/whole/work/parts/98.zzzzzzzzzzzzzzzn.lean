/-! all TEMPLATES of a tree, in the reference's order -/
section TLS
variable (tE tN : Nat → tY)
/-- key, type, NAMES of parameters -/
def tLs : tT → List (Nat × tY × List Nat)
  | .leaf => []
  | .inner g d _ a b =>
    if g = 1 ∨ g = 19 then (2 * d.1, tE d.1, []) :: (tLs a ++ tLs b)
    else if g = 2 then (2 * d.1, tE d.1, []) :: (2 * d.1 + 1, tN (d.1 + 2), List.range' (d.1 + 3) d.2.1) :: (tLs a ++ tLs b)
    else if g = 3 then (2 * d.1, tE d.1, [d.1 + 1]) :: tLs a
    else if g = 4 then (2 * d.1, tE d.1, []) :: tLs b
    else if g = 5 ∨ g = 33 ∨ g = 35 then tLs b
    else if g = 6 ∨ g = 15 ∨ g = 16 then tLs a
    else if g = 31 ∨ g = 34 then tLs a ++ tLs b
    else []
end TLS
def lsF (l : List (Nat × tY × List Nat)) : Nat := (l.map (fun x => yFz x.2.1 x.2.2.length)).sum
def lsC (l : List (Nat × tY × List Nat)) : Nat := (l.map (fun x => yLs x.2.1)).sum
/-- their numbers are right, from fb, cb on -/
def lOk (Γ : uGm) : List (Nat × tY × List Nat) → Nat → Nat → Prop
  | [], _, _ => True
  | x :: r, fb, cb => mOk Γ x.2.1 (x.1, [], x.2.1, x.2.2, []) fb cb ∧ lOk Γ r (fb + yFz x.2.1 x.2.2.length) (cb + yLs x.2.1)
section LOK
variable {Γ : uGm} {tE tN : Nat → tY}
theorem lsF_ap (l l' : List (Nat × tY × List Nat)) : lsF (l ++ l') = lsF l + lsF l' := by unfold lsF; rw [List.map_append, List.sum_append]
theorem lsC_ap (l l' : List (Nat × tY × List Nat)) : lsC (l ++ l') = lsC l + lsC l' := by unfold lsC; rw [List.map_append, List.sum_append]
theorem lsF_c (x : Nat × tY × List Nat) (l : List (Nat × tY × List Nat)) : lsF (x :: l) = yFz x.2.1 x.2.2.length + lsF l := by unfold lsF; rw [List.map_cons, List.sum_cons]
theorem lsC_c (x : Nat × tY × List Nat) (l : List (Nat × tY × List Nat)) : lsC (x :: l) = yLs x.2.1 + lsC l := by unfold lsC; rw [List.map_cons, List.sum_cons]
theorem lOk_ap : ∀ (l l' : List (Nat × tY × List Nat)) (fb cb : Nat), lOk Γ (l ++ l') fb cb → lOk Γ l fb cb ∧ lOk Γ l' (fb + lsF l) (cb + lsC l)
  | [], l', fb, cb, h => ⟨trivial, h⟩
  | x :: l, l', fb, cb, h => by
    obtain ⟨h1, h2⟩ : mOk Γ x.2.1 (x.1, [], x.2.1, x.2.2, []) fb cb ∧ lOk Γ (l ++ l') (fb + yFz x.2.1 x.2.2.length) (cb + yLs x.2.1) := h
    obtain ⟨a1, a2⟩ := lOk_ap l l' _ _ h2
    refine ⟨⟨h1, a1⟩, ?_⟩
    rw [lsF_c, lsC_c, ← Nat.add_assoc, ← Nat.add_assoc]
    exact a2
theorem tLs_s : ∀ t : tT, lsF (tLs tE tN t) = g100 tE tN t ∧ lsC (tLs tE tN t) = g98 tE tN t
  | .leaf => ⟨rfl, rfl⟩
  | .inner g d _ a b => by
    obtain ⟨a1, a2⟩ := tLs_s a
    obtain ⟨b1, b2⟩ := tLs_s b
    unfold tLs g100 g98
    by_cases c1 : g = 1 ∨ g = 19
    · rw [if_pos c1, if_pos c1, if_pos c1, lsF_c, lsC_c, lsF_ap, lsC_ap, a1, a2, b1, b2]
      show yFz (tE d.1) 0 + _ = _ ∧ yLs (tE d.1) + _ = _
      omega
    rw [if_neg c1, if_neg c1, if_neg c1]
    by_cases c2 : g = 2
    · rw [if_pos c2, if_pos c2, if_pos c2, lsF_c, lsC_c, lsF_c, lsC_c, lsF_ap, lsC_ap, a1, a2, b1, b2, List.length_range']
      show yFz (tE d.1) 0 + (yFz (tN (d.1 + 2)) d.2.1 + _) = _ ∧ yLs (tE d.1) + (yLs (tN (d.1 + 2)) + _) = _
      omega
    rw [if_neg c2, if_neg c2, if_neg c2]
    by_cases c3 : g = 3
    · rw [if_pos c3, if_pos c3, if_pos c3, lsF_c, lsC_c, a1, a2]
      exact ⟨rfl, rfl⟩
    rw [if_neg c3, if_neg c3, if_neg c3]
    by_cases c4 : g = 4
    · rw [if_pos c4, if_pos c4, if_pos c4, lsF_c, lsC_c, b1, b2]
      exact ⟨rfl, rfl⟩
    rw [if_neg c4, if_neg c4, if_neg c4]
    by_cases c5 : g = 5 ∨ g = 33 ∨ g = 35
    · rw [if_pos c5, if_pos c5, if_pos c5]
      exact ⟨b1, b2⟩
    rw [if_neg c5, if_neg c5, if_neg c5]
    by_cases c6 : g = 6 ∨ g = 15 ∨ g = 16
    · rw [if_pos c6, if_pos c6, if_pos c6]
      exact ⟨a1, a2⟩
    rw [if_neg c6, if_neg c6, if_neg c6]
    by_cases c7 : g = 31 ∨ g = 34
    · rw [if_pos c7, if_pos c7, if_pos c7, lsF_ap, lsC_ap, a1, a2, b1, b2]
      exact ⟨rfl, rfl⟩
    rw [if_neg c7, if_neg c7, if_neg c7]
    exact ⟨rfl, rfl⟩
/-- so gNb is a matter of this list -/
theorem gNb_of : ∀ (t : tT) (fb cb : Nat), lOk Γ (tLs tE tN t) fb cb → gNb tE tN Γ t fb cb
  | .leaf, _, _, _ => trivial
  | .inner g d _ a b, fb, cb, h => by
    have Ia := gNb_of a
    have Ib := gNb_of b
    obtain ⟨a1, a2⟩ := tLs_s (tE := tE) (tN := tN) a
    have ab : ∀ fb cb, lOk Γ (tLs tE tN a ++ tLs tE tN b) fb cb → gNb tE tN Γ a fb cb ∧ gNb tE tN Γ b (fb + g100 tE tN a) (cb + g98 tE tN a) := fun fb cb h => by
      obtain ⟨h1, h2⟩ := lOk_ap _ _ _ _ h
      rw [a1, a2] at h2
      exact ⟨Ia _ _ h1, Ib _ _ h2⟩
    unfold tLs at h
    unfold gNb
    by_cases c1 : g = 1 ∨ g = 19
    · rw [if_pos c1] at h ⊢
      exact ⟨h.1, ab _ _ h.2⟩
    rw [if_neg c1] at h ⊢
    by_cases c2 : g = 2
    · rw [if_pos c2] at h ⊢
      obtain ⟨h1, h2, h3⟩ := h
      rw [show (2 * d.1 + 1, tN (d.1 + 2), List.range' (d.1 + 3) d.2.1).2.2.length = d.2.1 from List.length_range'] at h3
      exact ⟨h1, h2, ab _ _ h3⟩
    rw [if_neg c2] at h ⊢
    by_cases c3 : g = 3
    · rw [if_pos c3] at h ⊢
      exact ⟨h.1, Ia _ _ h.2⟩
    rw [if_neg c3] at h ⊢
    by_cases c4 : g = 4
    · rw [if_pos c4] at h ⊢
      exact ⟨h.1, Ib _ _ h.2⟩
    rw [if_neg c4] at h ⊢
    by_cases c5 : g = 5 ∨ g = 33 ∨ g = 35
    · rw [if_pos c5] at h ⊢
      exact Ib _ _ h
    rw [if_neg c5] at h ⊢
    by_cases c6 : g = 6 ∨ g = 15 ∨ g = 16
    · rw [if_pos c6] at h ⊢
      exact Ia _ _ h
    rw [if_neg c6] at h ⊢
    by_cases c7 : g = 31 ∨ g = 34
    · rw [if_pos c7] at h ⊢
      exact ab _ _ h
    rw [if_neg c7]
    trivial
end LOK
