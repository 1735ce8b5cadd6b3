/-! parameters of TEMPLATES have their types -/
section TNA
variable {f pp ee R : Nat → Int32} {tE tN : Nat → tY} {L : List Nat}
theorem pNa_fn : ∀ (q w : Nat) (r : tY) (i : Nat), i < q → pNa (gFn tN q w r) i = tN (w + i)
  | 0, _, _, i, h => by omega
  | q + 1, w, r, 0, _ => rfl
  | q + 1, w, r, i + 1, h => by
    have := pNa_fn q (w + 1) r i (by omega)
    rw [show w + (i + 1) = w + 1 + i by omega]
    exact this
theorem rTo_L {w : Nat} (h : rTo R L w) : w ∈ L := by
  obtain ⟨n, -, e⟩ := h
  exact List.mem_of_getElem? e
theorem tLs_na : ∀ (t : tT) (env : List Nat) (y : tY), gOk f pp ee tE tN t env y → rWo f pp ee R L t env → ∀ x, x ∈ tLs tE tN t → ∀ i w, x.2.2[i]? = some w → w ∈ L ∧ tN w = pNa x.2.1 i
  | .leaf, _, _, _, _ => fun x hx => by cases hx
  | .inner g d z a b, env, y, ok, wo => by
    have Ia := tLs_na a
    have Ib := tLs_na b
    have ap : ∀ {l l' : List (Nat × tY × List Nat)}, (∀ x, x ∈ l → ∀ i w, x.2.2[i]? = some w → w ∈ L ∧ tN w = pNa x.2.1 i) → (∀ x, x ∈ l' → ∀ i w, x.2.2[i]? = some w → w ∈ L ∧ tN w = pNa x.2.1 i) → ∀ x, x ∈ l ++ l' → ∀ i w, x.2.2[i]? = some w → w ∈ L ∧ tN w = pNa x.2.1 i := fun h h' x hx => by
      rcases List.mem_append.mp hx with q | q
      · exact h x q
      · exact h' x q
    have co : ∀ {x0 : Nat × tY × List Nat} {l : List (Nat × tY × List Nat)}, (∀ i w, x0.2.2[i]? = some w → w ∈ L ∧ tN w = pNa x0.2.1 i) → (∀ x, x ∈ l → ∀ i w, x.2.2[i]? = some w → w ∈ L ∧ tN w = pNa x.2.1 i) → ∀ x, x ∈ x0 :: l → ∀ i w, x.2.2[i]? = some w → w ∈ L ∧ tN w = pNa x.2.1 i := fun h h' x hx => by
      rcases List.mem_cons.mp hx with q | q
      · rw [q]; exact h
      · exact h' x q
    by_cases c1 : g = 1
    · subst c1
      obtain ⟨-, o2, o3⟩ : tE d.1 = y ∧ gOk f pp ee tE tN a env (tN (d.1 + 1)) ∧ gOk f pp ee tE tN b (env ++ [d.1 + 1]) y := ok
      obtain ⟨-, w2, w3⟩ : _ ∧ rWo f pp ee R L a env ∧ rWo f pp ee R L b (env ++ [d.1 + 1]) := wo
      exact co (fun i w e => by cases e) (ap (Ia _ _ o2 w2) (Ib _ _ o3 w3))
    by_cases c2 : g = 2
    · subst c2
      obtain ⟨-, ⟨r, o1, o2⟩, o3⟩ : tE d.1 = y ∧ (∃ r, tN (d.1 + 2) = gFn tN d.2.1 (d.1 + 3) r ∧ gOk f pp ee tE tN a (env ++ ([d.1 + 2] ++ List.range' (d.1 + 3) d.2.1)) r) ∧ gOk f pp ee tE tN b (env ++ [d.1 + 2]) y := ok
      obtain ⟨⟨-, w1⟩, w2, w3⟩ : (_ ∧ ∀ x, x < d.2.1 → rTo R L (d.1 + 3 + x)) ∧ rWo f pp ee R L a (env ++ ([d.1 + 2] ++ List.range' (d.1 + 3) d.2.1)) ∧ rWo f pp ee R L b (env ++ [d.1 + 2]) := wo
      refine co (fun i w e => by cases e) (co (fun i w e => ?_) (ap (Ia _ _ o2 w2) (Ib _ _ o3 w3)))
      have e : (List.range' (d.1 + 3) d.2.1)[i]? = some w := e
      obtain ⟨hi, e⟩ := List.getElem?_eq_some_iff.mp e
      rw [List.length_range'] at hi
      rw [List.getElem_range', Nat.one_mul] at e
      subst e
      exact ⟨rTo_L (w1 i hi), by show _ = pNa (tN (d.1 + 2)) i; rw [o1, pNa_fn _ _ _ _ hi]⟩
    by_cases c3 : g = 3
    · subst c3
      obtain ⟨o1, r, o2, o3⟩ : tE d.1 = y ∧ ∃ r, y = yA (tN (d.1 + 1)) r ∧ gOk f pp ee tE tN a (env ++ [d.1 + 1]) r := ok
      obtain ⟨w1, w2⟩ : rTo R L (d.1 + 1) ∧ rWo f pp ee R L a (env ++ [d.1 + 1]) := wo
      refine co (fun i w e => ?_) (Ia _ _ o3 w2)
      cases i with
      | zero =>
        have e : some (d.1 + 1) = some w := e
        injection e with e
        subst e
        exact ⟨rTo_L w1, by show _ = yL (tE d.1); rw [o1, o2]; rfl⟩
      | succ i => cases e
    by_cases c4 : g = 4
    · subst c4
      obtain ⟨-, -, o2⟩ : tE d.1 = y ∧ _ ∧ gOk f pp ee tE tN b env y := ok
      exact co (fun i w e => by cases e) (Ib _ _ o2 wo.2)
    by_cases c5 : g = 5
    · subst c5
      exact Ib _ _ ok.2 wo.2
    by_cases c6 : g = 6
    · subst c6
      exact Ia _ _ ok.2.2 wo.2.2.2
    by_cases c15 : g = 15
    · subst c15
      exact Ia _ _ ok.2 wo.2
    by_cases c16 : g = 16
    · subst c16
      exact Ia _ _ ok wo.2.2.1
    by_cases c19 : g = 19
    · subst c19
      obtain ⟨-, -, -, o2, o3⟩ : tE d.1 = y ∧ _ ∧ _ ∧ gOk f pp ee tE tN a env y ∧ gOk f pp ee tE tN b (env ++ [d.2.1, d.2.1 + 1]) y := ok
      obtain ⟨-, w2, -, w3⟩ : _ ∧ rWo f pp ee R L a env ∧ _ ∧ rWo f pp ee R L b (env ++ [d.2.1, d.2.1 + 1]) := wo
      exact co (fun i w e => by cases e) (ap (Ia _ _ o2 w2) (Ib _ _ o3 w3))
    by_cases c31 : g = 31
    · subst c31
      exact ap (Ia _ _ ok.1 wo.2.2.1) (Ib _ _ ok.2 wo.2.2.2)
    by_cases c33 : g = 33
    · subst c33
      exact Ib _ _ ok.2.2 wo.2.2.2
    by_cases c34 : g = 34
    · subst c34
      exact ap (Ia _ _ ok.2.1 wo.2.2.1) (Ib _ _ ok.2.2 wo.2.2.2)
    by_cases c35 : g = 35
    · subst c35
      exact Ib _ _ ok.2.2 wo.2.2.2
    · unfold tLs
      rw [if_neg (by omega), if_neg c2, if_neg c3, if_neg c4, if_neg (by omega), if_neg (by omega), if_neg (by omega)]
      exact fun x hx => by cases hx
end TNA
