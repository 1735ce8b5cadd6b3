/-! ROOM: TEMPLATES side by side, with those of funs -/
theorem fi_su {α : Type} (p : α → Bool) : ∀ l : List α, (l.filter p).length = (l.map (fun x => if p x = true then 1 else 0)).sum
  | [] => rfl
  | x :: l => by
    rw [List.filter_cons, List.map_cons, List.sum_cons]
    have ih := fi_su p l
    split
    · rw [List.length_cons]; omega
    · omega
/-- of a list, some things and those of a kind -/
theorem su_B {α : Type} (f : α → Nat) (p : α → Bool) (l B : List α) (hB : B.Nodup) (hs : ∀ b, b ∈ B → b ∈ l) (hp : ∀ x, x ∈ l → p x = true → 1 ≤ f x) : (B.map f).sum + (l.filter p).length ≤ (l.map f).sum + B.length := by
  obtain ⟨R, r1, -, r3⟩ := pm_sb B l hB hs
  have a := r1 f
  have b := r1 (fun x => if p x = true then 1 else 0)
  rw [← fi_su] at b
  have c : (B.map (fun x => if p x = true then 1 else 0)).sum ≤ B.length := by
    have : ∀ B : List α, (B.map (fun x => if p x = true then 1 else 0)).sum ≤ B.length := fun B => by
      induction B with
      | nil => exact Nat.le_refl _
      | cons x B ih =>
        rw [List.map_cons, List.sum_cons, List.length_cons]
        split <;> omega
    exact this B
  have d : ∀ R : List α, (∀ x, x ∈ R → x ∈ l) → (R.map (fun x => if p x = true then 1 else 0)).sum ≤ (R.map f).sum := fun R => by
    induction R with
    | nil => intro _; exact Nat.le_refl _
    | cons x R ih =>
      intro h
      have i := ih (fun y hy => h y (List.mem_cons_of_mem _ hy))
      rw [List.map_cons, List.sum_cons, List.map_cons, List.sum_cons]
      by_cases q : p x = true
      · rw [if_pos q]
        have := hp x (h x (List.mem_cons_self ..)) q
        omega
      · rw [if_neg q]
        omega
  have d := d R r3
  omega
section TLB
variable {ρ : Nat → Nat × Nat} {tE tN : Nat → tY} {Un : List ((Nat × Nat) × Nat)} {Ls W : List Nat} {l : List (Nat × tY × List Nat)}
theorem fuP_1 (h : tlH ρ tE tN Un Ls W l) {x : Nat × tY × List Nat} (hx : x ∈ l) (hp : fuP x = true) : 1 ≤ yAr x.2.1 := by
  have G : ∀ x, x ∈ l → yG x.2.1 := h.2.2.2.2.1
  have ne : x.2.2 ≠ [] := by
    unfold fuP at hp
    exact of_decide_eq_true ((Bool.and_eq_true _ _).mp hp).1
  have pos : 0 < x.2.2.length := List.length_pos_iff.mpr ne
  obtain ⟨u, hu'⟩ : ∃ u, x.2.2[0]? = some u := ⟨_, List.getElem?_eq_getElem pos⟩
  obtain ⟨n1, n2, n3, -⟩ := h.nm (k := x.1) (Y := x.2.1) hx hu'
  have is := h.is (k := x.1) (Y := x.2.1) hx n1
  have sp : 0 < ySp x.2.1 := ySp_k (G x hx) (yIs_1 is)
  have e := yLa_le (G x hx) sp
  omega
/-- **some TEMPLATES' arrows, and those of funs** -/
theorem tl_B (h : tlH ρ tE tN Un Ls W l) {B : List (Nat × tY × List Nat)} (hB : B.Nodup) (hs : ∀ b, b ∈ B → b ∈ l) : (B.map (fun x => yAr x.2.1)).sum + (l.filter fuP).length ≤ tlN l + B.length :=
  su_B (fun x : Nat × tY × List Nat => yAr x.2.1) fuP l B hB hs (fun x hx hp => fuP_1 h hx hp)
/-- a unit lies in a TEMPLATE -/
theorem tl_in (h : tlH ρ tE tN Un Ls W l) {id0 : Nat × Nat} {m0 : Nat} (hu : (id0, m0) ∈ Un) : ∃ x, x ∈ l ∧ yAr (uY tE tN id0) ≤ yAr x.2.1 ∧ ((id0 = (0, x.1) ∧ uY tE tN id0 = x.2.1) ∨ (∃ (j : Nat) (u : Nat), x.2.2[j]? = some u ∧ id0 = (1, u)) ∧ yAr (uY tE tN id0) + 1 ≤ yAr x.2.1) := by
  obtain ⟨x0, hx0, hid⟩ := h.wh hu
  have G : ∀ x, x ∈ l → yG x.2.1 := h.2.2.2.2.1
  rcases hid with ⟨i1, i2⟩ | ⟨j0, u0, i1, i2⟩
  · exact ⟨x0, hx0, by rw [i2]; exact Nat.le_refl _, Or.inl ⟨i1, i2⟩⟩
  · obtain ⟨n1, n2, n3, -⟩ := h.nm (k := x0.1) (Y := x0.2.1) hx0 i1
    have is := h.is (k := x0.1) (Y := x0.2.1) hx0 n1
    have sp : j0 < ySp x0.2.1 := ySp_k (G x0 hx0) (yIs_1 is)
    have e := yLa_le (G x0 hx0) sp
    have e2 : yLa x0.2.1 j0 = yAr (tN u0) := by unfold yLa; rw [n2]
    have e3 : yAr (uY tE tN id0) = yAr (tN u0) := by rw [i2, uY_p]
    exact ⟨x0, hx0, by omega, Or.inr ⟨⟨j0, u0, i1, i2⟩, by omega⟩⟩
/-- types whose sizes fall strictly have at least 1, 2, 3, .. arrows -/
theorem sz_su : ∀ Z : List tY, Z.Pairwise (fun a b => yAr b < yAr a) → (∀ z, z ∈ Z → 1 ≤ yAr z) → Z.length * (Z.length + 1) ≤ 2 * (Z.map yAr).sum ∧ ∀ z, Z.head? = some z → Z.length ≤ yAr z
  | [], _, _ => ⟨Nat.le_refl _, fun z h => by cases h⟩
  | a :: Z, hp, h1 => by
    obtain ⟨p1, p2⟩ := List.pairwise_cons.mp hp
    obtain ⟨i1, i2⟩ := sz_su Z p2 (fun z hz => h1 z (List.mem_cons_of_mem _ hz))
    have ha : Z.length + 1 ≤ yAr a := by
      cases Z with
      | nil => exact h1 a (List.mem_cons_self ..)
      | cons b Z =>
        have := p1 b (List.mem_cons_self ..)
        have := i2 b rfl
        omega
    refine ⟨?_, fun z hz => ?_⟩
    · rw [List.map_cons, List.sum_cons, List.length_cons]
      have : (Z.length + 1) * (Z.length + 1 + 1) = Z.length * (Z.length + 1) + 2 * (Z.length + 1) := by
        rw [Nat.mul_comm, ← Nat.add_mul]
      rw [this]
      omega
    · injection hz with hz
      rw [← hz, List.length_cons]
      exact ha
end TLB
section CVK
variable {tE tN : Nat → tY}
/-- what let rec and fun ask for of their own, by TEMPLATES -/
theorem cvO_k : ∀ (t : tT) (o : tY × Nat), o ∈ cvO tE tN t → (∃ x, x ∈ tLs tE tN t ∧ fuP x = true ∧ o = (x.2.1, 1)) ∨ ∃ d q, (2 * d + 1, tN (d + 2), List.range' (d + 3) q) ∈ tLs tE tN t ∧ o = (tN (d + 2), q)
  | .leaf, _, h => by cases h
  | .inner g d z a b, o, h => by
    have Ia := cvO_k a o
    have Ib := cvO_k b o
    have MO : ∀ {l l' : List (Nat × tY × List Nat)}, (∀ x, x ∈ l → x ∈ l') → ((∃ x, x ∈ l ∧ fuP x = true ∧ o = (x.2.1, 1)) ∨ ∃ d q, (2 * d + 1, tN (d + 2), List.range' (d + 3) q) ∈ l ∧ o = (tN (d + 2), q)) → ((∃ x, x ∈ l' ∧ fuP x = true ∧ o = (x.2.1, 1)) ∨ ∃ d q, (2 * d + 1, tN (d + 2), List.range' (d + 3) q) ∈ l' ∧ o = (tN (d + 2), q)) := fun hs h => by
      rcases h with ⟨x, h1, h2⟩ | ⟨d, q, h1, h2⟩
      · exact Or.inl ⟨x, hs x h1, h2⟩
      · exact Or.inr ⟨d, q, hs _ h1, h2⟩
    rw [cvO] at h
    rw [tLs]
    by_cases c1 : g = 1
    · rw [if_pos c1] at h
      rw [if_pos (Or.inl c1)]
      rcases List.mem_append.mp h with h | h
      · exact MO (fun x hx => List.mem_cons_of_mem _ (List.mem_append_left _ hx)) (Ia h)
      · exact MO (fun x hx => List.mem_cons_of_mem _ (List.mem_append_right _ hx)) (Ib h)
    rw [if_neg c1] at h
    by_cases c2 : g = 2
    · rw [if_pos c2] at h
      rw [if_neg (by omega), if_pos c2]
      rcases List.mem_cons.mp h with e | h
      · exact Or.inr ⟨d.1, d.2.1, List.mem_cons_of_mem _ (List.mem_cons_self ..), e⟩
      · rcases List.mem_append.mp h with h | h
        · exact MO (fun x hx => List.mem_cons_of_mem _ (List.mem_cons_of_mem _ (List.mem_append_left _ hx))) (Ia h)
        · exact MO (fun x hx => List.mem_cons_of_mem _ (List.mem_cons_of_mem _ (List.mem_append_right _ hx))) (Ib h)
    rw [if_neg c2] at h
    by_cases c3 : g = 3
    · rw [if_pos c3] at h
      rw [if_neg (by omega), if_neg (by omega), if_pos c3]
      rcases List.mem_cons.mp h with e | h
      · refine Or.inl ⟨_, List.mem_cons_self .., ?_, e⟩
        unfold fuP
        rw [decide_eq_true (show (2 * d.1) % 2 = 0 by omega), Bool.and_true]
        exact decide_eq_true (fun z => by cases z)
      · exact MO (fun x hx => List.mem_cons_of_mem _ hx) (Ia h)
    rw [if_neg c3] at h
    by_cases c4 : g = 4
    · rw [if_pos (Or.inl c4)] at h
      rw [if_neg (by omega), if_neg (by omega), if_neg (by omega), if_pos c4]
      exact MO (fun x hx => List.mem_cons_of_mem _ hx) (Ib h)
    by_cases c5 : g = 5
    · rw [if_pos (Or.inr c5)] at h
      rw [if_neg (by omega), if_neg (by omega), if_neg (by omega), if_neg (by omega), if_pos (Or.inl c5)]
      exact Ib h
    rw [if_neg (show ¬ (g = 4 ∨ g = 5) by omega)] at h
    by_cases c6 : g = 6 ∨ g = 16
    · rw [if_pos c6] at h
      rw [if_neg (by omega), if_neg (by omega), if_neg (by omega), if_neg (by omega), if_neg (by omega), if_pos (by omega)]
      exact Ia h
    rw [if_neg c6] at h
    by_cases c15 : g = 15
    · rw [if_pos c15] at h
      rw [if_neg (by omega), if_neg (by omega), if_neg (by omega), if_neg (by omega), if_neg (by omega), if_pos (by omega)]
      exact Ia h
    rw [if_neg c15] at h
    by_cases c19 : g = 19
    · rw [if_pos c19] at h
      rw [if_pos (Or.inr c19)]
      rcases List.mem_append.mp h with h | h
      · exact MO (fun x hx => List.mem_cons_of_mem _ (List.mem_append_left _ hx)) (Ia h)
      · exact MO (fun x hx => List.mem_cons_of_mem _ (List.mem_append_right _ hx)) (Ib h)
    rw [if_neg c19] at h
    by_cases c31 : g = 31 ∨ g = 34
    · rw [if_pos c31] at h
      rw [if_neg (by omega), if_neg (by omega), if_neg (by omega), if_neg (by omega), if_neg (by omega), if_neg (by omega), if_pos c31]
      rcases List.mem_append.mp h with h | h
      · exact MO (fun x hx => List.mem_append_left _ hx) (Ia h)
      · exact MO (fun x hx => List.mem_append_right _ hx) (Ib h)
    rw [if_neg c31] at h
    by_cases c33 : g = 33 ∨ g = 35
    · rw [if_pos c33] at h
      rw [if_neg (by omega), if_neg (by omega), if_neg (by omega), if_neg (by omega), if_pos (by omega)]
      exact Ib h
    rw [if_neg c33] at h
    cases h
end CVK
