/-! ROOM: how high a type is, the arrows of a longest way, and what it costs by its height -/
/-- how many arrows lie one in another at most -/
def yHt : tY → Nat
  | .leaf => 0
  | .inner k _ _ a b => if k = 0 then max (yHt a) (yHt b) + 1 else 0
/-- the arrows of a longest way -/
def yWt : tY → List tY
  | .leaf => []
  | .inner k u v a b => if k = 0 then (.inner k u v a b) :: (if yHt b < yHt a then yWt a else yWt b) else []
theorem yHt_0 {u v} {a b : tY} : yHt (.inner 0 u v a b) = max (yHt a) (yHt b) + 1 := rfl
theorem yHt_n {y : tY} (h : yK y ≠ 1) : yHt y = 0 := by
  cases y with
  | leaf => rfl
  | inner k u v a b =>
    by_cases c : k = 0
    · subst c; exact absurd rfl h
    · exact if_neg c
theorem yWt_l : ∀ y : tY, (yWt y).length = yHt y
  | .leaf => rfl
  | .inner k u v a b => by
    have ia := yWt_l a
    have ib := yWt_l b
    by_cases c : k = 0
    · subst c
      show ((Std.DTreeMap.Internal.Impl.inner 0 u v a b : tY) :: (if yHt b < yHt a then yWt a else yWt b)).length = max (yHt a) (yHt b) + 1
      rw [List.length_cons]
      by_cases d : yHt b < yHt a
      · rw [if_pos d, ia]; omega
      · rw [if_neg d, ib]; omega
    · unfold yWt yHt
      rw [if_neg c, if_neg c]; rfl
theorem yWt_in : ∀ (y : tY) (z : tY), z ∈ yWt y → yIn z y ∧ yZ z ≤ yZ y
  | .leaf, z, h => by cases h
  | .inner k u v a b, z, h => by
    unfold yWt at h
    by_cases c : k = 0
    · rw [if_pos c] at h
      rcases List.mem_cons.mp h with e | e
      · rw [e]
        exact ⟨⟨c, Or.inl rfl⟩, Nat.le_refl _⟩
      · by_cases d : yHt b < yHt a
        · rw [if_pos d] at e
          obtain ⟨h1, h2⟩ := yWt_in a z e
          refine ⟨⟨c, Or.inr (Or.inl h1)⟩, ?_⟩
          show yZ z ≤ yZ a + yZ b + 1
          omega
        · rw [if_neg d] at e
          obtain ⟨h1, h2⟩ := yWt_in b z e
          refine ⟨⟨c, Or.inr (Or.inr h1)⟩, ?_⟩
          show yZ z ≤ yZ a + yZ b + 1
          omega
    · rw [if_neg c] at h
      cases h
theorem yWt_p : ∀ y : tY, (yWt y).Pairwise (fun a b => yZ b < yZ a)
  | .leaf => List.Pairwise.nil
  | .inner k u v a b => by
    have ia := yWt_p a
    have ib := yWt_p b
    unfold yWt
    by_cases c : k = 0
    · rw [if_pos c]
      refine List.pairwise_cons.mpr ⟨fun z hz => ?_, ?_⟩
      · by_cases d : yHt b < yHt a
        · rw [if_pos d] at hz
          have h2 := (yWt_in a z hz).2
          show yZ z < yZ a + yZ b + 1
          omega
        · rw [if_neg d] at hz
          have h2 := (yWt_in b z hz).2
          show yZ z < yZ a + yZ b + 1
          omega
      · by_cases d : yHt b < yHt a
        · rw [if_pos d]; exact ia
        · rw [if_neg d]; exact ib
    · rw [if_neg c]; exact List.Pairwise.nil
/-- a type is no higher than it has arrows -/
theorem yHt_A : ∀ y : tY, yHt y ≤ yAr y
  | .leaf => Nat.zero_le _
  | .inner k u v a b => by
    have ia := yHt_A a
    have ib := yHt_A b
    by_cases c : k = 0
    · subst c
      rw [yHt_0, yAr_0]
      omega
    · rw [yHt_n (fun z => c (by have z : k + 1 = 1 := z; omega))]
      exact Nat.zero_le _
/-- what comes to a type h high beyond al an arrow, p measured arrows passed -/
def gLg (al : Nat) : Nat → Nat → Nat
  | 0, _ => 0
  | h + 1, p => max (84 + 4 * p + gLg al h (p + 1) - al) (60 + 2 * gLg al h p - al)
theorem gLg_s (al h p : Nat) : gLg al (h + 1) p = max (84 + 4 * p + gLg al h (p + 1) - al) (60 + 2 * gLg al h p - al) := rfl
theorem gLg_h (al : Nat) : ∀ (h p : Nat), gLg al h p ≤ gLg al (h + 1) p
  | 0, _ => Nat.zero_le _
  | h + 1, p => by
    have h1 := gLg_h al h (p + 1)
    have h2 := gLg_h al h p
    have e1 := gLg_s al (h + 1) p
    have e2 := gLg_s al h p
    omega
theorem gLg_mo (al p : Nat) : ∀ (d h : Nat), gLg al h p ≤ gLg al (h + d) p
  | 0, _ => Nat.le_refl _
  | d + 1, h => Nat.le_trans (gLg_mo al p d h) (gLg_h al (h + d) p)
theorem gLg_le {al h h' : Nat} (p : Nat) (hh : h ≤ h') : gLg al h p ≤ gLg al h' p := by
  have := gLg_mo al p (h' - h) h
  rw [show h + (h' - h) = h' by omega] at this
  exact this
/-- **what a type costs, by its arrows and its height** -/
theorem yCo_g (al : Nat) : ∀ (y : tY) (p : Nat), yCo y + 4 * (p * yMs y) ≤ al * yAr y + gLg al (yHt y) p
  | .leaf, p => by
    show 0 + 4 * (p * 0) ≤ _
    rw [Nat.mul_zero]
    exact Nat.zero_le _
  | .inner k u v a b, p => by
    by_cases c : k = 0
    · subst c
      rw [yHt_0, gLg_s]
      have m1 := gLg_le (al := al) (p + 1) (Nat.le_max_right (yHt a) (yHt b))
      have m2 := gLg_le (al := al) p (Nat.le_max_right (yHt a) (yHt b))
      have m3 := gLg_le (al := al) p (Nat.le_max_left (yHt a) (yHt b))
      generalize max (yHt a) (yHt b) = H at *
      by_cases m : gMs a = true
      · obtain ⟨e1, e2, e3⟩ := yCo_1 (u := u) (v := v) (b := b) m
        have ib := yCo_g al b (p + 1)
        rw [e1, e2, e3]
        have x1 : p * (1 + yMs b) = p + p * yMs b := by rw [Nat.mul_add, Nat.mul_one]
        have x2 : (p + 1) * yMs b = p * yMs b + yMs b := by rw [Nat.add_mul, Nat.one_mul]
        have x3 : al * (1 + yAr b) = al + al * yAr b := by rw [Nat.mul_add, Nat.mul_one]
        rw [x1, x3]
        rw [x2] at ib
        omega
      · obtain ⟨e1, e2, e3⟩ := yCo_0 (u := u) (v := v) (b := b) m
        have ia := yCo_g al a p
        have ib := yCo_g al b p
        rw [e1, e2, e3]
        have x1 : p * (yMs a + yMs b) = p * yMs a + p * yMs b := Nat.mul_add _ _ _
        have x3 : al * (1 + yAr a + yAr b) = al + al * yAr a + al * yAr b := by rw [Nat.mul_add, Nat.mul_add, Nat.mul_one]
        rw [x1, x3]
        omega
    · obtain ⟨e1, e2, e3⟩ := yCo_n (y := .inner k u v a b) (fun z => c (by have z : k + 1 = 1 := z; omega))
      rw [e1, e3, Nat.mul_zero]
      exact Nat.zero_le _
/-- the same along a row whose lefts are at most t high -/
def gLs (al t : Nat) : Nat → Nat → Nat
  | 0, _ => 0
  | h + 1, p => max (84 + 4 * p + gLs al t h (p + 1) - al) (60 + gLg al (min h t) p + gLs al t h p - al)
theorem gLs_s (al t h p : Nat) : gLs al t (h + 1) p = max (84 + 4 * p + gLs al t h (p + 1) - al) (60 + gLg al (min h t) p + gLs al t h p - al) := rfl
theorem gLs_h (al t : Nat) : ∀ (h p : Nat), gLs al t h p ≤ gLs al t (h + 1) p
  | 0, _ => Nat.zero_le _
  | h + 1, p => by
    have h1 := gLs_h al t h (p + 1)
    have h2 := gLs_h al t h p
    have h3 := gLg_le (al := al) p (show min h t ≤ min (h + 1) t by omega)
    have e1 := gLs_s al t (h + 1) p
    have e2 := gLs_s al t h p
    omega
theorem gLs_mo (al t p : Nat) : ∀ (d h : Nat), gLs al t h p ≤ gLs al t (h + d) p
  | 0, _ => Nat.le_refl _
  | d + 1, h => Nat.le_trans (gLs_mo al t p d h) (gLs_h al t (h + d) p)
theorem gLs_le {al t h h' : Nat} (p : Nat) (hh : h ≤ h') : gLs al t h p ≤ gLs al t h' p := by
  have := gLs_mo al t p (h' - h) h
  rw [show h + (h' - h) = h' by omega] at this
  exact this
/-- functions that are taken along a type's row are at most t high -/
def yLt (t : Nat) : tY → Prop
  | .leaf => True
  | .inner k _ _ a b => k = 0 → yHt a ≤ t ∧ yLt t b
/-- **what a type costs whose row takes functions at most t high** -/
theorem yCo_s (al t : Nat) : ∀ (y : tY) (p : Nat), yLt t y → yCo y + 4 * (p * yMs y) ≤ al * yAr y + gLs al t (yHt y) p
  | .leaf, p, _ => by
    show 0 + 4 * (p * 0) ≤ _
    rw [Nat.mul_zero]
    exact Nat.zero_le _
  | .inner k u v a b, p, ht => by
    by_cases c : k = 0
    · subst c
      obtain ⟨t1, t2⟩ : yHt a ≤ t ∧ yLt t b := ht rfl
      rw [yHt_0, gLs_s]
      have m1 := gLs_le (al := al) (t := t) (p + 1) (Nat.le_max_right (yHt a) (yHt b))
      have m2 := gLs_le (al := al) (t := t) p (Nat.le_max_right (yHt a) (yHt b))
      have m3 := gLg_le (al := al) p (show yHt a ≤ min (max (yHt a) (yHt b)) t by omega)
      generalize max (yHt a) (yHt b) = H at *
      by_cases m : gMs a = true
      · obtain ⟨e1, e2, e3⟩ := yCo_1 (u := u) (v := v) (b := b) m
        have ib := yCo_s al t b (p + 1) t2
        rw [e1, e2, e3]
        have x1 : p * (1 + yMs b) = p + p * yMs b := by rw [Nat.mul_add, Nat.mul_one]
        have x2 : (p + 1) * yMs b = p * yMs b + yMs b := by rw [Nat.add_mul, Nat.one_mul]
        have x3 : al * (1 + yAr b) = al + al * yAr b := by rw [Nat.mul_add, Nat.mul_one]
        rw [x1, x3]
        rw [x2] at ib
        omega
      · obtain ⟨e1, e2, e3⟩ := yCo_0 (u := u) (v := v) (b := b) m
        have ia := yCo_g al a p
        have ib := yCo_s al t b p t2
        rw [e1, e2, e3]
        have x1 : p * (yMs a + yMs b) = p * yMs a + p * yMs b := Nat.mul_add _ _ _
        have x3 : al * (1 + yAr a + yAr b) = al + al * yAr a + al * yAr b := by rw [Nat.mul_add, Nat.mul_add, Nat.mul_one]
        rw [x1, x3]
        omega
    · obtain ⟨e1, e2, e3⟩ := yCo_n (y := .inner k u v a b) (fun z => c (by have z : k + 1 = 1 := z; omega))
      rw [e1, e3, Nat.mul_zero]
      exact Nat.zero_le _
