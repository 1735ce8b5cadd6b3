/-! CAPACITIES: how large types make rows -/
section YFR
theorem yNd_lv : ∀ y : tY, yNd y + 1 ≤ 2 * yLv y
  | .leaf => Nat.le_refl _
  | .inner k u v a b => by
    have i1 := yNd_lv a
    have i2 := yNd_lv b
    unfold yNd yLv
    split <;> omega
theorem yLs_lv : ∀ y : tY, yLs y ≤ yLv y
  | .leaf => Nat.zero_le _
  | .inner k u v a b => by
    have i1 := yLs_lv a
    have i2 := yLs_lv b
    unfold yLs yLv
    split
    · omega
    · split <;> omega
theorem yFe_lv : ∀ y : tY, yFe y + 1 ≤ yLv y
  | .leaf => Nat.le_refl _
  | .inner k u v a b => by
    have i1 := yFe_lv a
    have i2 := yFe_lv b
    unfold yFe yLv
    split <;> omega
theorem yFr_lv : ∀ y : tY, yFr y ≤ (yLv y - 1) * (yLv y - 1)
  | .leaf => Nat.le_refl _
  | .inner k u v a b => by
    by_cases h0 : k = 0
    · subst h0
      have i1 := yFr_lv a
      have i2 := yFr_lv b
      have i3 := yNd_lv b
      have pa := yLv_pos a
      have pb := yLv_pos b
      show yFr a + yFr b + yNd b ≤ (yLv a + yLv b - 1) * (yLv a + yLv b - 1)
      obtain ⟨p, hp⟩ : ∃ p, yLv a = p + 1 := ⟨yLv a - 1, by omega⟩
      obtain ⟨q, hq⟩ : ∃ q, yLv b = q + 1 := ⟨yLv b - 1, by omega⟩
      rw [hp] at i1 ⊢
      rw [hq] at i2 i3 ⊢
      rw [show p + 1 - 1 = p by omega] at i1
      rw [show q + 1 - 1 = q by omega] at i2
      rw [show p + 1 + (q + 1) - 1 = p + (q + 1) by omega]
      have e : (p + (q + 1)) * (p + (q + 1)) = p * p + q * q + 2 * (p * (q + 1)) + 2 * q + 1 := by
        simp only [Nat.add_mul, Nat.mul_add, Nat.mul_one, Nat.one_mul, Nat.mul_comm q p]
        omega
      rw [e]
      omega
    · unfold yFr
      rw [if_neg h0]
      exact Nat.zero_le _
theorem yFs_lv : ∀ y : tY, 2 * yFs y + yLv y ≤ yLv y * yLv y
  | .leaf => Nat.le_refl _
  | .inner k u v a b => by
    by_cases h0 : k = 0
    · subst h0
      have i1 := yFs_lv a
      have i2 := yFs_lv b
      have i3 := yLs_lv b
      have pa := yLv_pos a
      show 2 * (yFs a + yFs b + yLs b) + (yLv a + yLv b) ≤ (yLv a + yLv b) * (yLv a + yLv b)
      have e : (yLv a + yLv b) * (yLv a + yLv b) = yLv a * yLv a + yLv b * yLv b + 2 * (yLv a * yLv b) := by
        simp only [Nat.add_mul, Nat.mul_add, Nat.mul_comm (yLv b) (yLv a)]
        omega
      have e2 : yLv b ≤ yLv a * yLv b := Nat.le_mul_of_pos_left _ pa
      rw [e]
      omega
    · have e1 : yLv (.inner k u v a b) = 1 := by unfold yLv; rw [if_neg h0]
      have e2 : yFs (.inner k u v a b) = 0 := by unfold yFs; rw [if_neg h0]
      rw [e1, e2]
      decide
end YFR
