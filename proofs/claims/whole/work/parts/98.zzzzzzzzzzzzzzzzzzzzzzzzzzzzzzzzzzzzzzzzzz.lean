/-! CAPACITIES: INSTANCES along a spine -/
theorem wB_2 (M : Nat) : ∀ n, 2 * wB n M + n ≤ n * n
  | 0 => Nat.le_refl _
  | n + 1 => by
    have I := wB_2 M n
    show 2 * (wB n M + min n M) + (n + 1) ≤ (n + 1) * (n + 1)
    have : min n M ≤ n := Nat.min_le_left _ _
    have e : (n + 1) * (n + 1) = n * n + n + n + 1 := by rw [Nat.add_mul, Nat.mul_add, Nat.mul_one, Nat.one_mul]; omega
    omega
theorem yS_mo : ∀ (y : tY) {c c' : Nat}, c ≤ c' → yS y c ≤ yS y c'
  | .leaf, _, _, _ => Nat.le_refl _
  | .inner k u v l r, c, c', h => by
    show (if k = 0 then yS l c + yS r (c + if gMs l = true then 1 else 0) else if k = 2 then 0 else max 1 c) ≤ if k = 0 then yS l c' + yS r (c' + if gMs l = true then 1 else 0) else if k = 2 then 0 else max 1 c'
    by_cases h0 : k = 0
    · rw [if_pos h0, if_pos h0]
      have i1 := yS_mo l h
      have i2 := yS_mo r (c := c + if gMs l = true then 1 else 0) (c' := c' + if gMs l = true then 1 else 0) (by omega)
      omega
    · rw [if_neg h0, if_neg h0]
      by_cases h2 : k = 2
      · rw [if_pos h2, if_pos h2]
        exact Nat.le_refl _
      · rw [if_neg h2, if_neg h2]
        omega
theorem yS_r {y : tY} {c : Nat} (hc : 1 ≤ c) : 2 * yS y c + yLv y ≤ 2 * (c * yLv y) + yLv y * yLv y := by
  have h1 := yS_1 y c (ySx y) hc (Nat.le_refl _)
  have h2 := wB_2 (ySx y) (yLv y)
  omega
theorem yS_lf {y : tY} {c : Nat} (hk : yK y ≠ 1) (hc : 1 ≤ c) : yS y c ≤ c ∧ yLv y = 1 := by
  cases y with
  | leaf => exact ⟨Nat.zero_le _, rfl⟩
  | inner k u v a b =>
    have h0 : k ≠ 0 := fun z => hk (by rw [z]; rfl)
    refine ⟨?_, if_neg h0⟩
    show (if k = 0 then yS a c + yS b (c + if gMs a = true then 1 else 0) else if k = 2 then 0 else max 1 c) ≤ c
    rw [if_neg h0]
    split
    · omega
    · omega
/-- **a spine of s steps; functions there have at most R leaves, the tail R + 1** -/
theorem bk_y : ∀ (s : Nat) (y : tY) (c R : Nat), 1 ≤ c → (∀ j, j < s → yIs (yRs j y) ∧ (yK (yL (yRs j y)) = 1 → yLv (yL (yRs j y)) ≤ R)) → yLv (yRs s y) ≤ R + 1 → ∃ u v X b, u + v ≤ s ∧ u + X = yLv y ∧ X ≤ v * R + b ∧ b ≤ R + 1 ∧ b ≤ X ∧ 1 ≤ b ∧ 2 * yS y c + u + X ≤ 2 * (c * yLv y) + u * u + 2 * (u * X) + X * R + b
  | 0, y, c, R, hc, _, ht => by
    have ht : yLv y ≤ R + 1 := ht
    refine ⟨0, 0, yLv y, yLv y, Nat.le_refl _, by omega, by omega, ht, Nat.le_refl _, yLv_pos _, ?_⟩
    have h1 := yS_r (y := y) hc
    have h2 : yLv y * yLv y ≤ yLv y * (R + 1) := Nat.mul_le_mul_left _ ht
    rw [Nat.mul_add, Nat.mul_one] at h2
    rw [Nat.zero_mul, Nat.zero_mul]
    omega
  | s + 1, y, c, R, hc, hs, ht => by
    have i0 : yIs y := (hs 0 (by omega)).1
    have e1 : yS y c = yS (yL y) c + yS (yR y) (c + if gMs (yL y) = true then 1 else 0) := by
      obtain ⟨a, b, e⟩ : ∃ a b, y = yA a b := ⟨_, _, i0⟩
      rw [e]
      rfl
    have e2 := (ySx_is i0).2
    have hs' : ∀ j, j < s → yIs (yRs j (yR y)) ∧ (yK (yL (yRs j (yR y))) = 1 → yLv (yL (yRs j (yR y))) ≤ R) := fun j hj => hs (j + 1) (by omega)
    by_cases hk : yK (yL y) = 1
    · have hB : yLv (yL y) ≤ R := (hs 0 (by omega)).2 hk
      obtain ⟨u, v, X, b, q1, q2, q3, q4, q5, q7, q6⟩ := bk_y s (yR y) c R hc hs' ht
      rw [gMs_f hk, if_neg (by decide), Nat.add_zero] at e1
      have h1 := yS_r (y := yL y) hc
      have h2 : yLv (yL y) * yLv (yL y) ≤ yLv (yL y) * R := Nat.mul_le_mul_left _ hB
      refine ⟨u, v + 1, X + yLv (yL y), b, by omega, by omega, by rw [Nat.add_mul, Nat.one_mul]; omega, q4, by omega, q7, ?_⟩
      have e3 : c * yLv y = c * yLv (yL y) + c * yLv (yR y) := by rw [e2, Nat.mul_add]
      have e4 : u * (X + yLv (yL y)) = u * X + u * yLv (yL y) := Nat.mul_add _ _ _
      have e5 : (X + yLv (yL y)) * R = X * R + yLv (yL y) * R := Nat.add_mul _ _ _
      rw [e3, e4, e5, e1]
      omega
    · obtain ⟨l1, l2⟩ := yS_lf hk hc
      by_cases hm : gMs (yL y) = true
      · obtain ⟨u, v, X, b, q1, q2, q3, q4, q5, q7, q6⟩ := bk_y s (yR y) (c + 1) R (by omega) hs' ht
        rw [if_pos hm] at e1
        refine ⟨u + 1, v, X, b, by omega, by omega, q3, q4, q5, q7, ?_⟩
        have e3 : c * yLv y = c + c * yLv (yR y) := by rw [e2, l2, Nat.mul_add, Nat.mul_one]
        have e4 : (u + 1) * (u + 1) = u * u + u + u + 1 := by rw [Nat.add_mul, Nat.mul_add, Nat.mul_one, Nat.one_mul]; omega
        have e5 : (u + 1) * X = u * X + X := by rw [Nat.add_mul, Nat.one_mul]
        have e6 : (c + 1) * yLv (yR y) = c * yLv (yR y) + yLv (yR y) := by rw [Nat.add_mul, Nat.one_mul]
        rw [e6] at q6
        rw [e3, e4, e5, e1]
        omega
      · obtain ⟨u, v, X, b, q1, q2, q3, q4, q5, q7, q6⟩ := bk_y s (yR y) c R hc hs' ht
        rw [if_neg hm, Nat.add_zero] at e1
        refine ⟨u + 1, v, X, b, by omega, by omega, q3, q4, q5, q7, ?_⟩
        have e3 : c * yLv y = c + c * yLv (yR y) := by rw [e2, l2, Nat.mul_add, Nat.mul_one]
        have e4 : (u + 1) * (u + 1) = u * u + u + u + 1 := by rw [Nat.add_mul, Nat.mul_add, Nat.mul_one, Nat.one_mul]; omega
        have e5 : (u + 1) * X = u * X + X := by rw [Nat.add_mul, Nat.one_mul]
        rw [e3, e4, e5, e1]
        omega
