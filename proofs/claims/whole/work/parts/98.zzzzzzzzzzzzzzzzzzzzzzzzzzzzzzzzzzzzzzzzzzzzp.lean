/-! what a FIT takes, by its type -/
/-- arrows that take what is measured -/
def yMs : tY → Nat
  | .leaf => 0
  | .inner k _ _ a b => if k = 0 then (if gMs a = true then 1 else 0) + (yMs a + yMs b) else 0
/-- the others -/
def yUn : tY → Nat
  | .leaf => 0
  | .inner k _ _ a b => if k = 0 then (if gMs a = true then 0 else 1) + (yUn a + yUn b) else 0
/-- right steps over measured arrows to measured ones, all together -/
def yDl : tY → Nat
  | .leaf => 0
  | .inner k _ _ a b => if k = 0 then yDl a + (yDl b + if gMs a = true then yMs b else 0) else 0
/-- what a FIT takes at most, step by step -/
def fCo : tY → Nat → Nat → Nat
  | .leaf, _, _ => 0
  | .inner k _ _ a b, p, q => if k = 0 then (if gMs a = true then 84 + 2 * p + 2 * q + fCo a q p + fCo b (p + 1) (q + 1) else 60 + fCo a q p + fCo b p q) else 0
theorem fCp_fCo : ∀ (y : tY) (p q : Nat), fCp y p q ≤ fCo y p q
  | .leaf, _, _ => Nat.le_refl _
  | .inner k u v a b, p, q => by
    have ia := fCp_fCo a q p
    have ib := fCp_fCo b (p + 1) (q + 1)
    have ic := fCp_fCo b p q
    have tp := t15_le p
    have tq := t15_le q
    unfold fCp fCo
    by_cases c : k = 0
    · rw [if_pos c, if_pos c]
      by_cases m : gMs a = true
      · rw [if_pos m, if_pos m]; omega
      · rw [if_neg m, if_neg m]; omega
    · rw [if_neg c, if_neg c]
      exact Nat.le_refl _
/-- where nothing was put in, the first arrow costs less -/
theorem fCp_1 : ∀ (y : tY), yK y = 1 → fCp y 0 0 + 30 ≤ fCo y 0 0
  | .leaf, h => by cases h
  | .inner k u v a b, h => by
    have h : k + 1 = 1 := h
    have c : k = 0 := by omega
    have ia := fCp_fCo a 0 0
    have ib := fCp_fCo b (0 + 1) (0 + 1)
    have ic := fCp_fCo b 0 0
    unfold fCp fCo
    rw [if_pos c, if_pos c, show t15 0 = 0 from rfl]
    by_cases m : gMs a = true
    · rw [if_pos m, if_pos m]; omega
    · rw [if_neg m, if_neg m]; omega
/-- **what a FIT takes** -/
theorem fCo_eq : ∀ (y : tY) (p q : Nat), fCo y p q = 84 * yMs y + 60 * yUn y + 2 * ((p + q) * yMs y) + 4 * yDl y
  | .leaf, p, q => by
    show 0 = 84 * 0 + 60 * 0 + 2 * ((p + q) * 0) + 4 * 0
    omega
  | .inner k u v a b, p, q => by
    have ia := fCo_eq a q p
    have ib := fCo_eq b (p + 1) (q + 1)
    have ic := fCo_eq b p q
    unfold fCo yMs yUn yDl
    by_cases c : k = 0
    · rw [if_pos c, if_pos c, if_pos c, if_pos c]
      have e1 : (p + 1 + (q + 1)) * yMs b = (p + q) * yMs b + 2 * yMs b := by
        rw [show p + 1 + (q + 1) = p + q + 2 by omega, Nat.add_mul]
      have e2 : (q + p) * yMs a = (p + q) * yMs a := by rw [Nat.add_comm q p]
      by_cases m : gMs a = true
      · rw [if_pos m, if_pos m, if_pos m, if_pos m, ia, ib, e1, e2]
        have e3 : (p + q) * (1 + (yMs a + yMs b)) = (p + q) + ((p + q) * yMs a + (p + q) * yMs b) := by rw [Nat.mul_add, Nat.mul_add, Nat.mul_one]
        rw [e3]
        omega
      · rw [if_neg m, if_neg m, if_neg m, if_neg m, ia, ic, e2]
        have e3 : (p + q) * (0 + (yMs a + yMs b)) = (p + q) * yMs a + (p + q) * yMs b := by rw [Nat.zero_add, Nat.mul_add]
        rw [e3]
        omega
    · rw [if_neg c, if_neg c, if_neg c, if_neg c]
      show 0 = 84 * 0 + 60 * 0 + 2 * ((p + q) * 0) + 4 * 0
      omega
/-- arrows are fewer than leaves by one -/
theorem yMs_lv : ∀ y : tY, yMs y + yUn y + 1 ≤ yLv y
  | .leaf => by decide
  | .inner k u v a b => by
    have ia := yMs_lv a
    have ib := yMs_lv b
    unfold yMs yUn yLv
    by_cases c : k = 0
    · rw [if_pos c, if_pos c, if_pos c]
      by_cases m : gMs a = true
      · rw [if_pos m, if_pos m]; omega
      · rw [if_neg m, if_neg m]; omega
    · rw [if_neg c, if_neg c, if_neg c]
      omega
/-- **right steps over measured arrows, at most** -/
theorem yDl_le : ∀ y : tY, 2 * yDl y + yMs y ≤ yMs y * yMs y
  | .leaf => Nat.le_refl _
  | .inner k u v a b => by
    have ia := yDl_le a
    have ib := yDl_le b
    unfold yMs yDl
    by_cases c : k = 0
    · rw [if_pos c, if_pos c]
      generalize yMs a = m at *
      generalize yMs b = n at *
      generalize yDl a = da at *
      generalize yDl b = db at *
      by_cases h : gMs a = true
      · rw [if_pos h, if_pos h]
        have e1 : (1 + (m + n)) * (1 + (m + n)) = 1 + 2 * (m + n) + (m * m + n * n) + (m * n + n * m) := by
          simp only [Nat.add_mul, Nat.mul_add, Nat.one_mul, Nat.mul_one]
          omega
        rw [e1]
        omega
      · rw [if_neg h, if_neg h]
        have e1 : (0 + (m + n)) * (0 + (m + n)) = (m * m + n * n) + (m * n + n * m) := by
          simp only [Nat.add_mul, Nat.mul_add, Nat.zero_add]
          omega
        rw [e1]
        omega
    · rw [if_neg c, if_neg c]
      exact Nat.le_refl _
