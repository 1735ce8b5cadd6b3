/-! ROOM: what a type costs, by how deep it goes to the right (over measured parameters) -/
/-- what a FIT of it takes where nothing was put in, at most -/
def yCo (y : tY) : Nat := 84 * yMs y + 60 * yUn y + 4 * yDl y
/-- an eighth of M an arrow is enough for types h deep: for rows, and for rows with the arrow that takes them -/
def muH (M h : Nat) : Prop := (∀ l, l ≤ h → 8 * (82 * l + 2 * (l * l)) ≤ M * l) ∧ ∀ p l, p + l ≤ h → 8 * (60 + 82 * l + 2 * (l * l) + 4 * (p * l)) ≤ M * (l + 1)
theorem fCo_C (y : tY) (p q : Nat) : fCo y p q = yCo y + 2 * ((p + q) * yMs y) := by
  rw [fCo_eq]
  unfold yCo
  omega
theorem yCo_n {y : tY} (h : yK y ≠ 1) : yCo y = 0 ∧ yAr y = 0 ∧ yMs y = 0 := by
  cases y with
  | leaf => exact ⟨rfl, rfl, rfl⟩
  | inner k u v a b =>
    by_cases c : k = 0
    · subst c; exact absurd rfl h
    · have h1 : yMs (.inner k u v a b) = 0 := if_neg c
      have h2 : yUn (.inner k u v a b) = 0 := if_neg c
      have h3 : yDl (.inner k u v a b) = 0 := if_neg c
      unfold yCo yAr
      rw [h1, h2, h3]
      exact ⟨rfl, rfl, rfl⟩
theorem gMs_nk {y : tY} (h : gMs y = true) : yK y ≠ 1 := fun z => by
  unfold gMs at h
  rw [z] at h
  exact absurd h (by decide)
/-- an arrow that takes what is measured -/
theorem yCo_1 {u v} {a b : tY} (m : gMs a = true) : yCo (.inner 0 u v a b) = 84 + yCo b + 4 * yMs b ∧ yAr (.inner 0 u v a b) = 1 + yAr b ∧ yMs (.inner 0 u v a b) = 1 + yMs b := by
  obtain ⟨a1, a2, a3⟩ := yCo_n (gMs_nk m)
  have h1 : yMs (.inner 0 u v a b) = (if gMs a = true then 1 else 0) + (yMs a + yMs b) := rfl
  have h2 : yUn (.inner 0 u v a b) = (if gMs a = true then 0 else 1) + (yUn a + yUn b) := rfl
  have h3 : yDl (.inner 0 u v a b) = yDl a + (yDl b + if gMs a = true then yMs b else 0) := rfl
  rw [if_pos m] at h1 h2 h3
  unfold yCo at a1
  unfold yAr at a2
  unfold yCo yAr
  rw [h1, h2, h3]
  generalize yMs a = A1 at *
  generalize yUn a = A2 at *
  generalize yDl a = A3 at *
  omega
/-- another arrow -/
theorem yCo_0 {u v} {a b : tY} (m : ¬ gMs a = true) : yCo (.inner 0 u v a b) = 60 + yCo a + yCo b ∧ yAr (.inner 0 u v a b) = 1 + yAr a + yAr b ∧ yMs (.inner 0 u v a b) = yMs a + yMs b := by
  have h1 : yMs (.inner 0 u v a b) = (if gMs a = true then 1 else 0) + (yMs a + yMs b) := rfl
  have h2 : yUn (.inner 0 u v a b) = (if gMs a = true then 0 else 1) + (yUn a + yUn b) := rfl
  have h3 : yDl (.inner 0 u v a b) = yDl a + (yDl b + if gMs a = true then yMs b else 0) := rfl
  rw [if_neg m] at h1 h2 h3
  unfold yCo yAr
  rw [h1, h2, h3]
  omega
section MUH
variable {M h : Nat}
/-- a row that is taken, l measured arrows of it passed -/
theorem muH_b (H : muH M h) : ∀ (y : tY) (p l : Nat), p + l + yHd y ≤ h → 8 * (yCo y + 4 * ((p + l) * yMs y)) + 8 * (60 + 82 * l + 2 * (l * l) + 4 * (p * l)) ≤ M * (yAr y + l + 1)
  | .leaf, p, l, hh => by
    have := H.2 p l (by have : yHd .leaf = 0 := rfl; omega)
    show 8 * (0 + 4 * ((p + l) * 0)) + 8 * (60 + 82 * l + 2 * (l * l) + 4 * (p * l)) ≤ M * (0 + l + 1)
    simp only [Nat.mul_zero, Nat.zero_add]
    exact this
  | .inner k u v a b, p, l, hh => by
    by_cases c : k = 0
    · subst c
      have hd : yHd (.inner 0 u v a b) = max (yHd a) (yHd b + 1) := rfl
      have ha : yHd a ≤ yHd (.inner 0 u v a b) := by rw [hd]; exact Nat.le_max_left _ _
      have hb : yHd b + 1 ≤ yHd (.inner 0 u v a b) := by rw [hd]; exact Nat.le_max_right _ _
      by_cases m : gMs a = true
      · obtain ⟨e1, e2, e3⟩ := yCo_1 (u := u) (v := v) (b := b) m
        have ib := muH_b H b p (l + 1) (by omega)
        rw [e1, e2, e3]
        have x1 : (p + l) * (1 + yMs b) = (p + l) + (p + l) * yMs b := by rw [Nat.mul_add, Nat.mul_one]
        have x2 : (p + (l + 1)) * yMs b = (p + l) * yMs b + yMs b := by rw [← Nat.add_assoc, Nat.add_mul, Nat.one_mul]
        have x3 : (l + 1) * (l + 1) = l * l + 2 * l + 1 := by simp only [Nat.add_mul, Nat.mul_add, Nat.one_mul, Nat.mul_one]; omega
        have x4 : p * (l + 1) = p * l + p := by rw [Nat.mul_add, Nat.mul_one]
        have x5 : M * (1 + yAr b + l + 1) = M * (yAr b + (l + 1) + 1) := by congr 1; omega
        rw [x1, x5]
        rw [x2, x3, x4] at ib
        omega
      · obtain ⟨e1, e2, e3⟩ := yCo_0 (u := u) (v := v) (b := b) m
        have ia := muH_b H a (p + l) 0 (by omega)
        have ib := muH_b H b p l (by omega)
        rw [e1, e2, e3]
        have x1 : (p + l) * (yMs a + yMs b) = (p + l) * yMs a + (p + l) * yMs b := Nat.mul_add _ _ _
        have x5 : M * (1 + yAr a + yAr b + l + 1) = M * (yAr a + 1) + M * (yAr b + l + 1) := by rw [← Nat.mul_add]; congr 1; omega
        rw [x1, x5]
        simp only [Nat.add_zero, Nat.mul_zero, Nat.zero_mul] at ia
        omega
    · obtain ⟨e1, e2, e3⟩ := yCo_n (y := .inner k u v a b) (fun z => c (by have z : k + 1 = 1 := z; omega))
      rw [e1, e2, e3]
      simp only [Nat.mul_zero, Nat.zero_add]
      exact H.2 p l (by omega)
/-- a type's own row, l measured arrows of it passed -/
theorem muH_a (H : muH M h) : ∀ (y : tY) (l : Nat), l + yHd y ≤ h → 8 * (yCo y + 4 * (l * yMs y)) + 8 * (82 * l + 2 * (l * l)) ≤ M * (yAr y + l)
  | .leaf, l, hh => by
    have := H.1 l (by have : yHd .leaf = 0 := rfl; omega)
    show 8 * (0 + 4 * (l * 0)) + 8 * (82 * l + 2 * (l * l)) ≤ M * (0 + l)
    simp only [Nat.mul_zero, Nat.zero_add]
    exact this
  | .inner k u v a b, l, hh => by
    by_cases c : k = 0
    · subst c
      have hd : yHd (.inner 0 u v a b) = max (yHd a) (yHd b + 1) := rfl
      have ha : yHd a ≤ yHd (.inner 0 u v a b) := by rw [hd]; exact Nat.le_max_left _ _
      have hb : yHd b + 1 ≤ yHd (.inner 0 u v a b) := by rw [hd]; exact Nat.le_max_right _ _
      by_cases m : gMs a = true
      · obtain ⟨e1, e2, e3⟩ := yCo_1 (u := u) (v := v) (b := b) m
        have ib := muH_a H b (l + 1) (by omega)
        rw [e1, e2, e3]
        have x1 : l * (1 + yMs b) = l + l * yMs b := by rw [Nat.mul_add, Nat.mul_one]
        have x2 : (l + 1) * yMs b = l * yMs b + yMs b := by rw [Nat.add_mul, Nat.one_mul]
        have x3 : (l + 1) * (l + 1) = l * l + 2 * l + 1 := by simp only [Nat.add_mul, Nat.mul_add, Nat.one_mul, Nat.mul_one]; omega
        have x5 : M * (1 + yAr b + l) = M * (yAr b + (l + 1)) := by congr 1; omega
        rw [x1, x5]
        rw [x2, x3] at ib
        omega
      · obtain ⟨e1, e2, e3⟩ := yCo_0 (u := u) (v := v) (b := b) m
        have ia := muH_b H a l 0 (by omega)
        have ib := muH_a H b l (by omega)
        rw [e1, e2, e3]
        have x1 : l * (yMs a + yMs b) = l * yMs a + l * yMs b := Nat.mul_add _ _ _
        have x5 : M * (1 + yAr a + yAr b + l) = M * (yAr a + 1) + M * (yAr b + l) := by rw [← Nat.mul_add]; congr 1; omega
        rw [x1, x5]
        simp only [Nat.add_zero, Nat.mul_zero, Nat.zero_mul] at ia
        omega
    · obtain ⟨e1, e2, e3⟩ := yCo_n (y := .inner k u v a b) (fun z => c (by have z : k + 1 = 1 := z; omega))
      rw [e1, e2, e3]
      simp only [Nat.mul_zero, Nat.zero_add]
      exact H.1 l (by omega)
/-- **a type h deep costs an eighth of M an arrow** -/
theorem muH_y (H : muH M h) {y : tY} (hy : yHd y ≤ h) : 8 * yCo y ≤ M * yAr y := by
  have := muH_a H y 0 (by omega)
  simp only [Nat.zero_mul, Nat.mul_zero, Nat.add_zero] at this
  exact this
end MUH
theorem yMs_A (y : tY) : yMs y ≤ yAr y := Nat.le_add_right _ _
/-- arrows in what is taken at the first s places -/
def yEe : Nat → tY → Nat
  | 0, _ => 0
  | s + 1, y => yAr (yL y) + yEe s (yR y)
/-- measured ones among the first s places -/
def yUe : Nat → tY → Nat
  | 0, _ => 0
  | s + 1, y => (if gMs (yL y) = true then 1 else 0) + yUe s (yR y)
theorem yUe_s : ∀ (s : Nat) (y : tY), yUe s y ≤ s
  | 0, _ => Nat.le_refl _
  | s + 1, y => by
    have := yUe_s s (yR y)
    show (if gMs (yL y) = true then 1 else 0) + yUe s (yR y) ≤ s + 1
    split <;> omega
/-- **s places of a row by themselves, what they take and what comes behind at most h deep** -/
theorem muH_s {M h : Nat} (H : muH M h) : ∀ (s : Nat) (y : tY) (d : Nat), (∀ i, i < s → yK (yRs i y) = 1 ∧ yHd (yL (yRs i y)) ≤ h) → yHd (yRs s y) ≤ h → yAr y = s + yEe s y + yAr (yRs s y) ∧ 8 * (yCo y + 4 * (d * yMs y)) ≤ 8 * (82 * yUe s y + 2 * (yUe s y * yUe s y) + 4 * (d * yUe s y)) + 480 * (s - yUe s y) + (M + 32 * (d + yUe s y)) * (yEe s y + yAr (yRs s y))
  | 0, y, d, _, hy => by
    refine ⟨by show yAr y = 0 + 0 + yAr y; omega, ?_⟩
    have h1 := muH_y H hy
    have h2 : d * yMs y ≤ d * yAr y := Nat.mul_le_mul_left d (yMs_A y)
    show 8 * (yCo y + 4 * (d * yMs y)) ≤ 8 * (82 * 0 + 2 * (0 * 0) + 4 * (d * 0)) + 480 * (0 - 0) + (M + 32 * (d + 0)) * (0 + yAr y)
    have x1 : (M + 32 * (d + 0)) * (0 + yAr y) = M * yAr y + 32 * (d * yAr y) := by rw [Nat.zero_add, Nat.add_zero, Nat.add_mul, Nat.mul_assoc]
    have h3 : yRs 0 y = y := rfl
    rw [h3] at h1
    rw [x1]
    omega
  | s + 1, y, d, hi, hy => by
    obtain ⟨k0, l0⟩ := hi 0 (Nat.zero_lt_succ s)
    have k0 : yK y = 1 := k0
    have l0 : yHd (yL y) ≤ h := l0
    have I := fun d => muH_s H s (yR y) d (fun i hs => hi (i + 1) (by omega)) hy
    have us := yUe_s s (yR y)
    cases y with
    | leaf => cases k0
    | inner k u v a b =>
      have k0 : k + 1 = 1 := k0
      have c : k = 0 := by omega
      subst c
      have er : yR (.inner 0 u v a b) = b := rfl
      have el : yL (.inner 0 u v a b) = a := rfl
      rw [er] at I us
      rw [el] at l0
      have eE : yEe (s + 1) (.inner 0 u v a b) = yAr a + yEe s b := rfl
      have eU : yUe (s + 1) (.inner 0 u v a b) = (if gMs a = true then 1 else 0) + yUe s b := rfl
      have eZ : yRs (s + 1) (.inner 0 u v a b) = yRs s b := rfl
      rw [eE, eU, eZ]
      by_cases m : gMs a = true
      · obtain ⟨e1, e2, e3⟩ := yCo_1 (u := u) (v := v) (b := b) m
        obtain ⟨-, a2, -⟩ := yCo_n (gMs_nk m)
        obtain ⟨i1, i2⟩ := I (d + 1)
        rw [e1, e2, e3, a2, if_pos m, Nat.zero_add]
        refine ⟨by omega, ?_⟩
        generalize yUe s b = U at *
        generalize yEe s b + yAr (yRs s b) = E at *
        have x1 : d * (1 + yMs b) = d + d * yMs b := by rw [Nat.mul_add, Nat.mul_one]
        have x2 : (d + 1) * yMs b = d * yMs b + yMs b := by rw [Nat.add_mul, Nat.one_mul]
        have x3 : (1 + U) * (1 + U) = U * U + 2 * U + 1 := by simp only [Nat.add_mul, Nat.mul_add, Nat.one_mul, Nat.mul_one]; omega
        have x4 : d * (1 + U) = d + d * U := by rw [Nat.mul_add, Nat.mul_one]
        have x6 : (d + 1) * U = d * U + U := by rw [Nat.add_mul, Nat.one_mul]
        have x7 : d + 1 + U = d + (1 + U) := by omega
        rw [x1, x3, x4]
        rw [x2, x6, x7] at i2
        omega
      · obtain ⟨e1, e2, e3⟩ := yCo_0 (u := u) (v := v) (b := b) m
        obtain ⟨i1, i2⟩ := I d
        have h1 := muH_y H l0
        have h2 : d * yMs a ≤ (d + yUe s b) * yAr a := Nat.mul_le_mul (Nat.le_add_right _ _) (yMs_A a)
        rw [e1, e2, e3, if_neg m, Nat.zero_add]
        refine ⟨by omega, ?_⟩
        generalize yUe s b = U at *
        have x1 : d * (yMs a + yMs b) = d * yMs a + d * yMs b := Nat.mul_add _ _ _
        have x5 : (M + 32 * (d + U)) * (yAr a + yEe s b + yAr (yRs s b)) = M * yAr a + 32 * ((d + U) * yAr a) + (M + 32 * (d + U)) * (yEe s b + yAr (yRs s b)) := by
          rw [Nat.add_assoc (yAr a), Nat.mul_add, Nat.add_mul M, Nat.mul_assoc]
        rw [x1, x5]
        omega
