/-! ROOM: what a type takes, by its arrows, its own row and how deep it goes to the right -/
/-- a type's own row -/
def ySp : tY → Nat
  | .leaf => 0
  | .inner k _ _ _ b => if k = 0 then ySp b + 1 else 0
/-- the most right steps on a way, and 1 -/
def yHd : tY → Nat
  | .leaf => 0
  | .inner k _ _ a b => if k = 0 then max (yHd a) (yHd b + 1) else 0
/-- functions that are taken within have rows of at most t -/
def yRt (t : Nat) : tY → Prop
  | .leaf => True
  | .inner k _ _ a b => k = 0 → ySp a ≤ t ∧ yRt t a ∧ yRt t b
/-- l arrows of a row that begins p steps to the right -/
def muQ (p : Nat) : Nat → Nat
  | 0 => 0
  | l + 1 => muQ p l + (84 + 4 * (p + l))
/-- M / D an arrow is enough for rows of at most t, H deep -/
def muK (D M H t : Nat) : Prop := ∀ p l, 1 ≤ l → l ≤ t → p + l ≤ H → D * muQ p l ≤ M * l + D * (24 + 4 * p)
theorem fCo_nf (y : tY) (p q : Nat) (h : yK y ≠ 1) : fCo y p q = 0 := by
  cases y with
  | leaf => rfl
  | inner k u v a b =>
    unfold fCo
    exact if_neg (fun c => h (by rw [c]; rfl))
theorem ySp_hd : ∀ y : tY, ySp y ≤ yHd y
  | .leaf => Nat.le_refl _
  | .inner k u v a b => by
    have ib := ySp_hd b
    unfold ySp yHd
    by_cases c : k = 0
    · rw [if_pos c, if_pos c]; omega
    · rw [if_neg c, if_neg c]; exact Nat.le_refl _
/-- what is no function has no arrows -/
theorem yMs_n {y : tY} (h : yK y ≠ 1) : yMs y = 0 ∧ yUn y = 0 := by
  cases y with
  | leaf => exact ⟨rfl, rfl⟩
  | inner k u v a b =>
    by_cases c : k = 0
    · subst c; exact absurd rfl h
    · unfold yMs yUn
      rw [if_neg c, if_neg c]
      exact ⟨rfl, rfl⟩
theorem ySp_n {y : tY} (h : yK y = 1) : 1 ≤ ySp y := by
  cases y with
  | leaf => exact absurd h (by decide)
  | inner k u v a b =>
    have h : k + 1 = 1 := h
    unfold ySp
    rw [if_pos (by omega)]
    omega
section MUB
variable {D M H t : Nat}
/-- **a function that is taken** -/
theorem mu_b (hM : muK D M H t) : ∀ (y : tY) (p l : Nat), l + ySp y ≤ t → 1 ≤ l + ySp y → p + l + yHd y ≤ H → yRt t y → D * (fCo y (p + l) (p + l) + muQ p l) ≤ M * (yMs y + yUn y + l) + D * (24 + 4 * p)
  | .leaf, p, l, h1, h2, h3, _ => by
    have h1 : l + 0 ≤ t := h1
    have h2 : 1 ≤ l + 0 := h2
    have h3 : p + l + 0 ≤ H := h3
    have := hM p l (by omega) (by omega) (by omega)
    show D * (0 + muQ p l) ≤ M * (0 + 0 + l) + D * (24 + 4 * p)
    rw [Nat.zero_add, Nat.zero_add]
    exact this
  | .inner k u v a b, p, l, h1, h2, h3, h4 => by
    have ia := mu_b hM a
    have ib := mu_b hM b
    unfold ySp at h1 h2
    unfold yHd at h3
    unfold fCo yMs yUn
    by_cases c : k = 0
    · rw [if_pos c] at h1 h2 h3
      rw [if_pos c, if_pos c, if_pos c]
      obtain ⟨r1, r2, r3⟩ := h4 c
      have B := ib p (l + 1) (by omega) (by omega) (by omega) r3
      have e1 : muQ p (l + 1) = muQ p l + (84 + 4 * (p + l)) := rfl
      rw [e1, show p + (l + 1) = p + l + 1 by omega] at B
      generalize muQ p l = Q at *
      generalize fCo b (p + l + 1) (p + l + 1) = Bb at *
      by_cases kf : yK a = 1
      · have gm : ¬ gMs a = true := fun z => gMs_1 z kf
        have sp := ySp_n kf
        have A := ia (p + l) 0 (by omega) (by omega) (by omega) r2
        rw [Nat.add_zero, show muQ (p + l) 0 = 0 from rfl, Nat.add_zero, Nat.add_zero] at A
        rw [if_neg gm, if_neg gm, if_neg gm]
        generalize fCo a (p + l) (p + l) = Aa at *
        generalize 4 * (p + l) = X at *
        generalize 4 * p = Z at *
        generalize yMs a = ma at *
        generalize yUn a = ua at *
        generalize yMs b = mb at *
        generalize yUn b = ub at *
        have g1 : D * (60 + Aa + Bb + Q) = D * 60 + D * Aa + D * Bb + D * Q := by rw [Nat.mul_add, Nat.mul_add, Nat.mul_add]
        have g2 : D * (Bb + (Q + (84 + X))) = D * Bb + D * Q + D * 84 + D * X := by rw [Nat.mul_add, Nat.mul_add, Nat.mul_add]; omega
        have g3 : D * (24 + X) = D * 24 + D * X := Nat.mul_add ..
        have g4 : M * (0 + (ma + mb) + (1 + (ua + ub)) + l) = M * (ma + ua) + M * (mb + ub + (l + 1)) := by rw [← Nat.mul_add]; congr 1; omega
        rw [g1, g4]
        rw [g2] at B
        rw [g3] at A
        omega
      · obtain ⟨m0, u0⟩ := yMs_n kf
        rw [fCo_nf a _ _ kf, m0, u0]
        have B2 : D * ((if gMs a = true then 84 + 2 * (p + l) + 2 * (p + l) else 60) + 0 + Bb + Q) ≤ D * (Bb + (Q + (84 + 4 * (p + l)))) := Nat.mul_le_mul_left _ (by split <;> omega)
        have e2 : (if gMs a = true then 1 else 0) + (0 + yMs b) + ((if gMs a = true then 0 else 1) + (0 + yUn b)) + l = yMs b + yUn b + (l + 1) := by split <;> omega
        rw [e2]
        exact Nat.le_trans B2 B
    · rw [if_neg c] at h1 h2 h3
      rw [if_neg c, if_neg c, if_neg c]
      have := hM p l (by omega) (by omega) (by omega)
      rw [Nat.zero_add, Nat.zero_add]
      exact this
/-- **a type, its own row by itself** -/
theorem mu_r (hM : muK D M H t) : ∀ (y : tY) (l : Nat), l + yHd y ≤ H → yRt t y → D * fCo y l l + M * ySp y ≤ D * muQ l (ySp y) + M * (yMs y + yUn y)
  | .leaf, l, _, _ => by
    show D * 0 + M * 0 ≤ D * 0 + M * (0 + 0)
    omega
  | .inner k u v a b, l, h3, h4 => by
    have ib := mu_r hM b
    unfold yHd at h3
    unfold fCo yMs yUn ySp
    by_cases c : k = 0
    · rw [if_pos c] at h3
      rw [if_pos c, if_pos c, if_pos c, if_pos c]
      obtain ⟨r1, r2, r3⟩ := h4 c
      have B := ib (l + 1) (by omega) r3
      have sh : ∀ n, muQ l (n + 1) = 84 + 4 * l + muQ (l + 1) n := fun n => by
        induction n with
        | zero =>
          show 0 + (84 + 4 * (l + 0)) = 84 + 4 * l + 0
          omega
        | succ n ih =>
          show muQ l (n + 1) + (84 + 4 * (l + (n + 1))) = 84 + 4 * l + (muQ (l + 1) n + (84 + 4 * (l + 1 + n)))
          omega
      rw [sh]
      generalize muQ (l + 1) (ySp b) = Q at *
      generalize fCo b (l + 1) (l + 1) = Bb at *
      generalize ySp b = sb at *
      have g5 : M * (sb + 1) = M * sb + M := Nat.mul_succ ..
      have g6 : D * (84 + 4 * l + Q) = D * (84 + 4 * l) + D * Q := Nat.mul_add ..
      rw [g5, g6]
      by_cases kf : yK a = 1
      · have gm : ¬ gMs a = true := fun z => gMs_1 z kf
        have sp := ySp_n kf
        have A := mu_b hM a l 0 (by omega) (by omega) (by omega) r2
        rw [Nat.add_zero, show muQ l 0 = 0 from rfl, Nat.add_zero, Nat.add_zero] at A
        rw [if_neg gm, if_neg gm, if_neg gm]
        generalize fCo a l l = Aa at *
        generalize 4 * l = Z at *
        generalize yMs a = ma at *
        generalize yUn a = ua at *
        generalize yMs b = mb at *
        generalize yUn b = ub at *
        have g1 : D * (60 + Aa + Bb) = D * 60 + D * Aa + D * Bb := by rw [Nat.mul_add, Nat.mul_add]
        have g3 : D * (24 + Z) = D * 24 + D * Z := Nat.mul_add ..
        have g7 : D * (84 + Z) = D * 84 + D * Z := Nat.mul_add ..
        have g4 : M * (0 + (ma + mb) + (1 + (ua + ub))) = M * (ma + ua) + M * (mb + ub) + M := by rw [← Nat.mul_add, ← Nat.mul_succ]; congr 1; omega
        rw [g1, g4, g7]
        rw [g3] at A
        omega
      · obtain ⟨m0, u0⟩ := yMs_n kf
        rw [fCo_nf a _ _ kf, m0, u0]
        have B2 : D * ((if gMs a = true then 84 + 2 * l + 2 * l else 60) + 0 + Bb) ≤ D * (84 + 4 * l + Bb) := Nat.mul_le_mul_left _ (by split <;> omega)
        have e2 : M * ((if gMs a = true then 1 else 0) + (0 + yMs b) + ((if gMs a = true then 0 else 1) + (0 + yUn b))) = M * (yMs b + yUn b) + M := by
          rw [← Nat.mul_succ]
          congr 1
          split <;> omega
        have g8 : D * (84 + 4 * l + Bb) = D * (84 + 4 * l) + D * Bb := Nat.mul_add ..
        rw [e2]
        rw [g8] at B2
        omega
    · rw [if_neg c, if_neg c, if_neg c, if_neg c]
      show D * 0 + M * 0 ≤ D * 0 + M * (0 + 0)
      omega
end MUB
