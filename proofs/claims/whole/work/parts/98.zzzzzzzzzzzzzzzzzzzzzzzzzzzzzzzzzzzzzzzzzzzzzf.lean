/-! ROOM: what a type takes, by its arrows, its own row and how deep it goes to the right -/
/-- a type's own row -/
def ySp : tY → Nat
  | .leaf => 0
  | .inner k _ _ _ b => if k = 0 then ySp b + 1 else 0
/-- the most right steps on a way, and 1 -/
def yHd : tY → Nat
  | .leaf => 0
  | .inner k _ _ a b => if k = 0 then max (yHd a) (yHd b + 1) else 0
/-- functions that are taken within have rows of at most t -/
def yRt (t : Nat) : tY → Prop
  | .leaf => True
  | .inner k _ _ a b => k = 0 → ySp a ≤ t ∧ yRt t a ∧ yRt t b
theorem fCo_nf (y : tY) (p q : Nat) (h : yK y ≠ 1) : fCo y p q = 0 := by
  cases y with
  | leaf => rfl
  | inner k u v a b =>
    unfold fCo
    exact if_neg (fun c => h (by rw [c]; rfl))
theorem ySp_hd : ∀ y : tY, ySp y ≤ yHd y
  | .leaf => Nat.le_refl _
  | .inner k u v a b => by
    have ib := ySp_hd b
    unfold ySp yHd
    by_cases c : k = 0
    · rw [if_pos c, if_pos c]; omega
    · rw [if_neg c, if_neg c]; exact Nat.le_refl _
/-- what is no function has no arrows -/
theorem yMs_n {y : tY} (h : yK y ≠ 1) : yMs y = 0 ∧ yUn y = 0 := by
  cases y with
  | leaf => exact ⟨rfl, rfl⟩
  | inner k u v a b =>
    by_cases c : k = 0
    · subst c; exact absurd rfl h
    · unfold yMs yUn
      rw [if_neg c, if_neg c]
      exact ⟨rfl, rfl⟩
theorem ySp_n {y : tY} (h : yK y = 1) : 1 ≤ ySp y := by
  cases y with
  | leaf => exact absurd h (by decide)
  | inner k u v a b =>
    have h : k + 1 = 1 := h
    unfold ySp
    rw [if_pos (by omega)]
    omega
