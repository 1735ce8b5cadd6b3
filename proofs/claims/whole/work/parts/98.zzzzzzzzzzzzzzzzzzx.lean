/-! how many nodes and atoms a condition has -/
/-- nodes of a C -/
def dNn : tT → Nat
  | .leaf => 0
  | .inner g _ _ a b => if g = 30 then dNn a + 1 + dNn b else if g = 20 ∨ g = 21 then dNn a + dNn b else if g = 22 then dNn a + 1 else 1
section DNN
variable {T cnt : Nat} {f pp ee : Nat → Int32} {env : List Nat} {sl ti : Nat → Nat}
theorem dW_n : ∀ (t : tT) (l : Bool), cWf cnt t l → (l = false → ∀ an acc, (dW T f pp ee env sl ti t an acc).1 = dNn t ∧ (dW T f pp ee env sl ti t an acc).2.1 = tAt t) ∧ (l = true → ∀ an acc, (dW T f pp ee env sl ti t an acc).1 = acc.1 + dNn t ∧ (dW T f pp ee env sl ti t an acc).2.1 = acc.2.1 + tAt t)
  | .leaf, l, h => ⟨fun e => (by have h : l = true := h; rw [h] at e; cases e), fun _ an acc => ⟨rfl, rfl⟩⟩
  | .inner g d z a b, l, h => by
    rcases h with ⟨hl, hg, ha, hb⟩ | ⟨hl, h⟩
    · subst hl hg
      refine ⟨fun e => (by cases e), fun _ an acc => ?_⟩
      have A := (dW_n a false ha).1 rfl
      have Bq := (dW_n b true hb).2 rfl
      have e1 : dW T f pp ee env sl ti (.inner 30 d z a b) an acc = dW T f pp ee env sl ti b an (dBn an acc (dW T f pp ee env sl ti a false dZ)) := rfl
      obtain ⟨b1, b2⟩ := Bq an (dBn an acc (dW T f pp ee env sl ti a false dZ))
      obtain ⟨a1, a2⟩ := A false dZ
      rw [e1, b1, b2]
      constructor
      · show acc.1 + (dW T f pp ee env sl ti a false dZ).1 + 1 + dNn b = acc.1 + (dNn a + 1 + dNn b)
        rw [a1]; omega
      · show acc.2.1 + (dW T f pp ee env sl ti a false dZ).2.1 + tAt b = acc.2.1 + (tAt a + tAt b)
        rw [a2]; omega
    · subst hl
      refine ⟨fun _ an acc => ?_, fun e => (by cases e)⟩
      rcases h with ⟨hg, ha, hb⟩ | ⟨hg, ha, hb⟩ | ⟨hg, _⟩ | ⟨hg, _⟩ | ⟨hg, _⟩
      · have A := (dW_n a false ha).1 rfl false dZ
        have Bq := (dW_n b true hb).2 rfl
        rcases hg with hg | hg <;> subst hg
        · obtain ⟨b1, b2⟩ := Bq false (dW T f pp ee env sl ti a false dZ)
          rw [A.1] at b1
          rw [A.2] at b2
          exact ⟨b1, b2⟩
        · obtain ⟨b1, b2⟩ := Bq true (dW T f pp ee env sl ti a false dZ)
          rw [A.1] at b1
          rw [A.2] at b2
          exact ⟨b1, b2⟩
      · have A := (dW_n a false ha).1 rfl false dZ
        subst hg hb
        exact ⟨by show (dW T f pp ee env sl ti a false dZ).1 + 1 = dNn a + 1; rw [A.1], by show (dW T f pp ee env sl ti a false dZ).2.1 = tAt a + 0; rw [A.2]; rfl⟩
      · subst hg; exact ⟨rfl, rfl⟩
      · subst hg; exact ⟨rfl, rfl⟩
      · subst hg; exact ⟨rfl, rfl⟩
/-- how deep not stands -/
def dNh : tT → Nat
  | .leaf => 0
  | .inner g _ _ a b => if g = 22 then dNh a + 1 else max (dNh a) (dNh b)
theorem dNn_le : ∀ (t : tT) (l : Bool) (H : Nat), cWf cnt t l → dNh t ≤ H → (l = false → dNn t + 1 ≤ tAt t * (H + 2) ∧ 1 ≤ tAt t) ∧ (l = true → dNn t ≤ tAt t * (H + 2))
  | .leaf, l, H, h, _ => ⟨fun e => (by have h : l = true := h; rw [h] at e; cases e), fun _ => Nat.zero_le _⟩
  | .inner g d z a b, l, H, h, hh => by
    rcases h with ⟨hl, hg, ha, hb⟩ | ⟨hl, h⟩
    · subst hl hg
      refine ⟨fun e => (by cases e), fun _ => ?_⟩
      have hh : max (dNh a) (dNh b) ≤ H := hh
      have A := (dNn_le a false H ha (by omega)).1 rfl
      have Bq := (dNn_le b true H hb (by omega)).2 rfl
      show dNn a + 1 + dNn b ≤ (tAt a + tAt b) * (H + 2)
      rw [Nat.add_mul]
      omega
    · subst hl
      refine ⟨fun _ => ?_, fun e => (by cases e)⟩
      rcases h with ⟨hg, ha, hb⟩ | ⟨hg, ha, hb⟩ | ⟨hg, _⟩ | ⟨hg, _⟩ | ⟨hg, _⟩
      · have key : max (dNh a) (dNh b) ≤ H → dNn a + dNn b + 1 ≤ (tAt a + tAt b) * (H + 2) ∧ 1 ≤ tAt a + tAt b := fun hh => by
          have A := (dNn_le a false H ha (by omega)).1 rfl
          have Bq := (dNn_le b true H hb (by omega)).2 rfl
          rw [Nat.add_mul]
          omega
        rcases hg with hg | hg <;> subst hg
        · exact key hh
        · exact key hh
      · subst hg hb
        have hh : dNh a + 1 ≤ H := hh
        obtain ⟨H', rfl⟩ : ∃ H', H = H' + 1 := ⟨H - 1, by omega⟩
        have A := (dNn_le a false H' ha (by omega)).1 rfl
        have k : dNn a + 1 + 1 ≤ tAt a * (H' + 1 + 2) := by
          rw [show H' + 1 + 2 = (H' + 2) + 1 by omega, Nat.mul_add]
          omega
        exact ⟨k, A.2⟩
      · subst hg
        exact ⟨by show 1 + 1 ≤ 1 * (H + 2); omega, Nat.le_refl _⟩
      · subst hg
        exact ⟨by show 1 + 1 ≤ 1 * (H + 2); omega, Nat.le_refl _⟩
      · subst hg
        exact ⟨by show 1 + 1 ≤ 1 * (H + 2); omega, Nat.le_refl _⟩
end DNN
