/-! CAPACITIES: how many INSTANCES a TEMPLATE has -/
/-- how many things may stand for the star, added up over the leaves (1 at least) -/
def yS : tY → Nat → Nat
  | .leaf, _ => 0
  | .inner k _ _ l r, c => if k = 0 then yS l c + yS r (c + if gMs l = true then 1 else 0) else if k = 2 then 0 else max 1 c
/-- 0, 1, 2 .. of w things, none above M -/
def wB : Nat → Nat → Nat
  | 0, _ => 0
  | n + 1, M => wB n M + min n M
section YSS
theorem wB_mo {M M' : Nat} (h : M ≤ M') : ∀ n, wB n M ≤ wB n M'
  | 0 => Nat.le_refl _
  | n + 1 => by
    have := wB_mo h n
    show wB n M + min n M ≤ wB n M' + min n M'
    omega
theorem wB_ap (M a : Nat) : ∀ b, wB a M + wB b M ≤ wB (a + b) M
  | 0 => Nat.le_refl _
  | b + 1 => by
    have := wB_ap M a b
    show wB a M + (wB b M + min b M) ≤ wB (a + b) M + min (a + b) M
    omega
theorem wB_ap1 (M a : Nat) (hM : 1 ≤ M) (ha : 1 ≤ a) : ∀ b, 1 ≤ b → wB a M + wB b M + 1 ≤ wB (a + b) M
  | 0, h => absurd h (by omega)
  | 1, _ => by
    show wB a M + (0 + min 0 M) + 1 ≤ wB a M + min a M
    omega
  | b + 2, _ => by
    have := wB_ap1 M a hM ha (b + 1) (by omega)
    show wB a M + (wB (b + 1) M + min (b + 1) M) + 1 ≤ wB (a + (b + 1)) M + min (a + (b + 1)) M
    omega
theorem wB_st (M : Nat) : ∀ n, wB (n + 1) (M + 1) = n + wB n M
  | 0 => by show 0 + min 0 (M + 1) = 0 + 0; omega
  | n + 1 => by
    have := wB_st M n
    show wB (n + 1) (M + 1) + min (n + 1) (M + 1) = n + 1 + (wB n M + min n M)
    omega
theorem wB_le (M : Nat) : ∀ n, wB n M ≤ n * M
  | 0 => by show 0 ≤ 0 * M; omega
  | n + 1 => by
    have := wB_le M n
    rw [Nat.add_mul]
    show wB n M + min n M ≤ n * M + 1 * M
    omega
theorem wB_row (n : Nat) : 2 * wB n n ≤ n * n := by
  have h : ∀ m M, m ≤ M + 1 → 2 * wB m M + m = m * m := fun m M => by
    induction m with
    | zero => intro _; rfl
    | succ m ih =>
      intro hm
      have := ih (by omega)
      show 2 * (wB m M + min m M) + (m + 1) = (m + 1) * (m + 1)
      have e : (m + 1) * (m + 1) = m * m + 2 * m + 1 := by
        simp only [Nat.add_mul, Nat.mul_add, Nat.mul_one, Nat.one_mul]
        omega
      rw [e]
      omega
  have := h n n (by omega)
  omega
theorem gMs_lv {y : tY} (h : gMs y = true) : yLv y = 1 ∧ ∀ c, yS y c = max 1 c ∧ ySx y = 0 := by
  cases y with
  | leaf => exact absurd h (by decide)
  | inner k u v a b =>
    have hk : k ≠ 0 ∧ k ≠ 2 := by
      refine ⟨fun z => ?_, fun z => ?_⟩
      · subst z
        exact absurd (show ((0 + 1 == 2 || 0 + 1 == 4 || 0 + 1 == 5) = true) from h) (by decide)
      · subst z
        exact absurd (show ((2 + 1 == 2 || 2 + 1 == 4 || 2 + 1 == 5) = true) from h) (by decide)
    refine ⟨by unfold yLv; rw [if_neg hk.1], fun c => ⟨by unfold yS; rw [if_neg hk.1, if_neg hk.2], by unfold ySx; rw [if_neg hk.1]⟩⟩
/-- with something measured in scope -/
theorem yS_1 : ∀ (y : tY) (c M : Nat), 1 ≤ c → ySx y ≤ M → yS y c ≤ c * yLv y + wB (yLv y) M
  | .leaf, c, M, _, _ => Nat.zero_le _
  | .inner k u v l r, c, M, hc, hM => by
    by_cases h0 : k = 0
    · subst h0
      have hM : max (ySx l) (ySx r + if gMs l = true then 1 else 0) ≤ M := hM
      show yS l c + yS r (c + if gMs l = true then 1 else 0) ≤ c * (yLv l + yLv r) + wB (yLv l + yLv r) M
      by_cases hg : gMs l = true
      · rw [if_pos hg] at hM ⊢
        obtain ⟨e1, e2⟩ := gMs_lv hg
        obtain ⟨N, rfl⟩ : ∃ N, M = N + 1 := ⟨M - 1, by omega⟩
        have I := yS_1 r (c + 1) N (by omega) (by omega)
        rw [e1, (e2 c).1, show 1 + yLv r = yLv r + 1 by omega, wB_st, Nat.mul_add]
        rw [Nat.add_mul] at I
        omega
      · rw [if_neg hg] at hM ⊢
        have I1 := yS_1 l c M hc (by omega)
        have I2 := yS_1 r c M hc (by omega)
        have I3 := wB_ap M (yLv l) (yLv r)
        rw [Nat.mul_add]
        show yS l c + yS r c ≤ _
        omega
    · have e1 : yLv (.inner k u v l r) = 1 := by unfold yLv; rw [if_neg h0]
      rw [e1]
      unfold yS
      rw [if_neg h0]
      split <;> omega
/-- with nothing -/
theorem yS_0 : ∀ (y : tY) (M : Nat), 1 ≤ M → ySx y ≤ M → yS y 0 ≤ wB (yLv y) M + 1
  | .leaf, M, _, _ => Nat.zero_le _
  | .inner k u v l r, M, h1, hM => by
    by_cases h0 : k = 0
    · subst h0
      have hM : max (ySx l) (ySx r + if gMs l = true then 1 else 0) ≤ M := hM
      show yS l 0 + yS r (0 + if gMs l = true then 1 else 0) ≤ wB (yLv l + yLv r) M + 1
      by_cases hg : gMs l = true
      · rw [if_pos hg] at hM ⊢
        obtain ⟨e1, e2⟩ := gMs_lv hg
        obtain ⟨N, rfl⟩ : ∃ N, M = N + 1 := ⟨M - 1, by omega⟩
        have I := yS_1 r 1 N (by omega) (by omega)
        rw [e1, (e2 0).1, show 1 + yLv r = yLv r + 1 by omega, wB_st]
        show max 1 0 + yS r 1 ≤ _
        omega
      · rw [if_neg hg] at hM ⊢
        have I1 := yS_0 l M h1 (by omega)
        have I2 := yS_0 r M h1 (by omega)
        have I3 := wB_ap1 M (yLv l) h1 (yLv_pos l) (yLv r) (yLv_pos r)
        show yS l 0 + yS r 0 ≤ _
        omega
    · have e1 : yLv (.inner k u v l r) = 1 := by unfold yLv; rw [if_neg h0]
      rw [e1]
      unfold yS
      rw [if_neg h0]
      split <;> omega
end YSS
