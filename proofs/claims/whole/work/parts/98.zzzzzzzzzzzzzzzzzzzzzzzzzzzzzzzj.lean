/-! run(), the class: comparisons -/
section HSD
variable {κ : oKv} {T n : Nat} {kk : Nat → Int32} {call : oCl}
theorem aRl_k {j : Nat} (h : aRl kk j < 6) : (kk j = 61 ∧ aRl kk j = 0) ∨ (kk j = 60 ∧ aRl kk j = 1) ∨ (kk j = 300 ∧ aRl kk j = 2) ∨ (kk j = 62 ∧ aRl kk j = 3) ∨ (kk j = 301 ∧ aRl kk j = 4) ∨ (kk j = 35 ∧ aRl kk j = 5) := by
  unfold aRl at h ⊢
  by_cases c1 : aIs kk 61 j = true
  · simp only [if_pos c1]; exact Or.inl ⟨aIs_t c1, trivial⟩
  · simp only [if_neg c1] at h ⊢
    by_cases c2 : aIs kk 60 j = true
    · simp only [if_pos c2]; exact Or.inr (Or.inl ⟨aIs_t c2, trivial⟩)
    · simp only [if_neg c2] at h ⊢
      by_cases c3 : aIs kk 300 j = true
      · simp only [if_pos c3]; exact Or.inr (Or.inr (Or.inl ⟨aIs_t c3, trivial⟩))
      · simp only [if_neg c3] at h ⊢
        by_cases c4 : aIs kk 62 j = true
        · simp only [if_pos c4]; exact Or.inr (Or.inr (Or.inr (Or.inl ⟨aIs_t c4, trivial⟩)))
        · simp only [if_neg c4] at h ⊢
          by_cases c5 : aIs kk 301 j = true
          · simp only [if_pos c5]; exact Or.inr (Or.inr (Or.inr (Or.inr (Or.inl ⟨aIs_t c5, trivial⟩))))
          · simp only [if_neg c5] at h ⊢
            by_cases c6 : aIs kk 35 j = true
            · simp only [if_pos c6]; exact Or.inr (Or.inr (Or.inr (Or.inr (Or.inr ⟨aIs_t c6, trivial⟩))))
            · simp only [if_neg c6] at h; omega
theorem h_st17 {σ : oSt} {j : Nat} {x y : Int64} (h : aRl kk j < 6) : oj_X3_stands_17 T call κ x (kk j) y σ = some (some (.int (b01 (xmCm (aRl kk j) x y))), σ) := by
  unfold oj_X3_stands_17 oj_X3_stands_128 oj_X3_stands_139
  have T1 : ∀ p : Prop, [Decidable p] → p → b01 (decide p) = 1 := fun p _ q => by rw [decide_eq_true q]; rfl
  have T0 : ∀ p : Prop, [Decidable p] → ¬ p → b01 (decide p) = 0 := fun p _ q => by rw [decide_eq_false q]; rfl
  rcases aRl_k h with ⟨e, r⟩ | ⟨e, r⟩ | ⟨e, r⟩ | ⟨e, r⟩ | ⟨e, r⟩ | ⟨e, r⟩
  · rw [e, r, show xmCm 0 x y = decide (x = y) from rfl, if_neg (by decide), if_neg (by decide), if_neg (by decide), if_neg (by decide)]
    by_cases c : x = y
    · rw [if_pos ((lg_eq x y).mpr c), if_pos rfl, if_pos rfl, T1 _ c]
    · rw [if_neg (fun w => c ((lg_eq x y).mp w)), if_pos rfl, if_neg (by decide), T0 _ c]
  · rw [e, r, show xmCm 1 x y = decide (x < y) from rfl, if_pos rfl]
    by_cases c : x < y
    · rw [if_neg (fun w => absurd c (Int64.not_lt.mpr ((lg_ge x y).mp w))), T1 _ c]
    · rw [if_pos ((lg_ge x y).mpr (Int64.not_lt.mp c)), T0 _ c]
  · rw [e, r, show xmCm 2 x y = decide (x ≤ y) from rfl, if_neg (by decide), if_neg (by decide), if_pos rfl]
    by_cases c : x ≤ y
    · rw [if_neg (fun w => absurd ((lg_gt x y).mp w) (Int64.not_lt.mpr c)), T1 _ c]
    · rw [if_pos ((lg_gt x y).mpr (Int64.not_le.mp c)), T0 _ c]
  · rw [e, r, show xmCm 3 x y = decide (y < x) from rfl, if_neg (by decide), if_pos rfl]
    by_cases c : y < x
    · rw [if_neg (fun w => absurd c (Int64.not_lt.mpr ((lg_le x y).mp w))), T1 _ c]
    · rw [if_pos ((lg_le x y).mpr (Int64.not_lt.mp c)), T0 _ c]
  · rw [e, r, show xmCm 4 x y = decide (y ≤ x) from rfl, if_neg (by decide), if_neg (by decide), if_neg (by decide), if_pos rfl]
    by_cases c : y ≤ x
    · rw [if_neg (fun w => absurd ((lg_lt x y).mp w) (Int64.not_lt.mpr c)), T1 _ c]
    · rw [if_pos ((lg_lt x y).mpr (Int64.not_le.mp c)), T0 _ c]
  · rw [e, r, show xmCm 5 x y = decide (x ≠ y) from rfl, if_neg (by decide), if_neg (by decide), if_neg (by decide), if_neg (by decide)]
    by_cases c : x = y
    · rw [if_pos ((lg_eq x y).mpr c), if_neg (by decide), if_neg (by decide), T0 _ (fun w => w c)]
    · rw [if_neg (fun w => c ((lg_eq x y).mp w)), if_neg (by decide), if_pos rfl, T1 _ c]
end HSD
