/-! atMost() of the reference -/
theorem bx_e (b : Nat) : bx (2 * b) = 2 * b + 1 := by
  have h1 := bx_h (2 * b)
  have h2 := bx_ne (2 * b)
  omega
theorem bx_o (b : Nat) : bx (2 * b + 1) = 2 * b := by
  have h1 := bx_h (2 * b + 1)
  have h2 := bx_ne (2 * b + 1)
  omega
/-- the reference's own way to note a limit -/
def oAt (a : Nat) (ta : Int32) (b : Nat) (tb : Int32) (num : Int64) (m : Nat → Int64) : Nat → Int64 := if tb = 0 then oLow m (160 * bx (sd a ta.toInt) + sd a ta.toInt) (2 * (if ta = 2 ∨ ta = -2 then oDn (-num) else -num)) else if ta = 0 then oLow m (160 * bx (sd b tb.toInt) + sd b tb.toInt) (2 * (if tb = 2 ∨ tb = -2 then oDn (-num) else -num)) else oLow (oLow m (160 * bx (sd b tb.toInt) + sd a ta.toInt) (-num)) (160 * bx (sd a ta.toInt) + sd b tb.toInt) (-num)
section ATM
variable {ks : Nat → Nat} {qs : List Nat} {T n h0 : Nat} {τ : zSt}
theorem r_low' {i j : Nat} {v : Int64} {m : Nat → Int64} (hi : i < 160) (hj : j < 160) : zF h0 qs ks T (n + 1) 87 [.ref h0, .ref (qs.getD 87 0), .int (nI i), .int (nI j), .long v] (zG τ 87 m) = some (none, zG τ 87 (oLow m (160 * i + j) v)) := by
  rw [zF_at (f := zd_lower) rfl]
  unfold zd_lower
  simp only [if_true]
  unfold b_lower_base oLow
  simp only [n160, zgd, zin_n (show 160 * i + j < 25600 by omega) (by decide), if_true, nI_clamp (show 160 * i + j < 2 ^ 31 by omega), zG_at, zlet, zG_zG]
  by_cases c : 0 ≤ lg_cmp v (m (160 * i + j))
  · rw [if_pos c, if_pos c]
  · rw [if_neg c, if_neg c]
theorem j32_pos (t : Int32) : (t ≤ 0) ↔ ¬ 0 < t.toInt := by
  rw [Int32.le_iff_toInt_le]
  show t.toInt ≤ 0 ↔ _
  omega
theorem i32_0 (t : Int32) : (t = 0) ↔ t.toInt = 0 := ⟨fun e => by rw [e]; rfl, fun e => Int32.toInt_inj.mp (e.trans rfl)⟩
theorem n2a (a : Nat) : (2 : Int32) * nI a = nI (2 * a) := by rw [show (2 : Int32) = nI 2 from rfl, nI_mul]
theorem r_atm88 {a b : Nat} {ta tb : Int32} {num : Int64} {m : Nat → Int64} (hq : qs.getD 88 0 ≠ qs.getD 87 0) (ha : a < 80) (hb : b < 80) : zF h0 qs ks T (n + 2) 88 [.ref h0, .ref (qs.getD 88 0), .int (nI a), .int ta, .int (nI b), .int tb, .long num] (zG τ 88 m) = if ta = 0 ∧ tb = 0 then some (some (.int (if 0 < lg_cmp num 0 then 0 else 1)), zG τ 88 m) else some (some (.int 1), zG τ 88 (oAt a ta b tb num m)) := by
  rw [show n + 2 = (n + 1) + 1 from rfl, zF_at (f := zd_atMost) rfl]
  unfold zd_atMost
  simp only [if_true, if_neg hq]
  have h99 : ∀ (c : Nat) (t : Int32) (y : Int64), c < 80 → j_atMost_bound_85 T (zF h0 qs ks T (n + 1)) h0 qs ks (nI c) t y (zG τ 88 m) = some (some (.int 1), zG τ 88 (oLow m (160 * bx (sd c t.toInt) + sd c t.toInt) (2 * y))) := fun c t y hc => by
    unfold j_atMost_bound_85 j_atMost_bound_99 sd
    by_cases z : 0 < t.toInt
    · rw [if_neg (fun w => (j32_pos t).mp w z), if_pos z, n2a, show nI (2 * c) + 0 = nI (2 * c) by rw [Int32.add_zero], (x160 (2 * c) (by omega)).1, Nat.add_zero]
      rw [show (2 * c) ^^^ 1 = bx (2 * c) from rfl, r_low hq (bx_lt (c := 80) (by omega)) (by omega), zcv_at]
      rfl
    · rw [if_pos ((j32_pos t).mpr z), if_neg z, n2a, nI_p1, (x160 (2 * c + 1) (by omega)).1]
      rw [show (2 * c + 1) ^^^ 1 = bx (2 * c + 1) from rfl, r_low hq (bx_lt (c := 80) (by omega)) (by omega), zcv_at]
  have h55 : ∀ (c : Nat) (t : Int32), c < 80 → j_atMost_bound_55 T (zF h0 qs ks T (n + 1)) h0 qs ks num (nI c) t (zG τ 88 m) = some (some (.int 1), zG τ 88 (oLow m (160 * bx (sd c t.toInt) + sd c t.toInt) (2 * (if t = 2 ∨ t = -2 then oDn (-num) else -num)))) := fun c t hc => by
    unfold j_atMost_bound_55 j_atMost_bound_75
    simp only [r_down, zcl']
    by_cases z1 : t = 2
    · rw [if_pos z1, if_pos (Or.inl z1)]; exact h99 c t _ hc
    · rw [if_neg z1]
      by_cases z2 : t = -2
      · rw [if_pos z2, if_pos (Or.inr z2)]; exact h99 c t _ hc
      · rw [if_neg z2, if_neg (by rintro (w | w) <;> contradiction)]; exact h99 c t _ hc
  have h31 : (ta = 0 ∨ tb = 0) → j_atMost_bound_31 T (zF h0 qs ks T (n + 1)) h0 qs ks (nI a) ta (nI b) tb num (zG τ 88 m) = some (some (.int 1), zG τ 88 (oAt a ta b tb num m)) := fun hz => by
    unfold j_atMost_bound_31 j_atMost_bound_42 oAt
    by_cases z : tb = 0
    · rw [if_pos z, if_pos z, if_pos z]; exact h55 a ta ha
    · rw [if_neg z, if_neg z, if_neg z, if_pos (by rcases hz with w | w; exact w; exact absurd w z)]; exact h55 b tb hb
  have h22 : j_atMost_bound_22 T (zF h0 qs ks T (n + 1)) h0 qs ks (nI a) ta (nI b) tb num (zG τ 88 m) = some (some (.int 1), zG τ 88 (oAt a ta b tb num m)) := by
    unfold j_atMost_bound_22
    by_cases z : tb = 0
    · rw [if_pos z]; exact h31 (Or.inr z)
    · rw [if_neg z]
      by_cases y : ta = 0
      · rw [if_pos y]; exact h31 (Or.inl y)
      · rw [if_neg y]
        have hp : sd a ta.toInt < 160 := by unfold sd; split <;> omega
        have hs : sd b tb.toInt < 160 := by unfold sd; split <;> omega
        have h150 : j_atMost_bound_133 T (zF h0 qs ks T (n + 1)) h0 qs ks (nI b) tb num (2 * nI a) (if ta ≤ 0 then 1 else 0) (zG τ 88 m) = some (some (.int 1), zG τ 88 (oAt a ta b tb num m)) := by
          have ep : 2 * nI a + (if ta ≤ 0 then 1 else 0) = nI (sd a ta.toInt) := by
            unfold sd
            by_cases w : 0 < ta.toInt
            · rw [if_neg (fun v => (j32_pos ta).mp v w), if_pos w, n2a, Int32.add_zero, Nat.add_zero]
            · rw [if_pos ((j32_pos ta).mpr w), if_neg w, n2a, nI_p1]
          have eq : 2 * nI b + (if tb ≤ 0 then 0 else 1) = nI (bx (sd b tb.toInt)) := by
            unfold sd
            by_cases w : 0 < tb.toInt
            · rw [if_neg (fun v => (j32_pos tb).mp v w), if_pos w, n2a, nI_p1]
              show _ = nI (bx (2 * b))
              rw [bx_e]
            · rw [if_pos ((j32_pos tb).mpr w), if_neg w, n2a, Int32.add_zero, bx_o]
          have go : j_atMost_bound_133 T (zF h0 qs ks T (n + 1)) h0 qs ks (nI b) tb num (2 * nI a) (if ta ≤ 0 then 1 else 0) (zG τ 88 m) = j_atMost_bound_150 T (zF h0 qs ks T (n + 1)) h0 qs ks num (2 * nI a + (if ta ≤ 0 then 1 else 0)) (2 * nI b) (if tb ≤ 0 then 0 else 1) (zG τ 88 m) := by
            unfold j_atMost_bound_133
            by_cases w : tb ≤ 0
            · rw [if_pos w, if_pos w]
            · rw [if_neg w, if_neg w]
          rw [go]
          unfold j_atMost_bound_150 oAt
          rw [ep, eq, if_neg z, if_neg y, r_low hq (bx_lt (c := 80) hs) hp, zcv_at, (x160 _ hp).1, (x160 _ (bx_lt (c := 80) hs)).1, show bx (sd b tb.toInt) ^^^ 1 = bx (bx (sd b tb.toInt)) from rfl, bx_bx, show sd a ta.toInt ^^^ 1 = bx (sd a ta.toInt) from rfl, r_low hq (bx_lt (c := 80) hp) hs, zcv_at]
        by_cases w : ta ≤ 0
        · rw [if_pos w] at h150 ⊢; exact h150
        · rw [if_neg w] at h150 ⊢; exact h150
  unfold b_atMost_bound
  by_cases z : ta = 0
  · rw [if_pos z]
    by_cases y : tb = 0
    · rw [if_pos y, if_pos (show ta = 0 ∧ tb = 0 from ⟨z, y⟩)]
      by_cases w : 0 < lg_cmp num 0
      · rw [if_pos w, if_pos w]
      · rw [if_neg w, if_neg w]
    · rw [if_neg y, if_neg (fun w => y w.2)]; exact h22
  · rw [if_neg z, if_neg (fun w => z w.1)]; exact h22
theorem r_atm87 {a b : Nat} {ta tb : Int32} {num : Int64} {m : Nat → Int64} (ha : a < 80) (hb : b < 80) : zF h0 qs ks T (n + 2) 88 [.ref h0, .ref (qs.getD 87 0), .int (nI a), .int ta, .int (nI b), .int tb, .long num] (zG τ 87 m) = if ta = 0 ∧ tb = 0 then some (some (.int (if 0 < lg_cmp num 0 then 0 else 1)), zG τ 87 m) else some (some (.int 1), zG τ 87 (oAt a ta b tb num m)) := by
  rw [show n + 2 = (n + 1) + 1 from rfl, zF_at (f := zd_atMost) rfl]
  unfold zd_atMost
  simp only [if_true]
  have h99 : ∀ (c : Nat) (t : Int32) (y : Int64), c < 80 → j_atMost_base_85 T (zF h0 qs ks T (n + 1)) h0 qs ks (nI c) t y (zG τ 87 m) = some (some (.int 1), zG τ 87 (oLow m (160 * bx (sd c t.toInt) + sd c t.toInt) (2 * y))) := fun c t y hc => by
    unfold j_atMost_base_85 j_atMost_base_99 sd
    by_cases z : 0 < t.toInt
    · rw [if_neg (fun w => (j32_pos t).mp w z), if_pos z, n2a, show nI (2 * c) + 0 = nI (2 * c) by rw [Int32.add_zero], (x160 (2 * c) (by omega)).1, Nat.add_zero]
      rw [show (2 * c) ^^^ 1 = bx (2 * c) from rfl, r_low' (bx_lt (c := 80) (by omega)) (by omega), zcv_at]
      rfl
    · rw [if_pos ((j32_pos t).mpr z), if_neg z, n2a, nI_p1, (x160 (2 * c + 1) (by omega)).1]
      rw [show (2 * c + 1) ^^^ 1 = bx (2 * c + 1) from rfl, r_low' (bx_lt (c := 80) (by omega)) (by omega), zcv_at]
  have h55 : ∀ (c : Nat) (t : Int32), c < 80 → j_atMost_base_55 T (zF h0 qs ks T (n + 1)) h0 qs ks num (nI c) t (zG τ 87 m) = some (some (.int 1), zG τ 87 (oLow m (160 * bx (sd c t.toInt) + sd c t.toInt) (2 * (if t = 2 ∨ t = -2 then oDn (-num) else -num)))) := fun c t hc => by
    unfold j_atMost_base_55 j_atMost_base_75
    simp only [r_down, zcl']
    by_cases z1 : t = 2
    · rw [if_pos z1, if_pos (Or.inl z1)]; exact h99 c t _ hc
    · rw [if_neg z1]
      by_cases z2 : t = -2
      · rw [if_pos z2, if_pos (Or.inr z2)]; exact h99 c t _ hc
      · rw [if_neg z2, if_neg (by rintro (w | w) <;> contradiction)]; exact h99 c t _ hc
  have h31 : (ta = 0 ∨ tb = 0) → j_atMost_base_31 T (zF h0 qs ks T (n + 1)) h0 qs ks (nI a) ta (nI b) tb num (zG τ 87 m) = some (some (.int 1), zG τ 87 (oAt a ta b tb num m)) := fun hz => by
    unfold j_atMost_base_31 j_atMost_base_42 oAt
    by_cases z : tb = 0
    · rw [if_pos z, if_pos z, if_pos z]; exact h55 a ta ha
    · rw [if_neg z, if_neg z, if_neg z, if_pos (by rcases hz with w | w; exact w; exact absurd w z)]; exact h55 b tb hb
  have h22 : j_atMost_base_22 T (zF h0 qs ks T (n + 1)) h0 qs ks (nI a) ta (nI b) tb num (zG τ 87 m) = some (some (.int 1), zG τ 87 (oAt a ta b tb num m)) := by
    unfold j_atMost_base_22
    by_cases z : tb = 0
    · rw [if_pos z]; exact h31 (Or.inr z)
    · rw [if_neg z]
      by_cases y : ta = 0
      · rw [if_pos y]; exact h31 (Or.inl y)
      · rw [if_neg y]
        have hp : sd a ta.toInt < 160 := by unfold sd; split <;> omega
        have hs : sd b tb.toInt < 160 := by unfold sd; split <;> omega
        have h150 : j_atMost_base_133 T (zF h0 qs ks T (n + 1)) h0 qs ks (nI b) tb num (2 * nI a) (if ta ≤ 0 then 1 else 0) (zG τ 87 m) = some (some (.int 1), zG τ 87 (oAt a ta b tb num m)) := by
          have ep : 2 * nI a + (if ta ≤ 0 then 1 else 0) = nI (sd a ta.toInt) := by
            unfold sd
            by_cases w : 0 < ta.toInt
            · rw [if_neg (fun v => (j32_pos ta).mp v w), if_pos w, n2a, Int32.add_zero, Nat.add_zero]
            · rw [if_pos ((j32_pos ta).mpr w), if_neg w, n2a, nI_p1]
          have eq : 2 * nI b + (if tb ≤ 0 then 0 else 1) = nI (bx (sd b tb.toInt)) := by
            unfold sd
            by_cases w : 0 < tb.toInt
            · rw [if_neg (fun v => (j32_pos tb).mp v w), if_pos w, n2a, nI_p1]
              show _ = nI (bx (2 * b))
              rw [bx_e]
            · rw [if_pos ((j32_pos tb).mpr w), if_neg w, n2a, Int32.add_zero, bx_o]
          have go : j_atMost_base_133 T (zF h0 qs ks T (n + 1)) h0 qs ks (nI b) tb num (2 * nI a) (if ta ≤ 0 then 1 else 0) (zG τ 87 m) = j_atMost_base_150 T (zF h0 qs ks T (n + 1)) h0 qs ks num (2 * nI a + (if ta ≤ 0 then 1 else 0)) (2 * nI b) (if tb ≤ 0 then 0 else 1) (zG τ 87 m) := by
            unfold j_atMost_base_133
            by_cases w : tb ≤ 0
            · rw [if_pos w, if_pos w]
            · rw [if_neg w, if_neg w]
          rw [go]
          unfold j_atMost_base_150 oAt
          rw [ep, eq, if_neg z, if_neg y, r_low' (bx_lt (c := 80) hs) hp, zcv_at, (x160 _ hp).1, (x160 _ (bx_lt (c := 80) hs)).1, show bx (sd b tb.toInt) ^^^ 1 = bx (bx (sd b tb.toInt)) from rfl, bx_bx, show sd a ta.toInt ^^^ 1 = bx (sd a ta.toInt) from rfl, r_low' (bx_lt (c := 80) hp) hs, zcv_at]
        by_cases w : ta ≤ 0
        · rw [if_pos w] at h150 ⊢; exact h150
        · rw [if_neg w] at h150 ⊢; exact h150
  unfold b_atMost_base
  by_cases z : ta = 0
  · rw [if_pos z]
    by_cases y : tb = 0
    · rw [if_pos y, if_pos (show ta = 0 ∧ tb = 0 from ⟨z, y⟩)]
      by_cases w : 0 < lg_cmp num 0
      · rw [if_pos w, if_pos w]
      · rw [if_neg w, if_neg w]
    · rw [if_neg y, if_neg (fun w => y w.2)]; exact h22
  · rw [if_neg z, if_neg (fun w => z w.1)]; exact h22
end ATM
