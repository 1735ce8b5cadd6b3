/-! closes() of the reference: its first loops -/
/-- one cell: x the way to k, a on from k, b as it is -/
def oSt1 (x a b : Int64) : Int64 := if 0 ≤ lg_cmp (x + a) b then b else if 0 ≤ lg_cmp a 1125899906842624 then b else x + a
def oRow (W k i : Nat) (m : Nat → Int64) : Nat → Int64 := if lg_cmp (m (160 * i + k)) 1125899906842624 < 0 then (fun e => if 160 * i ≤ e ∧ e < 160 * i + W then oSt1 (m (160 * i + k)) (m (160 * k + (e - 160 * i))) (m e) else m e) else m
/-- all rows, through k -/
def oRws (W k : Nat) : Nat → (Nat → Int64) → Nat → Int64
  | 0, m => m
  | i + 1, m => oRow W k i (oRws W k i m)
/-- through all below k -/
def oFw (W : Nat) : Nat → (Nat → Int64) → Nat → Int64
  | 0, m => m
  | k + 1, m => oRws W k W (oFw W k m)
theorem zG_zG (τ : zSt) (k : Nat) (a b : Nat → Int64) : zG (zG τ k a) k b = zG τ k b := by
  unfold zG
  refine Prod.ext rfl (Prod.ext rfl (Prod.ext rfl (funext fun j => ?_)))
  by_cases c : j = k
  · simp only [if_pos c]
  · simp only [if_neg c]
theorem zG_at (τ : zSt) (k : Nat) (a : Nat → Int64) : (zG τ k a).2.2.2 k = a := if_pos rfl
theorem zG_id (τ : zSt) (k : Nat) : zG τ k (τ.2.2.2 k) = τ := by
  unfold zG
  refine Prod.ext rfl (Prod.ext rfl (Prod.ext rfl (funext fun j => ?_)))
  by_cases c : j = k
  · show (if j = k then τ.2.2.2 k else τ.2.2.2 j) = τ.2.2.2 j
    rw [if_pos c, c]
  · simp only [if_neg c]
section RCL
variable {ks : Nat → Nat} {qs : List Nat} {T h0 W : Nat} {call : zCl} {τ : zSt}
theorem n160 (a b : Nat) : (160 : Int32) * nI a + nI b = nI (160 * a + b) := by
  rw [show (160 : Int32) = nI 160 from rfl, nI_mul, nI_add]
/-- one row -/
theorem r_cl50 {k9 : Int32 → Int32 → zSt → zRs} {k16 : Int32 → Int32 → Int32 → zSt → zRs} {k i : Nat} {x : Int64} (hW : W ≤ 160) (hk : k < W) (hi : i < W) : ∀ (d j t : Nat) (m : Nat → Int64), j + d = W → d < t → ∃ m', l_closes_50 T call h0 qs ks k9 k16 t (nI W) (nI k) (nI i) x (nI j) (zG τ 88 m) = k16 (nI W) (nI k) (nI (i + 1)) (zG τ 88 m') ∧ ∀ e, m' e = if 160 * i + j ≤ e ∧ e < 160 * i + W then oSt1 x (m (160 * k + (e - 160 * i))) (m e) else m e
  | 0, j, t, m, hj, ht => by
    obtain ⟨t, rfl⟩ : ∃ t', t = t' + 1 := ⟨t - 1, by omega⟩
    refine ⟨m, ?_, fun e => (if_neg (by omega)).symm⟩
    rw [l_closes_50, if_pos (nI_le (by omega) (by omega))]
    unfold j_closes_134
    rw [nI_p1]
  | d + 1, j, t, m, hj, ht => by
    obtain ⟨t, rfl⟩ : ∃ t', t = t' + 1 := ⟨t - 1, by omega⟩
    -- the cell
    have step : ∃ m1, l_closes_50 T call h0 qs ks k9 k16 (t + 1) (nI W) (nI k) (nI i) x (nI j) (zG τ 88 m) = l_closes_50 T call h0 qs ks k9 k16 t (nI W) (nI k) (nI i) x (nI (j + 1)) (zG τ 88 m1) ∧ ∀ e, m1 e = if e = 160 * i + j then oSt1 x (m (160 * k + j)) (m e) else m e := by
      rw [l_closes_50, if_neg (nI_ge (by omega) (by omega))]
      unfold j_closes_128
      simp only [n160, zgd, zin_n (show 160 * k + j < 25600 by omega) (by decide), zin_n (show 160 * i + j < 25600 by omega) (by decide), if_true, nI_clamp (show 160 * k + j < 2 ^ 31 by omega), nI_clamp (show 160 * i + j < 2 ^ 31 by omega), zG_at, nI_p1, zlet, zG_zG]
      by_cases c1 : 0 ≤ lg_cmp (x + m (160 * k + j)) (m (160 * i + j))
      · rw [if_pos c1]
        refine ⟨m, rfl, fun e => ?_⟩
        by_cases z : e = 160 * i + j
        · rw [if_pos z, z]; unfold oSt1; rw [if_pos c1]
        · rw [if_neg z]
      · rw [if_neg c1]
        by_cases c2 : 0 ≤ lg_cmp (m (160 * k + j)) 1125899906842624
        · rw [if_pos c2]
          refine ⟨m, rfl, fun e => ?_⟩
          by_cases z : e = 160 * i + j
          · rw [if_pos z, z]; unfold oSt1; rw [if_neg c1, if_pos c2]
          · rw [if_neg z]
        · rw [if_neg c2]
          refine ⟨_, rfl, fun e => ?_⟩
          rw [vp_L]
          by_cases z : e = 160 * i + j
          · rw [if_pos z, if_pos z, z]; unfold oSt1; rw [if_neg c1, if_neg c2]
          · rw [if_neg z, if_neg z]
    obtain ⟨m1, s1, s2⟩ := step
    obtain ⟨m', i1, i2⟩ := r_cl50 (k9 := k9) (k16 := k16) (x := x) hW hk hi d (j + 1) t m1 (by omega) (by omega)
    refine ⟨m', s1.trans i1, fun e => ?_⟩
    rw [i2 e]
    by_cases z : e = 160 * i + j
    · rw [if_neg (by omega), s2 e, if_pos z, if_pos (by omega), z, show 160 * i + j - 160 * i = j by omega]
    · by_cases c : 160 * i + j ≤ e ∧ e < 160 * i + W
      · rw [if_pos (by omega), if_pos c, s2 e, if_neg z, s2 (160 * k + (e - 160 * i)), if_neg]
        intro zz
        -- the same cell of row k only where i = k, and then e is that cell
        have : k = i := by omega
        omega
      · rw [if_neg (by omega), if_neg c, s2 e, if_neg z]
/-- all rows -/
theorem r_cl16 {k9 : Int32 → Int32 → zSt → zRs} {k : Nat} (hT : 200 ≤ T) (hW : W ≤ 160) (hk : k < W) : ∀ (d i t : Nat) (m : Nat → Int64), i + d = W → d < t → ∃ m', l_closes_16 T call h0 qs ks k9 t (nI W) (nI k) (nI i) (zG τ 88 m) = k9 (nI W) (nI (k + 1)) (zG τ 88 m') ∧ ∀ m0, oRws W k i m0 = m → oRws W k W m0 = m'
  | 0, i, t, m, hi, ht => by
    obtain ⟨t, rfl⟩ : ∃ t', t = t' + 1 := ⟨t - 1, by omega⟩
    have : i = W := by omega
    subst this
    refine ⟨m, ?_, fun m0 e => e⟩
    rw [l_closes_16, if_pos (nI_le (by omega) (by omega)), nI_p1]
  | d + 1, i, t, m, hi, ht => by
    obtain ⟨t, rfl⟩ : ∃ t', t = t' + 1 := ⟨t - 1, by omega⟩
    have step : l_closes_16 T call h0 qs ks k9 (t + 1) (nI W) (nI k) (nI i) (zG τ 88 m) = l_closes_16 T call h0 qs ks k9 t (nI W) (nI k) (nI (i + 1)) (zG τ 88 (oRow W k i m)) := by
      rw [l_closes_16, if_neg (nI_ge (by omega) (by omega))]
      simp only [n160, zgd, zin_n (show 160 * i + k < 25600 by omega) (by decide), if_true, nI_clamp (show 160 * i + k < 2 ^ 31 by omega), zG_at]
      unfold oRow
      by_cases c : lg_cmp (m (160 * i + k)) 1125899906842624 < 0
      · rw [if_pos c, if_pos c]
        obtain ⟨m', i1, i2⟩ := r_cl50 (ks := ks) (qs := qs) (T := T) (h0 := h0) (call := call) (τ := τ) (k9 := k9) (k16 := l_closes_16 T call h0 qs ks k9 t) (x := m (160 * i + k)) hW hk (show i < W by omega) W 0 T m (Nat.zero_add _) (by omega)
        have em : m' = fun e => if 160 * i ≤ e ∧ e < 160 * i + W then oSt1 (m (160 * i + k)) (m (160 * k + (e - 160 * i))) (m e) else m e := funext fun e => i2 e
        rw [← em]
        exact i1
      · rw [if_neg c, if_neg c]
        unfold j_closes_134
        rw [nI_p1]
    obtain ⟨m', i1, i2⟩ := r_cl16 (k9 := k9) hT hW hk d (i + 1) t (oRow W k i m) (by omega) (by omega)
    exact ⟨m', step.trans i1, fun m0 e => i2 m0 (by show oRow W k i (oRws W k i m0) = _; rw [e])⟩
/-- **through all** -/
theorem r_cl9 (hT : 200 ≤ T) (hW : W ≤ 160) : ∀ (d k t : Nat) (m : Nat → Int64), k + d = W → d < t → ∃ m', l_closes_9 T call h0 qs ks t (nI W) (nI k) (zG τ 88 m) = l_closes_148 T call h0 qs ks T (nI W) 0 (zG τ 88 m') ∧ ∀ m0, oFw W k m0 = m → oFw W W m0 = m'
  | 0, k, t, m, hk, ht => by
    obtain ⟨t, rfl⟩ : ∃ t', t = t' + 1 := ⟨t - 1, by omega⟩
    have : k = W := by omega
    subst this
    refine ⟨m, ?_, fun m0 e => e⟩
    rw [l_closes_9, if_pos (nI_le (by omega) (by omega))]
  | d + 1, k, t, m, hk, ht => by
    obtain ⟨t, rfl⟩ : ∃ t', t = t' + 1 := ⟨t - 1, by omega⟩
    obtain ⟨m1, s1, s2⟩ := r_cl16 (ks := ks) (qs := qs) (T := T) (h0 := h0) (call := call) (τ := τ) (k9 := l_closes_9 T call h0 qs ks t) hT hW (show k < W by omega) W 0 T m (Nat.zero_add _) (by omega)
    obtain ⟨m', i1, i2⟩ := r_cl9 hT hW d (k + 1) t m1 (by omega) (by omega)
    refine ⟨m', ?_, fun m0 e => i2 m0 ?_⟩
    · rw [l_closes_9, if_neg (nI_ge (by omega) (by omega))]
      exact (show l_closes_16 T call h0 qs ks (l_closes_9 T call h0 qs ks t) T (nI W) (nI k) (nI 0) (zG τ 88 m) = _ from s1).trans i1
    · show oRws W k W (oFw W k m0) = m1
      rw [e]
      exact s2 m rfl
end RCL
