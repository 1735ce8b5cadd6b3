/-! closes() of the reference: halves of both, and all -/
def oLow (m : Nat → Int64) (e : Nat) (v : Int64) : Nat → Int64 := if 0 ≤ lg_cmp v (m e) then m else vp_updL m e v
def oHf (i j : Nat) (m : Nat → Int64) : Nat → Int64 := if 0 ≤ lg_cmp (m (160 * i + (i ^^^ 1))) 1125899906842624 then m else if 0 ≤ lg_cmp (m (160 * (j ^^^ 1) + j)) 1125899906842624 then m else oLow m (160 * i + j) ((m (160 * i + (i ^^^ 1)) + m (160 * (j ^^^ 1) + j)) / 2)
def oHr (i : Nat) : Nat → (Nat → Int64) → Nat → Int64
  | 0, m => m
  | j + 1, m => oHf i j (oHr i j m)
def oHa (W : Nat) : Nat → (Nat → Int64) → Nat → Int64
  | 0, m => m
  | i + 1, m => oHr i W (oHa W i m)
section RCN
variable {ks : Nat → Nat} {qs : List Nat} {T n h0 W : Nat} {τ : zSt}
theorem r_low {i j : Nat} {v : Int64} {m : Nat → Int64} (hq : qs.getD 88 0 ≠ qs.getD 87 0) (hi : i < 160) (hj : j < 160) : zF h0 qs ks T (n + 1) 87 [.ref h0, .ref (qs.getD 88 0), .int (nI i), .int (nI j), .long v] (zG τ 88 m) = some (none, zG τ 88 (oLow m (160 * i + j) v)) := by
  rw [zF_at (f := zd_lower) rfl]
  unfold zd_lower
  simp only [if_true, if_neg hq]
  unfold b_lower_bound oLow
  simp only [n160, zgd, zin_n (show 160 * i + j < 25600 by omega) (by decide), if_true, nI_clamp (show 160 * i + j < 2 ^ 31 by omega), zG_at, zlet, zG_zG]
  by_cases c : 0 ≤ lg_cmp v (m (160 * i + j))
  · rw [if_pos c, if_pos c]
  · rw [if_neg c, if_neg c]
theorem r_cl304 {k297 : Int32 → Int32 → zSt → zRs} {i : Nat} (hq : qs.getD 88 0 ≠ qs.getD 87 0) (hW : W ≤ 160) (hi : i < W) : ∀ (d j t : Nat) (m : Nat → Int64), j + d = W → d < t → ∃ m', l_closes_304 T (zF h0 qs ks T (n + 1)) h0 qs ks k297 t (nI W) (nI i) (nI j) (zG τ 88 m) = k297 (nI W) (nI (i + 1)) (zG τ 88 m') ∧ ∀ m0, oHr i j m0 = m → oHr i W m0 = m'
  | 0, j, t, m, hj, ht => by
    obtain ⟨t, rfl⟩ : ∃ t', t = t' + 1 := ⟨t - 1, by omega⟩
    have : j = W := by omega
    subst this
    refine ⟨m, ?_, fun m0 e => e⟩
    rw [l_closes_304, if_pos (nI_le (by omega) (by omega)), nI_p1]
  | d + 1, j, t, m, hj, ht => by
    obtain ⟨t, rfl⟩ : ∃ t', t = t' + 1 := ⟨t - 1, by omega⟩
    obtain ⟨x1, x2⟩ := x160 i (by omega)
    obtain ⟨y1, y2⟩ := x160 j (by omega)
    have step : l_closes_304 T (zF h0 qs ks T (n + 1)) h0 qs ks k297 (t + 1) (nI W) (nI i) (nI j) (zG τ 88 m) = l_closes_304 T (zF h0 qs ks T (n + 1)) h0 qs ks k297 t (nI W) (nI i) (nI (j + 1)) (zG τ 88 (oHf i j m)) := by
      rw [l_closes_304, if_neg (nI_ge (by omega) (by omega))]
      unfold j_closes_378 oHf
      simp only [x1, y1, n160, zgd, zin_n (show 160 * i + (i ^^^ 1) < 25600 by omega) (by decide), zin_n (show 160 * (j ^^^ 1) + j < 25600 by omega) (by decide), if_true, nI_clamp (show 160 * i + (i ^^^ 1) < 2 ^ 31 by omega), nI_clamp (show 160 * (j ^^^ 1) + j < 2 ^ 31 by omega), zG_at, nI_p1]
      by_cases c1 : 0 ≤ lg_cmp (m (160 * i + (i ^^^ 1))) 1125899906842624
      · rw [if_pos c1, if_pos c1]
      · rw [if_neg c1, if_neg c1]
        by_cases c2 : 0 ≤ lg_cmp (m (160 * (j ^^^ 1) + j)) 1125899906842624
        · rw [if_pos c2, if_pos c2]
        · rw [if_neg c2, if_neg c2, r_low hq (by omega) (by omega), zcv_at]
          first | rfl | (rw [if_pos (by decide)])
    obtain ⟨m', i1, i2⟩ := r_cl304 (k297 := k297) hq hW hi d (j + 1) t (oHf i j m) (by omega) (by omega)
    exact ⟨m', step.trans i1, fun m0 e => i2 m0 (by show oHf i j (oHr i j m0) = _; rw [e])⟩
theorem r_cl297 (hq : qs.getD 88 0 ≠ qs.getD 87 0) (hT : 200 ≤ T) (hW : W ≤ 160) : ∀ (d i t : Nat) (m : Nat → Int64), i + d = W → d < t → ∃ m', l_closes_297 T (zF h0 qs ks T (n + 1)) h0 qs ks t (nI W) (nI i) (zG τ 88 m) = some (some (.int 1), zG τ 88 m') ∧ ∀ m0, oHa W i m0 = m → oHa W W m0 = m'
  | 0, i, t, m, hi, ht => by
    obtain ⟨t, rfl⟩ : ∃ t', t = t' + 1 := ⟨t - 1, by omega⟩
    have : i = W := by omega
    subst this
    refine ⟨m, ?_, fun m0 e => e⟩
    rw [l_closes_297, if_pos (nI_le (by omega) (by omega))]
  | d + 1, i, t, m, hi, ht => by
    obtain ⟨t, rfl⟩ : ∃ t', t = t' + 1 := ⟨t - 1, by omega⟩
    obtain ⟨m1, s1, s2⟩ := r_cl304 (ks := ks) (T := T) (n := n) (h0 := h0) (τ := τ) (k297 := l_closes_297 T (zF h0 qs ks T (n + 1)) h0 qs ks t) hq hW (show i < W by omega) W 0 T m (Nat.zero_add _) (by omega)
    obtain ⟨m', i1, i2⟩ := r_cl297 hq hT hW d (i + 1) t m1 (by omega) (by omega)
    refine ⟨m', ?_, fun m0 e => i2 m0 ?_⟩
    · rw [l_closes_297, if_neg (nI_ge (by omega) (by omega))]
      exact (show l_closes_304 T (zF h0 qs ks T (n + 1)) h0 qs ks (l_closes_297 T (zF h0 qs ks T (n + 1)) h0 qs ks t) T (nI W) (nI i) (nI 0) (zG τ 88 m) = _ from s1).trans i1
    · show oHr i W (oHa W i m0) = m1
      rw [e]
      exact s2 m rfl
/-- closes(), as a function of the table -/
def oCls (W : Nat) (m : Nat → Int64) : Option (Nat → Int64) := (oTi W (oFw W W m)).bind (fun m => if (List.range' 0 W).any (oBad m) = true then none else some (oHa W W m))
/-- **closes()** -/
theorem r_closes {c : Nat} (hq : qs.getD 88 0 ≠ qs.getD 87 0) (hT : 200 ≤ T) (hc : c ≤ 80) (h131 : τ.1 131 = nI c) : ∃ m', zF h0 qs ks T (n + 2) 89 [.ref h0] τ = some (some (.int (if (oCls (2 * c) (τ.2.2.2 88)).isSome = true then 1 else 0)), zG τ 88 m') ∧ ∀ m1, oCls (2 * c) (τ.2.2.2 88) = some m1 → m' = m1 := by
  rw [show n + 2 = (n + 1) + 1 from rfl, zE_closes]
  unfold b_closes
  rw [h131, show (2 : Int32) * nI c = nI (2 * c) by rw [show (2 : Int32) = nI 2 from rfl, nI_mul]]
  have hz : τ = zG τ 88 (τ.2.2.2 88) := (zG_id τ 88).symm
  generalize hm : τ.2.2.2 88 = m at *
  obtain ⟨m1, a1, a2⟩ := r_cl9 (ks := ks) (qs := qs) (T := T) (h0 := h0) (call := zF h0 qs ks T (n + 1)) (τ := τ) hT (show 2 * c ≤ 160 by omega) (2 * c) 0 T m (Nat.zero_add _) (by omega)
  have a1 : l_closes_9 T (zF h0 qs ks T (n + 1)) h0 qs ks T (nI (2 * c)) 0 τ = l_closes_148 T (zF h0 qs ks T (n + 1)) h0 qs ks T (nI (2 * c)) 0 (zG τ 88 m1) := by
    have : l_closes_9 T (zF h0 qs ks T (n + 1)) h0 qs ks T (nI (2 * c)) (nI 0) (zG τ 88 m) = _ := a1
    rw [← hz] at this
    exact this
  have e1 : oFw (2 * c) (2 * c) m = m1 := a2 m rfl
  rw [a1]
  rcases r_cl148 (ks := ks) (qs := qs) (T := T) (n := n) (h0 := h0) (τ := τ) (show 2 * c ≤ 160 by omega) (2 * c) 0 T m1 (Nat.zero_add _) (by omega) with ⟨m2, b1, b2⟩ | ⟨b1, m2, b2⟩
  · have e2 : oTi (2 * c) m1 = some m2 := b1 m1 rfl
    have b2 : l_closes_148 T (zF h0 qs ks T (n + 1)) h0 qs ks T (nI (2 * c)) 0 (zG τ 88 m1) = _ := b2
    rw [b2]
    have c1 : l_closes_225 T (zF h0 qs ks T (n + 1)) h0 qs ks T (nI (2 * c)) 0 (zG τ 88 m2) = _ := r_cl225 (ks := ks) (qs := qs) (T := T) (h0 := h0) (τ := τ) (call := zF h0 qs ks T (n + 1)) (m := m2) (show 2 * c ≤ 160 by omega) (2 * c) 0 T (Nat.zero_add _) (by omega)
    rw [c1]
    by_cases cb : (List.range' 0 (2 * c)).any (oBad m2) = true
    · have eO : oCls (2 * c) m = none := by unfold oCls; rw [e1, e2]; show (if _ then none else _) = _; rw [if_pos cb]
      rw [if_pos cb, eO]
      exact ⟨m2, rfl, fun m1 e => by cases e⟩
    · obtain ⟨m3, d1, d2⟩ := r_cl297 (ks := ks) (qs := qs) (T := T) (n := n) (h0 := h0) (τ := τ) hq hT (show 2 * c ≤ 160 by omega) (2 * c) 0 T m2 (Nat.zero_add _) (by omega)
      have e3 : oHa (2 * c) (2 * c) m2 = m3 := d2 m2 rfl
      have eO : oCls (2 * c) m = some m3 := by unfold oCls; rw [e1, e2]; show (if _ then none else some (oHa (2 * c) (2 * c) m2)) = _; rw [if_neg cb, e3]
      have d1 : l_closes_297 T (zF h0 qs ks T (n + 1)) h0 qs ks T (nI (2 * c)) 0 (zG τ 88 m2) = _ := d1
      rw [if_neg cb, d1, eO]
      exact ⟨m3, rfl, fun m1 e => by injection e⟩
  · have e2 : oTi (2 * c) m1 = none := b1 m1 rfl
    have b2 : l_closes_148 T (zF h0 qs ks T (n + 1)) h0 qs ks T (nI (2 * c)) 0 (zG τ 88 m1) = _ := b2
    have eO : oCls (2 * c) m = none := by unfold oCls; rw [e1, e2]; rfl
    rw [b2, eO]
    exact ⟨m2, rfl, fun m1 e => by cases e⟩
end RCN
