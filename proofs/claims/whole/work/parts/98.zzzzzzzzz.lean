/-! closes() of the reference: circles, halves -/
/-- half, downwards -/
def oDn (x : Int64) : Int64 := if lg_cmp (x - x / 2 * 2) 0 = 0 then x / 2 else if 0 ≤ lg_cmp x 0 then x / 2 else x / 2 - 1
/-- one side's own, made even -/
def oEv1 (i : Nat) (m : Nat → Int64) : Nat → Int64 := if 0 ≤ lg_cmp (m (160 * i + (i ^^^ 1))) 1125899906842624 then m else vp_updL m (160 * i + (i ^^^ 1)) (2 * oDn (m (160 * i + (i ^^^ 1))))
/-- no circle below 0, and all sides' own made even -/
def oTi : Nat → (Nat → Int64) → Option (Nat → Int64)
  | 0, m => some m
  | i + 1, m => (oTi i m).bind (fun m => if 0 ≤ lg_cmp (m (160 * i + i)) 0 then some (oEv1 i m) else none)
/-- two limits of one side that leave nothing -/
def oBad (m : Nat → Int64) (i : Nat) : Bool := decide (¬ 0 ≤ lg_cmp (m (160 * i + (i ^^^ 1))) 1125899906842624) && (decide (¬ 0 ≤ lg_cmp (m (160 * (i ^^^ 1) + i)) 1125899906842624) && decide (¬ 0 ≤ lg_cmp (m (160 * i + (i ^^^ 1)) + m (160 * (i ^^^ 1) + i)) 0))
theorem x160 : ∀ i, i < 160 → nI i ^^^ 1 = nI (i ^^^ 1) ∧ i ^^^ 1 < 160 := by decide +kernel
section RCM
variable {ks : Nat → Nat} {qs : List Nat} {T n h0 W : Nat} {τ : zSt}
theorem r_down {x : Int64} {τ : zSt} : zF h0 qs ks T (n + 1) 86 [.long x, .long 2] τ = some (some (.long (oDn x)), τ) := by
  rw [zE_downwards]
  unfold b_downwards j_downwards_24 j_downwards_35 oDn
  simp only [zgd, show decide (¬ (2 : Int64) = 0) = true by decide, if_true]
  by_cases c1 : lg_cmp (x - x / 2 * 2) 0 = 0
  · rw [if_pos c1, if_pos c1]
  · rw [if_neg c1, if_neg c1]
    have c2 : 0 ≤ lg_cmp (2 : Int64) 0 := by decide
    by_cases c3 : 0 ≤ lg_cmp x 0
    · rw [if_pos c3, if_pos c3, if_pos c2]
    · rw [if_neg c3, if_neg c3, if_pos c2, if_neg (by decide)]
/-- circles and evenness -/
theorem r_cl148 (hW : W ≤ 160) : ∀ (d i t : Nat) (m : Nat → Int64), i + d = W → d < t → (∃ m', (∀ m0, oTi i m0 = some m → oTi W m0 = some m') ∧ l_closes_148 T (zF h0 qs ks T (n + 1)) h0 qs ks t (nI W) (nI i) (zG τ 88 m) = l_closes_225 T (zF h0 qs ks T (n + 1)) h0 qs ks T (nI W) 0 (zG τ 88 m')) ∨ ((∀ m0, oTi i m0 = some m → oTi W m0 = none) ∧ ∃ m', l_closes_148 T (zF h0 qs ks T (n + 1)) h0 qs ks t (nI W) (nI i) (zG τ 88 m) = some (some (.int 0), zG τ 88 m'))
  | 0, i, t, m, hi, ht => by
    obtain ⟨t, rfl⟩ : ∃ t', t = t' + 1 := ⟨t - 1, by omega⟩
    have : i = W := by omega
    subst this
    refine Or.inl ⟨m, fun m0 e => e, ?_⟩
    rw [l_closes_148, if_pos (nI_le (by omega) (by omega))]
  | d + 1, i, t, m, hi, ht => by
    obtain ⟨t, rfl⟩ : ∃ t', t = t' + 1 := ⟨t - 1, by omega⟩
    have hi160 : i < 160 := by omega
    obtain ⟨x1, x2⟩ := x160 i hi160
    have none' : ∀ K m0, i + 1 ≤ K → oTi (i + 1) m0 = none → oTi K m0 = none := fun K m0 hK e => by
      induction K with
      | zero => omega
      | succ K ih =>
        by_cases z : K = i
        · rw [z]; exact e
        · show (oTi K m0).bind _ = none
          rw [ih (by omega)]
          rfl
    by_cases c0 : 0 ≤ lg_cmp (m (160 * i + i)) 0
    · have nx : ∀ m0, oTi i m0 = some m → oTi (i + 1) m0 = some (oEv1 i m) := fun m0 e => by
        show (oTi i m0).bind _ = _
        rw [e]
        show (if 0 ≤ lg_cmp (m (160 * i + i)) 0 then some (oEv1 i m) else none) = _
        rw [if_pos c0]
      have step : l_closes_148 T (zF h0 qs ks T (n + 1)) h0 qs ks (t + 1) (nI W) (nI i) (zG τ 88 m) = l_closes_148 T (zF h0 qs ks T (n + 1)) h0 qs ks t (nI W) (nI (i + 1)) (zG τ 88 (oEv1 i m)) := by
        rw [l_closes_148, if_neg (nI_ge (by omega) (by omega))]
        unfold j_closes_217 oEv1
        simp only [x1, n160, zgd, zin_n (show 160 * i + i < 25600 by omega) (by decide), zin_n (show 160 * i + (i ^^^ 1) < 25600 by omega) (by decide), if_true, nI_clamp (show 160 * i + i < 2 ^ 31 by omega), nI_clamp (show 160 * i + (i ^^^ 1) < 2 ^ 31 by omega), zG_at, nI_p1, r_down, zcl', zlet, zG_zG]
        rw [if_pos c0]
        by_cases c1 : 0 ≤ lg_cmp (m (160 * i + (i ^^^ 1))) 1125899906842624
        · rw [if_pos c1, if_pos c1]
        · rw [if_neg c1, if_neg c1]
      rcases r_cl148 hW d (i + 1) t (oEv1 i m) (by omega) (by omega) with ⟨m', g1, g2⟩ | ⟨g1, m', g2⟩
      · exact Or.inl ⟨m', fun m0 e => g1 m0 (nx m0 e), step.trans g2⟩
      · exact Or.inr ⟨fun m0 e => g1 m0 (nx m0 e), m', step.trans g2⟩
    · refine Or.inr ⟨fun m0 e => none' W m0 (by omega) ?_, m, ?_⟩
      · show (oTi i m0).bind _ = _
        rw [e]
        show (if 0 ≤ lg_cmp (m (160 * i + i)) 0 then some (oEv1 i m) else none) = _
        rw [if_neg c0]
      · rw [l_closes_148, if_neg (nI_ge (by omega) (by omega))]
        simp only [n160, zgd, zin_n (show 160 * i + i < 25600 by omega) (by decide), if_true, nI_clamp (show 160 * i + i < 2 ^ 31 by omega), zG_at]
        rw [if_neg c0]
/-- two limits of one side -/
theorem r_cl225 {call : zCl} {m : Nat → Int64} (hW : W ≤ 160) : ∀ (d i t : Nat), i + d = W → d < t → l_closes_225 T call h0 qs ks t (nI W) (nI i) (zG τ 88 m) = if (List.range' i d).any (oBad m) = true then some (some (.int 0), zG τ 88 m) else l_closes_297 T call h0 qs ks T (nI W) 0 (zG τ 88 m)
  | 0, i, t, hi, ht => by
    obtain ⟨t, rfl⟩ : ∃ t', t = t' + 1 := ⟨t - 1, by omega⟩
    rw [l_closes_225, if_pos (nI_le (by omega) (by omega))]
    rfl
  | d + 1, i, t, hi, ht => by
    obtain ⟨t, rfl⟩ : ∃ t', t = t' + 1 := ⟨t - 1, by omega⟩
    obtain ⟨x1, x2⟩ := x160 i (by omega)
    have ih := r_cl225 (call := call) (m := m) hW d (i + 1) t (by omega) (by omega)
    have er : (List.range' i (d + 1)).any (oBad m) = (oBad m i || (List.range' (i + 1) d).any (oBad m)) := rfl
    rw [er, l_closes_225, if_neg (nI_ge (by omega) (by omega))]
    unfold j_closes_289
    simp only [x1, n160, zgd, zin_n (show 160 * i + (i ^^^ 1) < 25600 by omega) (by decide), zin_n (show 160 * (i ^^^ 1) + i < 25600 by omega) (by decide), if_true, nI_clamp (show 160 * i + (i ^^^ 1) < 2 ^ 31 by omega), nI_clamp (show 160 * (i ^^^ 1) + i < 2 ^ 31 by omega), zG_at, nI_p1]
    by_cases c1 : 0 ≤ lg_cmp (m (160 * i + (i ^^^ 1))) 1125899906842624
    · have e : oBad m i = false := by unfold oBad; rw [decide_eq_false (fun z => z c1)]; rfl
      rw [if_pos c1, e, Bool.false_or]; exact ih
    · rw [if_neg c1]
      by_cases c2 : 0 ≤ lg_cmp (m (160 * (i ^^^ 1) + i)) 1125899906842624
      · have e : oBad m i = false := by unfold oBad; rw [decide_eq_true c1, decide_eq_false (fun z => z c2)]; rfl
        rw [if_pos c2, e, Bool.false_or]; exact ih
      · rw [if_neg c2]
        by_cases c3 : 0 ≤ lg_cmp (m (160 * i + (i ^^^ 1)) + m (160 * (i ^^^ 1) + i)) 0
        · have e : oBad m i = false := by unfold oBad; rw [decide_eq_true c1, decide_eq_true c2, decide_eq_false (fun z => z c3)]; rfl
          rw [if_pos c3, e, Bool.false_or]; exact ih
        · have e : oBad m i = true := by unfold oBad; rw [decide_eq_true c1, decide_eq_true c2, decide_eq_true c3]; rfl
          rw [if_neg c3, e, Bool.true_or, if_pos rfl]
end RCM
