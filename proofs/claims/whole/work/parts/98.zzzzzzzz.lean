/-! compile() of both where all is well: what the class takes, what the reference clears -/
theorem vp_L (f : Nat → Int64) (i : Nat) (v : Int64) (j : Nat) : vp_updL f i v j = if j = i then v else f j := rfl
section TAK
variable {κ : oKv} {T n a p N ma va : Nat} {v : Int64} {fm : List Value} {σ : oSt}
theorem c_fJ {call : oCl} (hN : N < 2 ^ 31) : ∀ (d k t : Nat) (σ : oSt) (f : Nat → Int64), k + d = N → d < t → σ.1 a = some (.inl (.long, N, .inr (.inl f))) → ol_J7_fill_d0a16_6 T call κ t (some a) v (nI k) (nI N) σ = some (none, oput σ a (.inl (.long, N, .inr (.inl (fun i => if k ≤ i ∧ i < N then v else f i)))))
  | 0, k, t, σ, f, hk, ht, h => by
    obtain ⟨t, rfl⟩ : ∃ t', t = t' + 1 := ⟨t - 1, by omega⟩
    rw [ol_J7_fill_d0a16_6, if_pos (nI_le (by omega) (by omega))]
    have : (fun i => if k ≤ i ∧ i < N then v else f i) = f := funext fun i => if_neg (by omega)
    rw [this, oput_same h]
  | d + 1, k, t, σ, f, hk, ht, h => by
    obtain ⟨t, rfl⟩ : ∃ t', t = t' + 1 := ⟨t - 1, by omega⟩
    have zi : zin (nI k) N = true := decide_eq_true ⟨by rw [nI_toInt (by omega)]; omega, by rw [nI_toInt (by omega)]; omega⟩
    have e : osj σ (some a) (nI k) v = some (oput σ a (.inl (.long, N, .inr (.inl (vp_updL f k v))))) := by
      simp only [osj, h, zi, and_self, if_true, nI_clamp (show k < 2 ^ 31 by omega)]
    rw [ol_J7_fill_d0a16_6, if_neg (nI_ge (by omega) (by omega)), e, obn_at, nI_p1, c_fJ hN d (k + 1) t _ _ (by omega) (by omega) (oput_eq _ _ _), oput_oput]
    have : (fun i => if k + 1 ≤ i ∧ i < N then v else vp_updL f k v i) = (fun i => if k ≤ i ∧ i < N then v else f i) := funext fun i => by
      rw [vp_L]
      by_cases c : i = k
      · rw [if_neg (by omega), if_pos c, if_pos (by omega)]
      · rw [if_neg c]
        by_cases c2 : k ≤ i ∧ i < N
        · rw [if_pos (by omega), if_pos c2]
        · rw [if_neg (by omega), if_neg c2]
    rw [this]
theorem c_fillJ {f : Nat → Int64} (hT : 100 ≤ T) (h : σ.1 a = some (.inl (.long, 6, .inr (.inl f)))) : oF κ T (n + 1) 241 [va_rf (some a), .long v] σ = some (none, oput σ a (.inl (.long, 6, .inr (.inl (fun i => if 0 ≤ i ∧ i < 6 then v else f i))))) := by
  rw [oE_J7_fill_d0a16]
  unfold ob_J7_fill_d0a16
  have e : oln2 κ σ (some a) = some (nI 6) := by simp only [oln2, h]; rfl
  rw [e, obn_at]
  exact c_fJ (N := 6) (by decide) 6 0 T σ f rfl (by omega) h
/-- take(parser, kind) -/
theorem c_take {f : Nat → Int64} {kd : Int32} (hT : 100 ≤ T) (hm : σ.1 ma = some (.inr (5, fm))) (hl : fm.length = 18) (h2 : fm[2]? = some (.ref va)) (hne : va ≠ ma) (h : σ.1 va = some (.inl (.long, 6, .inr (.inl f)))) : oF κ T (n + 2) 73 [va_rf (some ma), va_rf (some p), .int kd] σ = some (none, oput (oput σ ma (.inr (5, (fm.set 0 (.ref p)).set 1 (.int kd)))) va (.inl (.long, 6, .inr (.inl (fun i => if 0 ≤ i ∧ i < 6 then 0 else f i))))) := by
  rw [show n + 2 = (n + 1) + 1 from rfl, oE_X3_take]
  unfold ob_X3_take
  rw [opf_at hm (by omega), obn_at, opf_at (oput_eq _ _ _) (by rw [List.length_set]; omega), obn_at, oput_oput]
  have f2 : ofd (oput σ ma (.inr (5, (fm.set 0 (va_rf (some p))).set 1 (.int kd)))) (some ma) 5 2 = some (.ref va) := by
    rw [ofd_at (oput_eq _ _ _), List.getElem?_set_ne (by decide), List.getElem?_set_ne (by decide)]
    exact h2
  rw [f2, ovr_rf, obn_at, c_fillJ hT ((oput_ne hne).trans h), ocv_at]
  rfl
end TAK
/-- INPUTS cleared -/
def zCl0 (τ τ' : zSt) : Prop := τ'.1 = τ.1 ∧ τ'.2.1 = τ.2.1 ∧ τ'.2.2.1 = τ.2.2.1 ∧ ∀ k, k ≠ 103 → k ≠ 104 → τ'.2.2.2 k = τ.2.2.2 k
section CLR
variable {ks : Nat → Nat} {qs : List Nat} {T h0 : Nat} {call : zCl}
theorem r_134 {k119 : Int32 → zSt → zRs} {x : Nat} (hx : x < 6) : ∀ (d k t : Nat) (τ : zSt), k + d = 1000 → d < t → ∃ τ', l_compile_134 T call h0 qs ks k119 t (nI x) (nI k) τ = k119 (nI (x + 1)) τ' ∧ zCl0 τ τ' ∧ τ'.2.2.2 103 = τ.2.2.2 103 ∧ (∀ j, τ'.2.2.2 104 j = if 1000 * x + k ≤ j ∧ j < 1000 * x + 1000 then 0 else τ.2.2.2 104 j)
  | 0, k, t, τ, hk, ht => by
    obtain ⟨t, rfl⟩ : ∃ t', t = t' + 1 := ⟨t - 1, by omega⟩
    refine ⟨τ, ?_, ⟨rfl, rfl, rfl, fun _ _ _ => rfl⟩, rfl, fun j => (if_neg (by omega)).symm⟩
    rw [l_compile_134, if_pos (show (1000 : Int32) ≤ nI k from nI_le (a := 1000) (by omega) (by omega)), nI_p1]
  | d + 1, k, t, τ, hk, ht => by
    obtain ⟨t, rfl⟩ : ∃ t', t = t' + 1 := ⟨t - 1, by omega⟩
    have e : (1000 : Int32) * nI x + nI k = nI (1000 * x + k) := by
      rw [show (1000 : Int32) = nI 1000 from rfl, nI_mul, nI_add]
    obtain ⟨τ', i1, ⟨i2, i3, i4, i5⟩, i6, i7⟩ := r_134 (k119 := k119) hx d (k + 1) t (zG τ 104 (vp_updL (τ.2.2.2 104) (1000 * x + k) 0)) (by omega) (by omega)
    refine ⟨τ', ?_, ⟨i2, i3, i4, fun k a b => (i5 k a b).trans (if_neg b)⟩, i6.trans rfl, fun j => ?_⟩
    · rw [l_compile_134, if_neg (show ¬ (1000 : Int32) ≤ nI k from nI_ge (b := 1000) (by omega) (by decide)), e]
      simp only [zgd, zin_n (show 1000 * x + k < 6000 by omega) (by decide), if_true, nI_clamp (show 1000 * x + k < 2 ^ 31 by omega), zlet, nI_p1]
      exact i1
    · rw [i7 j, show (zG τ 104 (vp_updL (τ.2.2.2 104) (1000 * x + k) 0)).2.2.2 104 = vp_updL (τ.2.2.2 104) (1000 * x + k) 0 from rfl, vp_L]
      by_cases c : j = 1000 * x + k
      · rw [if_neg (by omega), if_pos c, if_pos (by omega)]
      · rw [if_neg c]
        by_cases c2 : 1000 * x + k ≤ j ∧ j < 1000 * x + 1000
        · rw [if_pos (by omega), if_pos c2]
        · rw [if_neg (by omega), if_neg c2]
theorem r_119 (hT : 1010 ≤ T) : ∀ (d x t : Nat) (τ : zSt), x + d = 6 → d < t → ∃ τ', l_compile_119 T call h0 qs ks t (nI x) τ = some (some (.int 0), τ') ∧ zCl0 τ τ' ∧ (∀ j, x ≤ j → j < 6 → τ'.2.2.2 103 j = 0) ∧ (∀ j, j < x → τ'.2.2.2 103 j = τ.2.2.2 103 j) ∧ (∀ j, 1000 * x ≤ j → j < 6000 → τ'.2.2.2 104 j = 0) ∧ (∀ j, j < 1000 * x → τ'.2.2.2 104 j = τ.2.2.2 104 j)
  | 0, x, t, τ, hx, ht => by
    obtain ⟨t, rfl⟩ : ∃ t', t = t' + 1 := ⟨t - 1, by omega⟩
    refine ⟨τ, ?_, ⟨rfl, rfl, rfl, fun _ _ _ => rfl⟩, fun j a b => by omega, fun _ _ => rfl, fun j a b => by omega, fun _ _ => rfl⟩
    rw [l_compile_119, if_pos (show (6 : Int32) ≤ nI x from nI_le (a := 6) (by omega) (by omega))]
  | d + 1, x, t, τ, hx, ht => by
    obtain ⟨t, rfl⟩ : ∃ t', t = t' + 1 := ⟨t - 1, by omega⟩
    obtain ⟨τ1, a1, ⟨a2, a3, a4, a5⟩, a6, a7⟩ := r_134 (ks := ks) (qs := qs) (h0 := h0) (call := call) (T := T) (k119 := l_compile_119 T call h0 qs ks t) (show x < 6 by omega) 1000 0 T (zG τ 103 (vp_updL (τ.2.2.2 103) x 0)) (by omega) (by omega)
    obtain ⟨τ2, b1, ⟨b2, b3, b4, b5⟩, b6, b7, b8, b9⟩ := r_119 hT d (x + 1) t τ1 (by omega) (by omega)
    have e103 : τ1.2.2.2 103 = vp_updL (τ.2.2.2 103) x 0 := a6.trans rfl
    have e104 : ∀ j, τ1.2.2.2 104 j = if 1000 * x ≤ j ∧ j < 1000 * x + 1000 then 0 else τ.2.2.2 104 j := fun j => by
      rw [a7 j]
      rfl
    refine ⟨τ2, ?_, ⟨b2.trans a2, b3.trans a3, b4.trans a4, fun k a b => (b5 k a b).trans ((a5 k a b).trans (if_neg a))⟩, fun j c1 c2 => ?_, fun j c1 => ?_, fun j c1 c2 => ?_, fun j c1 => ?_⟩
    · rw [l_compile_119, if_neg (show ¬ (6 : Int32) ≤ nI x from nI_ge (b := 6) (by omega) (by decide))]
      simp only [zgd, zin_n (show x < 6 by omega) (by decide), if_true, nI_clamp (show x < 2 ^ 31 by omega), zlet]
      exact (show l_compile_134 T call h0 qs ks (l_compile_119 T call h0 qs ks t) T (nI x) (nI 0) _ = _ from a1).trans b1
    · by_cases c : j = x
      · rw [b7 j (by omega), e103, vp_L, if_pos c]
      · exact b6 j (by omega) c2
    · rw [b7 j (by omega), e103, vp_L, if_neg (by omega)]
    · by_cases c : j < 1000 * (x + 1)
      · rw [b9 j c, e104, if_pos (by omega)]
      · exact b8 j (by omega) c2
    · rw [b9 j (by omega), e104, if_neg (by omega)]
end CLR
