/-! the reference: parameters -/
section KRQ
variable {ks : Nat → Nat} {qs : List Nat} {T n h0 len cnt : Nat} {τ : zSt} {kk pp ee f : Nat → Int32}
theorem r_parL {m v k : Nat} {call : zCl} (hw : rW τ T len cnt kk pp ee f) (hm : m < 2100) (hv : τ.2.2.1 10 m = nI v) (hk : ∀ i, i < k → aIs kk 1 (v + i) = true) (hn : aIs kk 1 (v + k) = false) (hc : v + k ≤ cnt) : ∀ (t i : Nat), i ≤ k → k < i + t → l_parameters_2 T call h0 qs ks t (nI m) (nI i) τ = some (some (.int (nI k)), τ)
  | 0, i, _, h => by omega
  | t + 1, i, hi, ht => by
    have hcn := hw.cn
    rw [l_parameters_2]
    simp only [zgd, zin_n hm (by decide), if_true, nI_clamp (show m < 2 ^ 31 by omega), hv, nI_add, zin_n (show v + i < 2010 by omega) (by decide), nI_clamp (show v + i < 2 ^ 31 by omega)]
    have e := hw.k1 (i := v + i) (by omega)
    by_cases c : i < k
    · rw [if_pos (e.mpr (hk i c))]
      have e2 : nI i + 1 = nI (i + 1) := nI_add i 1 ▸ rfl
      rw [e2]
      exact r_parL hw hm hv hk hn hc t (i + 1) (by omega) (by omega)
    · have : i = k := by omega
      subst this
      rw [if_neg (fun z => by have := e.mp z; rw [hn] at this; cases this)]
/-- parameters(m) -/
theorem r_params {m v k : Nat} (hT : 2010 ≤ T) (hw : rW τ T len cnt kk pp ee f) (hm : m < 2100) (hv : τ.2.2.1 10 m = nI v) (hk : ∀ i, i < k → aIs kk 1 (v + i) = true) (hn : aIs kk 1 (v + k) = false) (hc : v + k ≤ cnt) : zF h0 qs ks T (n + 1) 38 [.ref h0, .int (nI m)] τ = some (some (.int (nI k)), τ) := by
  have hcn := hw.cn
  rw [zE_parameters]
  exact r_parL hw hm hv hk hn hc T 0 (Nat.zero_le _) (by omega)
end KRQ
