/-! the reference: letters (signed bytes), keywords -/
theorem oktx_2k : zKm[0]? = some (410, oktx 2) := by decide +kernel
theorem zKm_k : zKm = (410, oktx 2) :: zKl := by
  have h := oktx_2k
  unfold zKm at h ⊢
  rw [List.getElem?_cons_zero] at h
  rw [Option.some.inj h]
theorem kL_asc : ∀ j, j < 120 → zch (oktx 2) j = kL j := by decide +kernel
theorem kL_lo : ∀ j, j < 120 → (0 : Int32) ≤ kL j ∧ kL j < 128 := by decide +kernel
theorem zslen_k (ks : Nat → Nat) : zslen ks (ks 410) = some 120 := by
  unfold zslen
  rw [zKm_k]
  simp only [List.find?_cons, beq_self_eq_true, Option.map_some, oktx_2]
  rfl
theorem zschr_k {ks : Nat → Nat} {j : Nat} (hj : j < 120) : zschr ks (ks 410) (nI j) = some (kL j) := by
  unfold zschr
  rw [zKm_k]
  simp only [List.find?_cons, beq_self_eq_true, oktx_2, nI_toInt (show j < 2 ^ 31 by omega), nI_clamp (show j < 2 ^ 31 by omega)]
  rw [if_pos ⟨by omega, by omega⟩, kL_asc j hj]
/-- a letter as a signed byte -/
def sB (b : Int32) : Prop := b.toInt8.toInt32 = b
theorem sB_k {b : Int32} (h : sB b) : ∃ k, k < 256 ∧ b &&& 255 = nI k ∧ b = (nI k).toInt8.toInt32 := by
  obtain ⟨k, hk, ek⟩ := pk_andE b (m := 255) 8 (by decide)
  refine ⟨k, hk, ek, ?_⟩
  have e1 : (b &&& 255).toInt8 = b.toInt8 := by
    rw [Int32.toInt8_and]
    exact Int8.and_neg_one
  rw [← ek, e1]
  exact h.symm
theorem sB_1 : ∀ k, k < 256 → (k < 128 → (nI k).toInt8.toInt32 = nI k) ∧ (¬ k < 128 → (nI k).toInt8.toInt32 < 0) := by decide +kernel
theorem sB_L : ∀ k, k < 256 → bL (nI k).toInt8.toInt32 = bL (nI k) := by decide +kernel
theorem sB_D : ∀ k, k < 256 → bD (nI k).toInt8.toInt32 = bD (nI k) := by decide +kernel
theorem sB_bL {b : Int32} (h : sB b) : bL b = bL (b &&& 255) := by
  obtain ⟨k, hk, e1, e2⟩ := sB_k h
  have := sB_L k hk
  rw [e1]
  exact (congrArg _ e2).trans this
theorem sB_bD {b : Int32} (h : sB b) : bD b = bD (b &&& 255) := by
  obtain ⟨k, hk, e1, e2⟩ := sB_k h
  have := sB_D k hk
  rw [e1]
  exact (congrArg _ e2).trans this
theorem sB_eq {b c : Int32} (h : sB b) (h0 : 0 ≤ c) (h1 : c < 128) : b = c ↔ b &&& 255 = c := by
  obtain ⟨k, hk, e1, e2⟩ := sB_k h
  have := sB_1 k hk
  by_cases hc : k < 128
  · have e3 := this.1 hc
    rw [e1, e2, e3]
  · have e3 := this.2 hc
    rw [← e2] at e3
    constructor
    · intro e
      rw [e] at e3
      exact absurd e3 (Int32.not_lt.mpr h0)
    · intro e
      rw [← e, e1] at h1
      exact absurd h1 (nI_nlt (b := 128) (by omega) (by omega))
theorem nI_inj' {a b : Nat} (ha : a < 2 ^ 31) (hb : b < 2 ^ 31) (h : nI a = nI b) : a = b := by
  have := congrArg Int32.toInt h
  rw [nI_toInt ha, nI_toInt hb] at this
  omega
section ORA
variable {ks : Nat → Nat} {qs : List Nat} {T n h0 len : Nat} {σ : zSt} {f : Nat → Int32}
theorem r_isLow (c : Int32) : zF h0 qs ks T (n + 1) 4 [.int c] σ = some (some (.int (b01 (bL c))), σ) := by
  rw [zE_isLow]
  unfold b_isLow bL b01
  by_cases c1 : c < 97
  · simp [c1]
  · by_cases c2 : 122 < c
    · simp [c1, c2]
    · simp [c1, c2]
theorem r_isDigit (c : Int32) : zF h0 qs ks T (n + 1) 5 [.int c] σ = some (some (.int (b01 (bD c))), σ) := by
  rw [zE_isDigit]
  unfold b_isDigit bD b01
  by_cases c1 : c < 48
  · simp [c1]
  · by_cases c2 : 57 < c
    · simp [c1, c2]
    · simp [c1, c2]
theorem r_same {c a l s i : Nat} {k16 : Int32 → Int32 → Int32 → zSt → zRs} {call : zCl} (hc : c < 2010) (hx : σ.2.2.1 1 = f) (hp : σ.2.2.1 4 c = nI a) (hl : a + l ≤ len) (hlen : len ≤ 2000) (hsl : s + l ≤ 120) (hb : ∀ j, j < len → sB (f j)) : ∀ (t q : Nat), q ≤ l → l < q + t → l_isKey_66 T call h0 qs ks k16 (t + 1) (nI c) (nI l) (nI s) (nI i) 1 (nI q) σ = if kSame (fun j => f j &&& 255) s a l t q = true then some (some (.int 1), σ) else k16 (nI c) (nI l) (nI (i + 1)) σ
  | 0, q, _, h => by omega
  | t + 1, q, hq, ht => by
    rw [l_isKey_66, kSame]
    by_cases c1 : q < l
    · have z1 : zin (nI c) 2010 = true := decide_eq_true ⟨by rw [nI_toInt (by omega)]; omega, by rw [nI_toInt (by omega)]; omega⟩
      have z2 : zin (nI (a + q)) 2000 = true := decide_eq_true ⟨by rw [nI_toInt (by omega)]; omega, by rw [nI_toInt (by omega)]; omega⟩
      rw [if_neg (nI_ge c1 (by omega)), if_neg (show ¬ (1 : Int32) = 0 by decide), if_pos c1]
      simp only [zgd, z1, if_true, nI_clamp (show c < 2 ^ 31 by omega), hp, nI_add, z2, zschr_k (ks := ks) (show s + q < 120 by omega), zso, nI_clamp (show a + q < 2 ^ 31 by omega), hx]
      have e := sB_eq (hb (a + q) (by omega)) (kL_lo (s + q) (by omega)).1 (kL_lo (s + q) (by omega)).2
      unfold j_isKey_109
      rw [nI_1]
      by_cases c2 : f (a + q) = kL (s + q)
      · rw [if_pos c2, if_pos (e.mp c2).symm]
        exact r_same hc hx hp hl hlen hsl hb t (q + 1) (by omega) (by omega)
      · have e2 : ¬ kL (s + q) = f (a + q) &&& 255 := fun x => c2 (e.mpr x.symm)
        rw [if_neg c2, if_neg e2, if_neg (show ¬ false = true by decide), l_isKey_66]
        unfold j_isKey_117
        simp only [if_true, ite_self, nI_1]
    · rw [if_pos (nI_le (by omega) (by omega)), if_neg c1]
      unfold j_isKey_117
      rw [if_neg (show ¬ (1 : Int32) = 0 by decide)]
      simp
theorem kKind_out (g : Nat → Int32) (a l k s i : Nat) (hi : 120 ≤ i) : ∀ m, kKind g a l m k s i = 1
  | 0 => by rw [kKind]
  | m + 1 => by rw [kKind, if_neg (by omega)]
theorem nI_k1 (k : Nat) (h1 : 200 ≤ k) (h2 : k < 400) : nI k ≠ 1 := fun h => by
  have : (nI k).toInt = 1 := by rw [h]; rfl
  rw [nI_toInt (by omega)] at this
  omega
theorem kL_end : kL 119 = 32 := by decide +kernel
theorem r_find {c a l : Nat} {call : zCl} (hc : c < 2010) (hx : σ.2.2.1 1 = f) (hp : σ.2.2.1 4 c = nI a) (hl : a + l ≤ len) (hlen : len ≤ 2000) (hT : 2010 ≤ T) (hb : ∀ j, j < len → sB (f j)) : ∀ (M m F k s i : Nat), s ≤ i → i < 120 → 120 ≤ i + M → 120 ≤ i + m → 120 ≤ i + F → 200 ≤ k → k ≤ 200 + i → l_isKey_29 T call h0 qs ks (l_isKey_16 T call h0 qs ks F) m (nI c) (nI l) (nI s) (nI i) σ = some (some (.int (b01 (decide (kKind (fun j => f j &&& 255) a l M k s i ≠ 1)))), σ)
  | 0, m, F, k, s, i, _, _, _, _, _, _, _ => by omega
  | M + 1, 0, F, k, s, i, _, _, _, _, _, _, _ => by omega
  | M + 1, m + 1, F, k, s, i, hs, hi, hM, hm, hF, hk, hk2 => by
    rw [l_isKey_29, kKind, if_pos hi]
    simp only [zschr_k (ks := ks) hi, zso]
    by_cases c1 : kL i = 32
    · rw [if_pos c1, if_pos c1]
      have nx : l_isKey_16 T call h0 qs ks F (nI c) (nI l) (nI (i + 1)) σ = some (some (.int (b01 (decide (kKind (fun j => f j &&& 255) a l M (k + 1) (i + 1) (i + 1) ≠ 1)))), σ) := by
        obtain ⟨F', rfl⟩ : ∃ F', F = F' + 1 := ⟨F - 1, by omega⟩
        rw [l_isKey_16]
        simp only [zslen_k, zso]
        by_cases c3 : i + 1 < 120
        · rw [if_neg (show ¬ (120 : Int32) ≤ nI (i + 1) from nI_ge (b := 120) c3 (by omega))]
          exact r_find hc hx hp hl hlen hT hb M T F' (k + 1) (i + 1) (i + 1) (Nat.le_refl _) c3 (by omega) (by omega) (by omega) (by omega) (by omega)
        · rw [if_pos (show (120 : Int32) ≤ nI (i + 1) from nI_le (a := 120) (by omega) (by omega)), kKind_out _ _ _ _ _ _ (by omega)]
          rfl
      obtain ⟨T', rfl⟩ : ∃ T', T = T' + 3 := ⟨T - 3, by omega⟩
      have e9 : nI i - nI s = nI (i - s) := by
        obtain ⟨d, rfl⟩ : ∃ d, i = s + d := ⟨i - s, by omega⟩
        rw [← nI_add, Nat.add_sub_cancel_left]
        rw [Int32.add_comm, Int32.add_sub_cancel]
      unfold j_isKey_61
      rw [e9]
      by_cases c2 : i - s = l
      · rw [if_pos (by rw [c2])]
        have hr := r_same (T := T' + 3) (k16 := l_isKey_16 (T' + 3) call h0 qs ks F) (call := call) (h0 := h0) (qs := qs) (ks := ks) (i := i) hc hx hp hl hlen (show s + l ≤ 120 by omega) hb (T' + 2) 0 (Nat.zero_le _) (by omega)
        refine hr.trans ?_
        rw [kSame_fuel (T' + 2) l 0 (by omega) (by omega)]
        by_cases c4 : kSame (fun j => f j &&& 255) s a l l 0 = true
        · rw [if_pos c4, if_pos ⟨c2, c4⟩, decide_eq_true (nI_k1 k hk (by omega))]
          rfl
        · rw [if_neg c4, if_neg (fun x => c4 x.2)]
          exact nx
      · have c5 : ¬ nI (i - s) = nI l := fun x => c2 (nI_inj' (by omega) (by omega) x)
        rw [if_neg c5, if_neg (fun x => c2 x.1), l_isKey_66]
        unfold j_isKey_117
        simp only [if_true, ite_self, nI_1]
        exact nx
    · rw [if_neg c1, if_neg c1, nI_1]
      have c9 : i ≠ 119 := fun x => c1 (by rw [x]; exact kL_end)
      exact r_find hc hx hp hl hlen hT hb M m F k s (i + 1) (by omega) (by omega) (by omega) (by omega) (by omega) hk (by omega)
/-- is the word a keyword -/
theorem r_key {c a e : Nat} (hc : c < 2010) (hx : σ.2.2.1 1 = f) (hp : σ.2.2.1 4 c = nI a) (he : σ.2.2.1 5 c = nI e) (hae : a ≤ e) (hel : e ≤ len) (hlen : len ≤ 2000) (hT : 2010 ≤ T) (hb : ∀ j, j < len → sB (f j)) : zF h0 qs ks T (n + 1) 8 [.ref h0, .int (nI c)] σ = some (some (.int (b01 (decide (kKind (fun j => f j &&& 255) a (e - a) T 200 0 0 ≠ 1)))), σ) := by
  have z1 : zin (nI c) 2010 = true := decide_eq_true ⟨by rw [nI_toInt (by omega)]; omega, by rw [nI_toInt (by omega)]; omega⟩
  rw [zE_isKey]
  unfold b_isKey
  simp only [zgd, z1, if_true, nI_clamp (show c < 2 ^ 31 by omega), hp, he]
  have e9 : nI e - nI a = nI (e - a) := by
    obtain ⟨d, rfl⟩ : ∃ d, e = a + d := ⟨e - a, by omega⟩
    rw [← nI_add, Nat.add_sub_cancel_left]
    rw [Int32.add_comm, Int32.add_sub_cancel]
  obtain ⟨T', rfl⟩ : ∃ T', T = T' + 1 := ⟨T - 1, by omega⟩
  rw [e9, l_isKey_16]
  simp only [zslen_k, zso]
  rw [if_neg (show ¬ (120 : Int32) ≤ 0 by decide)]
  exact r_find hc hx hp (by omega) hlen hT hb (T' + 1) (T' + 1) T' 200 0 0 (Nat.le_refl _) (by omega) (by omega) (by omega) (by omega) (by omega) (by omega)
end ORA
