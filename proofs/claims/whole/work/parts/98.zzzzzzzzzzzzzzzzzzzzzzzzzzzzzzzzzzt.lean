/-! type(): words -/
/-- the letters f of i, i + 1 .. (m of them) -/
def tTx (f : Nat → Int32) : Nat → Nat → List Int32
  | 0, _ => []
  | m + 1, i => f i :: tTx f m (i + 1)
theorem tTx_len (f : Nat → Int32) : ∀ m i, (tTx f m i).length = m
  | 0, _ => rfl
  | m + 1, i => by rw [tTx, List.length_cons, tTx_len f m (i + 1)]
theorem tTx_cg {f g : Nat → Int32} : ∀ m i, (∀ j, i ≤ j → j < i + m → f j = g j) → tTx f m i = tTx g m i
  | 0, _, _ => rfl
  | m + 1, i, h => by rw [tTx, tTx, h i (by omega) (by omega), tTx_cg m (i + 1) (fun j h1 h2 => h j (by omega) (by omega))]
theorem zso_ok {v : Int32} (f : Int32 → zRs) : zso (some v) f = f v := rfl
section TSW
variable {κ : oKv} {ks : Nat → Nat} {qs : List Nat} {T n x da0 cap sz r len h0 : Nat} {fs0 : List Value} {σ0 σ : oSt} {τ0 τ : zSt} {L : List Int32} {f : Nat → Int32}
theorem oTx.st (h : oTx κ σ (some r) len f) : ∃ a, oSt' κ σ (some r) = some a := by
  obtain ⟨a, v, h1, -⟩ := h
  exact ⟨a, h1⟩
theorem c_ps2 (H : ∀ L cap σ', cSy x da0 fs0 σ0 L cap σ' → oTx κ σ' (some r) len f) (hn : len < 2 ^ 30) : ∀ (m i F : Nat) (L : List Int32) (cap : Nat) (σ : oSt), i + m = len → m < F → L.length + m < 900000000 → cSy x da0 fs0 σ0 L cap σ → ∃ σ' cap', ol_X12_put_2 T (oF κ T (n + 4)) κ F (some x) (some r) (nI i) σ = some (none, σ') ∧ cSy x da0 fs0 σ0 (L ++ tTx (fun j => f j &&& 255) m i) cap' σ' ∧ cPy σ cap σ' cap'
  | 0, i, F, L, cap, σ, hi, hF, hl, h => by
    obtain ⟨F, rfl⟩ : ∃ u, F = u + 1 := ⟨F - 1, by omega⟩
    obtain ⟨a, ha⟩ := (H _ _ _ h).st
    rw [ol_X12_put_2, ha, obn_at, s_len (n := n + 2) (H _ _ _ h), oin_at, if_pos (nI_le (by omega) (by omega))]
    exact ⟨σ, cap, rfl, by rw [tTx, List.append_nil]; exact h, cPy.rf _ _⟩
  | m + 1, i, F, L, cap, σ, hi, hF, hl, h => by
    obtain ⟨F, rfl⟩ : ∃ u, F = u + 1 := ⟨F - 1, by omega⟩
    obtain ⟨a, ha⟩ := (H _ _ _ h).st
    obtain ⟨σ1, c1, r1, r2, r3⟩ := c_put (κ := κ) (T := T) (n := n + 2) (c := f i &&& 255) h (by omega)
    obtain ⟨σ2, c2, s1, s2, s3⟩ := c_ps2 H hn m (i + 1) F (L ++ [f i &&& 255]) c1 σ1 (by omega) (by omega) (by rw [List.length_append]; show L.length + 1 + m < _; omega) r2
    rw [ol_X12_put_2, ha, obn_at, s_len (n := n + 2) (H _ _ _ h), oin_at, if_neg (nI_ge (by omega) (by omega)), ha, obn_at, s_chr (n := n) (H _ _ _ h) (by omega), oin_at, h.ob, obn_at, r1, ocv_at, nI_p1, s1]
    rw [List.append_assoc] at s2
    exact ⟨σ2, c2, rfl, s2, cPy.tr r3 s3⟩
/-- **put() of a text (182)** -/
theorem c_putS (H : ∀ L cap σ', cSy x da0 fs0 σ0 L cap σ' → oTx κ σ' (some r) len f) (hn : len < 2 ^ 30) (hT : len < T) (hl : L.length + len < 900000000) (h : cSy x da0 fs0 σ0 L cap σ) : ∃ σ' cap', oF κ T (n + 5) 182 [va_rf (some x), va_rf (some r)] σ = some (none, σ') ∧ cSy x da0 fs0 σ0 (L ++ tTx (fun j => f j &&& 255) len 0) cap' σ' ∧ cPy σ cap σ' cap' := by
  rw [oE_X12_put]
  unfold ob_X12_put
  exact c_ps2 H hn len 0 T L cap σ (by omega) hT hl h
/-- a word of the class -/
theorem c_putK {i : Nat} (hf : lFacts κ ks sz) (hi : i < 17) (hlow : ∀ a, a < sz → σ0.1 a = none) (hsz : sz ≤ σ0.2.1) (hx : sz ≤ x) (hd : sz ≤ da0) (hT : 1000 ≤ T) (hl : L.length < 880000000) (h : cSy x da0 fs0 σ0 L cap σ) : ∃ σ' cap', oF κ T (n + 5) 182 [va_rf (some x), va_rf (some (κ.1 i))] σ = some (none, σ') ∧ cSy x da0 fs0 σ0 (L ++ tTx (fun j => zch (oktx i) j &&& 255) (oktx i).toList.length 0) cap' σ' ∧ cPy σ cap σ' cap' := by
  have hk := oktx_len i hi
  refine c_putS (fun L' cap' σ' h' => oTx_const hf (fun a ha => ?_) hi) (by omega) (by omega) (by omega) h
  obtain ⟨fs, da, g, -, -, -, h4, -⟩ := h'
  rw [h4 a (by omega) (by omega) (by omega)]
  exact hlow a ha
theorem r_sw2 {q : Nat × String} (hf : lFacts κ ks sz) (hq : q ∈ zKm) (hn : q.2.toList.length < 2 ^ 30) : ∀ (m i F : Nat) (L : List Int32) (τ : zSt), i + m = q.2.toList.length → m < F → L.length + m < 900000000 → rSy τ0 L τ → ∃ τ', l_sayWord_2 T (zF h0 qs ks T (n + 1)) h0 qs ks F (ks q.1) (nI i) τ = some (none, τ') ∧ rSy τ0 (L ++ tTx (zch q.2) m i) τ'
  | 0, i, F, L, τ, hi, hF, hl, h => by
    obtain ⟨F, rfl⟩ : ∃ u, F = u + 1 := ⟨F - 1, by omega⟩
    rw [l_sayWord_2, zslen_m hf hq, zso_ok, if_pos (nI_le (by omega) (by omega))]
    exact ⟨τ, rfl, by rw [tTx, List.append_nil]; exact h⟩
  | m + 1, i, F, L, τ, hi, hF, hl, h => by
    obtain ⟨F, rfl⟩ : ∃ u, F = u + 1 := ⟨F - 1, by omega⟩
    obtain ⟨τ1, r1, r2⟩ := r_say (h0 := h0) (qs := qs) (ks := ks) (T := T) (n := n) (c := zch q.2 i) h (by omega)
    obtain ⟨τ2, s1, s2⟩ := r_sw2 hf hq hn m (i + 1) F (L ++ [zch q.2 i]) τ1 (by omega) (by omega) (by rw [List.length_append]; show L.length + 1 + m < _; omega) r2
    rw [l_sayWord_2, zslen_m hf hq, zso_ok, if_neg (nI_ge (by omega) (by omega)), zschr_m hf hq (by omega), zso_ok, r1, zcv_at, nI_p1, s1]
    rw [List.append_assoc] at s2
    exact ⟨τ2, rfl, s2⟩
/-- **sayWord() (113)** -/
theorem r_sayW {q : Nat × String} (hf : lFacts κ ks sz) (hq : q ∈ zKm) (hn : q.2.toList.length < 1000) (hT : 1000 ≤ T) (hl : L.length < 880000000) (h : rSy τ0 L τ) : ∃ τ', zF h0 qs ks T (n + 2) 113 [.ref h0, .ref (ks q.1)] τ = some (none, τ') ∧ rSy τ0 (L ++ tTx (zch q.2) q.2.toList.length 0) τ' := by
  rw [zE_sayWord]
  unfold b_sayWord
  exact r_sw2 hf hq (by omega) _ 0 T L τ (by omega) (by omega) (by omega) h
end TSW
