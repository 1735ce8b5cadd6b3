/-! type(): how a leaf ends, the reference -/
theorem rW_k : ((489, "array") ∈ zKm ∧ "array".toList.length < 1000 ∧ tTx (zch "array") "array".toList.length 0 = tKw 2) ∧ ((491, "list") ∈ zKm ∧ "list".toList.length < 1000 ∧ tTx (zch "list") "list".toList.length 0 = tKw 3) ∧ ((493, "int") ∈ zKm ∧ "int".toList.length < 1000 ∧ tTx (zch "int") "int".toList.length 0 = tKw 0) ∧ ((522, "bool") ∈ zKm ∧ "bool".toList.length < 1000 ∧ tTx (zch "bool") "bool".toList.length 0 = tKw 1) := by decide +kernel
section TRE
variable {g : gN → Nat} {Nm : gN → Prop} {ks : Nat → Nat} {qs : List Nat} {T n h0 sz t : Nat} {κ : oKv} {τ0 τ : zSt} {s : tPs}
theorem s_y315 (hf : lFacts κ ks sz) (hT : 2100 ≤ T) (ht : t < 40000) (h : rTp g Nm τ0 s τ) (hl : s.1.length < 870000000) : ∃ τ', j_sayType_315 T (zF h0 qs ks T (n + 2)) h0 qs ks (nI t) τ = some (none, τ') ∧ rTp g Nm τ0 (s.1 ++ tKw (if τ0.2.2.1 42 t = 3 then 2 else if τ0.2.2.1 42 t = 5 then 3 else 0), s.2) τ' := by
  have a42 : τ.2.2.1 42 = τ0.2.2.1 42 := h.2.2.2.2.1 42 (by decide) (by decide)
  unfold j_sayType_315
  rw [zgd_at (zin_n ht (by decide)), nI_clamp (by omega), a42]
  by_cases c1 : τ0.2.2.1 42 t = 3
  · obtain ⟨τ1, r1, r2⟩ := s_wrd (h0 := h0) (qs := qs) (T := T) (n := n) hf rW_k.1.1 rW_k.1.2.1 (by omega) h (by omega)
    rw [rW_k.1.2.2] at r2
    rw [if_pos c1, r1, zcv_at, if_pos c1]
    exact ⟨τ1, rfl, r2⟩
  · rw [if_neg c1, zgd_at (zin_n ht (by decide)), if_neg c1]
    by_cases c2 : τ0.2.2.1 42 t = 5
    · obtain ⟨τ1, r1, r2⟩ := s_wrd (h0 := h0) (qs := qs) (T := T) (n := n) hf rW_k.2.1.1 rW_k.2.1.2.1 (by omega) h (by omega)
      rw [rW_k.2.1.2.2] at r2
      rw [if_pos c2, r1, zcv_at, if_pos c2]
      exact ⟨τ1, rfl, r2⟩
    · obtain ⟨τ1, r1, r2⟩ := s_wrd (h0 := h0) (qs := qs) (T := T) (n := n) hf rW_k.2.2.1.1 rW_k.2.2.1.2.1 (by omega) h (by omega)
      rw [rW_k.2.2.1.2.2] at r2
      rw [if_neg c2, r1, zcv_at, if_neg c2]
      exact ⟨τ1, rfl, r2⟩
/-- b: no FACT was said -/
theorem s_y305 {b : Bool} (hf : lFacts κ ks sz) (hT : 2100 ≤ T) (ht : t < 40000) (h : rTp g Nm τ0 s τ) (hl : s.1.length < 860000000) : ∃ τ', j_sayType_305 T (zF h0 qs ks T (n + 2)) h0 qs ks (nI t) (b01 b) τ = some (none, τ') ∧ rTp g Nm τ0 ((s.1 ++ (if b = true then [] else [125])) ++ tKw (if τ0.2.2.1 42 t = 3 then 2 else if τ0.2.2.1 42 t = 5 then 3 else 0), s.2) τ' := by
  unfold j_sayType_305
  cases b with
  | true =>
    rw [if_neg (by decide), if_pos rfl, List.append_nil]
    exact s_y315 hf hT ht h (by omega)
  | false =>
    obtain ⟨τ1, r1, r2⟩ := s_put (h0 := h0) (qs := qs) (ks := ks) (T := T) (n := n + 1) (c := 125) h (by omega)
    rw [if_pos (by decide), r1, zcv_at, if_neg (by decide)]
    exact s_y315 hf hT ht r2 (by show (s.1 ++ [125]).length < _; rw [List.length_append]; show s.1.length + 1 < _; omega)
/-- bool -/
theorem s_ybo (hf : lFacts κ ks sz) (hT : 2100 ≤ T) (ht : t < 40000) (h42 : τ0.2.2.1 42 t = 2) (h : rTp g Nm τ0 s τ) (hl : s.1.length < 860000000) : ∃ τ', zF h0 qs ks T (n + 3) 117 [.ref h0, .int (nI t)] τ = some (none, τ') ∧ rTp g Nm τ0 (s.1 ++ tKw 1, s.2) τ' := by
  have a42 : τ.2.2.1 42 = τ0.2.2.1 42 := h.2.2.2.2.1 42 (by decide) (by decide)
  obtain ⟨τ1, r1, r2⟩ := s_wrd (h0 := h0) (qs := qs) (T := T) (n := n) hf rW_k.2.2.2.1 rW_k.2.2.2.2.1 (by omega) h (by omega)
  rw [rW_k.2.2.2.2.2] at r2
  rw [zE_sayType]
  unfold b_sayType
  rw [zgd_at (zin_n ht (by decide)), nI_clamp (by omega), a42, if_pos h42, r1, zcv_at]
  exact ⟨τ1, rfl, r2⟩
end TRE
