/-! the Checker's constructor -/
section CKI
variable {κ : oKv} {T n p : Nat} {σ : oSt} {fs : List Value}
theorem ck_lst {k : Nat} (hp : σ.1 p = some (.inr (2, fs))) (hl : fs.length = 10) (hk : k < 10) (hlt : p < σ.2.1) : ∃ σ1 σ', oF κ T (n + 3) 224 [va_rf (some σ.2.1)] (onew σ (.inr (1, odef 1)) 3) = some (none, σ1) ∧ opf σ1 (some p) 2 k (va_rf (some σ.2.1)) = some σ' ∧ σ'.1 p = some (.inr (2, fs.set k (.ref σ.2.1))) ∧ σ'.1 σ.2.1 = some (.inr (1, [.int 0, .ref κ.2.2.1, .int 0])) ∧ (∀ a, a ≠ p → a ≠ σ.2.1 → σ'.1 a = σ.1 a) ∧ σ'.2 = (σ.2.1 + 1, σ.2.2.1 + 1, σ.2.2.2 + 3) := by
  have e := l_init (κ := κ) (T := T) (n := n) (x := σ.2.1) (σ := onew σ (.inr (1, odef 1)) 3) (onew_eq _ _ _)
  have hp' : (oput (onew σ (.inr (1, odef 1)) 3) σ.2.1 (.inr (1, [.int 0, .ref κ.2.2.1, .int 0]))).1 p = some (.inr (2, fs)) := (oput_ne (by omega)).trans ((onew_ne (by omega)).trans hp)
  refine ⟨_, _, e, opf_at hp' (by omega), oput_eq _ _ _, (oput_ne (by omega)).trans (oput_eq _ _ _), fun a h1 h2 => (oput_ne h1).trans ((oput_ne h2).trans (onew_ne h2)), rfl⟩
theorem odef_2 : odef 2 = [.null, .null, .null, .null, .null, .null, .null, .null, .int 0, .int 0] := by decide +kernel
theorem oq_2 : (oq 2).2.2 = 10 := by decide +kernel
/-- **the Checker's constructor** -/
theorem c_chk {pg ty j : Nat} (hfr : ∀ q, σ.2.1 ≤ q → σ.1 q = none) : ∃ σ', oF κ T (n + 4) 0 [va_rf (some σ.2.1), va_rf (some pg), va_rf (some ty), va_rf (some j)] (onew σ (.inr (2, odef 2)) 10) = some (none, σ') ∧ σ'.1 σ.2.1 = some (.inr (2, [.ref pg, .ref ty, .ref j, .ref (σ.2.1 + 1), .ref (σ.2.1 + 2), .ref (σ.2.1 + 3), .ref (σ.2.1 + 4), .ref (σ.2.1 + 5), .int 0, .int (-1)])) ∧ (∀ i, i < 4 → σ'.1 (σ.2.1 + 1 + i) = some (.inr (1, [.int 0, .ref κ.2.2.1, .int 0]))) ∧ σ'.1 (σ.2.1 + 5) = some (.inl (.object "LiquidTongue$Name", 73, .inr (.inr (.inr (.inr (fun _ => none)))))) ∧ (∀ a, a < σ.2.1 → σ'.1 a = σ.1 a) ∧ (∀ q, σ'.2.1 ≤ q → σ'.1 q = none) ∧ σ'.2 = (σ.2.1 + 6, σ.2.2.1 + 6, σ.2.2.2 + 95) := by
  obtain ⟨σ0, h0⟩ : ∃ σ0, σ0 = onew σ (.inr (2, odef 2)) 10 := ⟨_, rfl⟩
  have c0 : σ0.1 σ.2.1 = some (.inr (2, odef 2)) := by rw [h0]; exact onew_eq _ _ _
  have a0 : ∀ a, a ≠ σ.2.1 → σ0.1 a = σ.1 a := fun a h => by rw [h0]; exact onew_ne h
  have s0 : σ0.2 = (σ.2.1 + 1, σ.2.2.1 + 1, σ.2.2.2 + 10) := by rw [h0]; rfl
  have n0 : σ0.2.1 = σ.2.1 + 1 := by rw [s0]
  rw [← h0]
  have ldef : (odef 2).length = 10 := by rw [odef_2]; rfl
  obtain ⟨σ1, σ2, r1, r2, r3, r4, r5, r6⟩ := ck_lst (κ := κ) (T := T) (n := n) (k := 3) c0 ldef (by decide) (by omega)
  have n2 : σ2.2.1 = σ.2.1 + 2 := by rw [r6, n0]
  obtain ⟨σ3, σ4, t1, t2, t3, t4, t5, t6⟩ := ck_lst (κ := κ) (T := T) (n := n) (k := 4) r3 (by rw [List.length_set]; exact ldef) (by decide) (by omega)
  have n4 : σ4.2.1 = σ.2.1 + 3 := by rw [t6, n2]
  obtain ⟨σ5, σ6, u1, u2, u3, u4, u5, u6⟩ := ck_lst (κ := κ) (T := T) (n := n) (k := 5) t3 (by rw [List.length_set, List.length_set]; exact ldef) (by decide) (by omega)
  have n6 : σ6.2.1 = σ.2.1 + 4 := by rw [u6, n4]
  obtain ⟨σ7, σ8, v1, v2, v3, v4, v5, v6⟩ := ck_lst (κ := κ) (T := T) (n := n) (k := 6) u3 (by rw [List.length_set, List.length_set, List.length_set]; exact ldef) (by decide) (by omega)
  have n8 : σ8.2.1 = σ.2.1 + 5 := by rw [v6, n6]
  have l8 : ((((odef 2).set 3 (.ref σ0.2.1)).set 4 (.ref σ2.2.1)).set 5 (.ref σ4.2.1)).set 6 (.ref σ6.2.1) = [.null, .null, .null, .ref (σ.2.1 + 1), .ref (σ.2.1 + 2), .ref (σ.2.1 + 3), .ref (σ.2.1 + 4), .null, .int 0, .int 0] := by
    rw [odef_2, n0, n2, n4, n6]; rfl
  rw [l8] at v3
  have e73 : (73 : Int32).toNatClampNeg = 73 := by decide
  obtain ⟨σ9, h9⟩ : ∃ σ9, σ9 = onew σ8 (.inl (.object (oq 6).1, (73 : Int32).toNatClampNeg, .inr (.inr (.inr (.inr (fun _ => none)))))) (73 : Int32).toNatClampNeg := ⟨_, rfl⟩
  have c9 : σ9.1 σ.2.1 = some (.inr (2, [.null, .null, .null, .ref (σ.2.1 + 1), .ref (σ.2.1 + 2), .ref (σ.2.1 + 3), .ref (σ.2.1 + 4), .null, .int 0, .int 0])) := by rw [h9, onew_ne (by omega)]; exact v3
  have s9 : σ9.2 = (σ.2.1 + 6, σ.2.2.1 + 6, σ.2.2.2 + 95) := by
    rw [h9]
    show (σ8.2.1 + 1, σ8.2.2.1 + 1, σ8.2.2.2 + (73 : Int32).toNatClampNeg) = _
    rw [e73, v6, u6, t6, r6, s0]
  obtain ⟨σF, hF⟩ : ∃ σF, σF = oput σ9 σ.2.1 (.inr (2, [.ref pg, .ref ty, .ref j, .ref (σ.2.1 + 1), .ref (σ.2.1 + 2), .ref (σ.2.1 + 3), .ref (σ.2.1 + 4), .ref (σ.2.1 + 5), .int 0, .int (-1)])) := ⟨_, rfl⟩
  have eF : ∀ a, a ≠ σ.2.1 → σF.1 a = σ9.1 a := fun a h => by rw [hF]; exact oput_ne h
  refine ⟨σF, ?_, by rw [hF]; exact oput_eq _ _ _, fun i hi => ?_, ?_, fun a ha => ?_, fun q hq => ?_, by rw [hF]; exact s9⟩
  · rw [oE_X0_init]
    unfold ob_X0_init
    rw [obn_at, oq_1, olet_at, obn_at, r1, ocv_at, r2, obn_at, olet_at, obn_at, t1, ocv_at, t2, obn_at, olet_at, obn_at, u1, ocv_at, u2, obn_at, olet_at, obn_at, v1, ocv_at, v2, obn_at, ogd_at (by decide), olet_at, ← h9, opf_at c9 (by simp), obn_at, opf_at (oput_eq _ _ _) (by simp), obn_at, oput_oput, opf_at (oput_eq _ _ _) (by simp), obn_at, oput_oput, opf_at (oput_eq _ _ _) (by simp), obn_at, oput_oput, opf_at (oput_eq _ _ _) (by simp), obn_at, oput_oput, n8, hF]
    rfl
  · have : i = 0 ∨ i = 1 ∨ i = 2 ∨ i = 3 := by omega
    rw [eF _ (by omega), h9, onew_ne (by omega)]
    rcases this with rfl | rfl | rfl | rfl
    · rw [v5 _ (by omega) (by omega), u5 _ (by omega) (by omega), t5 _ (by omega) (by omega), show σ.2.1 + 1 + 0 = σ0.2.1 by omega]; exact r4
    · rw [v5 _ (by omega) (by omega), u5 _ (by omega) (by omega), show σ.2.1 + 1 + 1 = σ2.2.1 by omega]; exact t4
    · rw [v5 _ (by omega) (by omega), show σ.2.1 + 1 + 2 = σ4.2.1 by omega]; exact u4
    · rw [show σ.2.1 + 1 + 3 = σ6.2.1 by omega]; exact v4
  · rw [eF _ (by omega), h9, show σ.2.1 + 5 = σ8.2.1 by omega, onew_eq, oq_6n, e73]
  · rw [eF _ (by omega), h9, onew_ne (by omega), v5 _ (by omega) (by omega), u5 _ (by omega) (by omega), t5 _ (by omega) (by omega), r5 _ (by omega) (by omega), a0 _ (by omega)]
  · have hq : σ9.2.1 ≤ q := by rw [hF] at hq; exact hq
    rw [s9] at hq
    have hq : σ.2.1 + 6 ≤ q := hq
    rw [eF _ (by omega), h9, onew_ne (by omega), v5 _ (by omega) (by omega), u5 _ (by omega) (by omega), t5 _ (by omega) (by omega), r5 _ (by omega) (by omega), a0 _ (by omega)]
    exact hfr q (by omega)
end CKI
