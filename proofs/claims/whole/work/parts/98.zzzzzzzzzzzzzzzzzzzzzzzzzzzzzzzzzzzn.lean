/-! type(): how it begins, the class -/
section TSB
variable {κ : oKv} {ks : Nat → Nat} {wd : Nat → List Int32} {bk : gN → Nat} {sy : gTy → List gFc} {T n x nl sz k w da d cap cl len ci : Nat} {lo : Nat × (Nat → Prop)} {na : gN → Nat} {Nm : gN → Prop} {σ u : oSt} {s : tPs} {G : List (Nat × kTe)} {A : gTy} {mc : Int32} {g : Nat → Option Nat}
theorem osr_nul {C : String} {N i : Nat} {f : Nat → Option Nat} (h : σ.1 d = some (.inl (.object C, N, .inr (.inr (.inr (.inr f)))))) (hi : i < N) (hN : N < 2 ^ 31) : osr σ (some d) (nI i) none = some (oput σ d (.inl (.object C, N, .inr (.inr (.inr (.inr (va_up f i none))))))) := by
  have zi : zin (nI i) N = true := zin_n hi hN
  simp only [osr, h, if_pos zi, nI_clamp (show i < 2 ^ 31 by omega)]
theorem l_cl27 {call : oCl} {C : String} {N : Nat} (hN : N < 2 ^ 31) (hl : len ≤ N) : ∀ (m i F : Nat) (f : Nat → Option Nat) (σ : oSt), i + m = len → m < F → σ.1 d = some (.inl (.object C, N, .inr (.inr (.inr (.inr f))))) → ∃ u f', ol_Jx4a65c_clear_da8c8_27 T call κ F (some d) (nI len) (nI i) σ = some (none, u) ∧ u.1 d = some (.inl (.object C, N, .inr (.inr (.inr (.inr f'))))) ∧ (∀ q, q ≠ d → u.1 q = σ.1 q) ∧ u.2 = σ.2
  | 0, i, F, f, σ, hi, hF, h => by
    obtain ⟨F, rfl⟩ : ∃ u, F = u + 1 := ⟨F - 1, by omega⟩
    rw [ol_Jx4a65c_clear_da8c8_27, if_pos (nI_le (by omega) (by omega))]
    exact ⟨σ, f, rfl, h, fun _ _ => rfl, rfl⟩
  | m + 1, i, F, f, σ, hi, hF, h => by
    obtain ⟨F, rfl⟩ : ∃ u, F = u + 1 := ⟨F - 1, by omega⟩
    obtain ⟨u, f', r1, r2, r3, r4⟩ := l_cl27 (call := call) hN hl m (i + 1) F _ _ (by omega) (by omega) (oput_eq σ d (.inl (.object C, N, .inr (.inr (.inr (.inr (va_up f i none)))))))
    rw [ol_Jx4a65c_clear_da8c8_27, if_neg (nI_ge (by omega) (by omega)), osr_nul h (by omega) hN, obn_at, nI_p1, r1]
    exact ⟨u, f', rfl, r2, fun q hq => (r3 q hq).trans (oput_ne hq), r4.trans rfl⟩
/-- **clear() (237)** -/
theorem l_clear (hT : len < T) (hc : cl ≤ 3690) (h : cLs κ σ nl d cl len mc g ci) (hd : d ≠ nl) : ∃ u g', oF κ T (n + 1) 237 [va_rf (some nl)] σ = some (none, u) ∧ cLs κ u nl d cl 0 (mc + 1) g' ci ∧ (∀ q, q ≠ nl → (q ≠ d ∨ σ.1 q = none) → u.1 q = σ.1 q) ∧ u.2 = σ.2 := by
  obtain ⟨h1, h2, h3⟩ := h
  have e0 : ovi (ofd σ (some nl) 1 0) = some mc := by rw [ofd_at h1]; rfl
  have x1 : (oput σ nl (.inr (1, [.int (mc + 1), .ref d, .int (nI len)]))).1 nl = some (.inr (1, [.int (mc + 1), .ref d, .int (nI len)])) := oput_eq _ _ _
  have p1 : opf σ (some nl) 1 0 (.int (mc + 1)) = some (oput σ nl (.inr (1, [.int (mc + 1), .ref d, .int (nI len)]))) := opf_at h1 (show 0 < 3 by decide)
  have e1 : ovr (ofd (oput σ nl (.inr (1, [.int (mc + 1), .ref d, .int (nI len)]))) (some nl) 1 1) = some (some d) := by rw [ofd_at x1]; rfl
  have e2 : ovi (ofd (oput σ nl (.inr (1, [.int (mc + 1), .ref d, .int (nI len)]))) (some nl) 1 2) = some (nI len) := by rw [ofd_at x1]; rfl
  have p2 : opf (oput σ nl (.inr (1, [.int (mc + 1), .ref d, .int (nI len)]))) (some nl) 1 2 (.int 0) = some (oput (oput σ nl (.inr (1, [.int (mc + 1), .ref d, .int (nI len)]))) nl (.inr (1, [.int (mc + 1), .ref d, .int 0]))) := opf_at x1 (show 2 < 3 by decide)
  rw [oE_Jx4a65c_clear_da8c8]
  unfold ob_Jx4a65c_clear_da8c8
  rw [e0, obn_at, p1, obn_at, e1, obn_at, e2, obn_at, p2, obn_at]
  generalize hσ2 : oput (oput σ nl (.inr (1, [.int (mc + 1), .ref d, .int (nI len)]))) nl (.inr (1, [.int (mc + 1), .ref d, .int 0])) = σ2
  have s1 : σ2.1 nl = some (.inr (1, [.int (mc + 1), .ref d, .int 0])) := by rw [← hσ2]; exact oput_eq _ _ _
  have s2 : ∀ q, q ≠ nl → σ2.1 q = σ.1 q := fun q hq => by rw [← hσ2, oput_ne hq, oput_ne hq]
  have s3 : σ2.2 = σ.2 := by rw [← hσ2]; rfl
  rcases h2 with ⟨m1, m2, m3, m4⟩ | ⟨m1, m2, m3⟩
  · obtain ⟨T, rfl⟩ : ∃ t, T = t + 1 := ⟨T - 1, by omega⟩
    rw [ol_Jx4a65c_clear_da8c8_27, if_pos (by rw [m1]; decide)]
    exact ⟨σ2, g, rfl, ⟨s1, Or.inl ⟨rfl, m2, m3, (s2 d hd).trans m4⟩, fun j hj => absurd hj (Nat.not_lt_zero _)⟩, fun q q1 _ => s2 q q1, s3⟩
  · obtain ⟨u, f', r1, r2, r3, r4⟩ := l_cl27 (κ := κ) (T := T) (call := oF κ T n) (N := cl) (len := len) (by omega) m2 len 0 T g σ2 (by omega) hT ((s2 d hd).trans m1)
    refine ⟨u, f', r1, ⟨(r3 nl (fun z => hd z.symm)).trans s1, Or.inr ⟨r2, Nat.zero_le _, m3⟩, fun j hj => absurd hj (Nat.not_lt_zero _)⟩, fun q q1 q2 => ?_, r4.trans s3⟩
    rw [r3 q (fun z => by
      rcases q2 with q2 | q2
      · exact q2 z
      · rw [z, m1] at q2; cases q2)]
    exact s2 q q1
/-- **tell() (188)** -/
theorem p_tell (hT : 100100 ≤ T) (hin : ∀ a b, Nm a → Nm b → na a = na b → a = b) (hNm : ∀ D : List gN, D.Nodup → (∀ b, b ∈ D → Nm b) → D.length ≤ 1500) (hw : ∀ w, (wd w).length ≤ 3000) {y : tY} (hy : tSz y ≤ 120) (hy2 : yLv y ≤ 60) (h : tSt κ ks wd bk Nm T sz x nl na ([], []) cap da d cl σ) (hk : kPk lo σ k w G (cKd (yK y))) (hO : tOr na Nm sy lo σ G y A w) : ∃ u cap' da' d' cl', oF κ T (n + 131) 188 [va_rf (some x), va_rf (some k), .int 0] σ = some (none, u) ∧ tSt κ ks wd bk Nm T sz x nl na (tTy wd bk sy y A ([], [])) cap' da' d' cl' u ∧ tFww x nl da d σ da' d' u ∧ cPyw σ cap cl u cap' cl' (2 * tSz y) := by
  rw [oE_X12_tell]
  unfold ob_X12_tell
  have l0 : (([], []) : tPs).1.length = 0 := rfl
  exact p_tl5 hT hin hNm hw (tSz y + 1) y (n + 130) T 0 0 A k w ([], []) cap da d cl σ (by omega) (by omega) (by omega) (by omega) (by omega) (by omega) h hk hO
end TSB
