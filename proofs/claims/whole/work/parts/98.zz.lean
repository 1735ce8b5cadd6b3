/-! the class's parser: beFunction -/
section CQM
variable {κ : oKv} {sz T n m len cnt : Nat} {kk pp ee f : Nat → Int32} {A : Nat → Nat} {nq ni : Int32} {rt : Value} {σ σ' : oSt} {D : cDt} {at' cd : Nat} {cn am bd nf ff : Int32}
theorem l_sz {x d cap q ci : Nat} {mc : Int32} {g : Nat → Option Nat} (h : cLs κ σ x d cap q mc g ci) : oF κ T (n + 1) 236 [va_rf (some x)] σ = some (some (.int (nI q)), σ) := by
  have f2 : ofd σ (some x) 1 2 = some (.int (nI q)) := by rw [ofd_at h.1]; rfl
  rw [oE_Jx4a65c_size_8abf5]
  simp only [ob_Jx4a65c_size_8abf5, f2, ovi, obn]
set_option maxHeartbeats 1000000 in
theorem c_befun {e0 : Nat} {fs : List Value} (h : cV κ sz len cnt kk pp ee f A nq ni rt σ D at' cd cn am bd nf ff) (he : σ.1 e0 = some (.inr (7, fs))) (hfs : fs.length = 21) (hq : D.1.2.2.2.2.2 + 1 ≤ at') (hm : 6 ≤ m) : ∃ σ' D' pa, oF κ T (m + 1) 131 [va_rf (some (A 0)), va_rf (some e0)] σ = some (none, σ') ∧ cV κ sz len cnt kk pp ee f A nq ni rt σ' D' at' cd cn am bd nf ff ∧ (D'.1.2.2.2.2 = (D.1.2.2.2.2.1, D.1.2.2.2.2.2 + 1) ∧ D'.2.1 = D.2.1 ∧ D'.2.2.1 = D.2.2.1) ∧ ((∀ j, j < D.1.2.2.2.2.2 → D'.2.2.2 j = D.2.2.2 j) ∧ D'.2.2.2 D.1.2.2.2.2.2 = some e0) ∧ (σ'.1 e0 = some (.inr (7, (fs.set 7 (.int (nI D.1.2.2.2.2.2))).set 11 (.ref pa))) ∧ σ'.1 pa = some (.inr (1, [.int 0, .ref κ.2.2.1, .int 0])) ∧ σ.2.1 ≤ pa ∧ pa < σ'.2.1) ∧ (σ.2.1 ≤ σ'.2.1 ∧ (∀ a, a < σ.2.1 → ¬ cMu A D a → a ≠ e0 → σ'.1 a = σ.1 a) ∧ (D'.1.1 = D.1.1 ∨ σ.2.1 ≤ D'.1.1) ∧ (D'.1.2.1 = D.1.2.1 ∨ σ.2.1 ≤ D'.1.2.1)) ∧ (σ'.2.2.1 ≤ σ.2.2.1 + 2 ∧ σ'.2.2.2 + 4 * D.1.2.2.1 + 4 * D.1.2.2.2.1 ≤ σ.2.2.2 + 3 + 4 * D'.1.2.2.1 + 4 * D'.1.2.2.2.1) := by
  have lowσ : κ.2.2.1 < sz := h.1.1.2.2.2
  obtain ⟨mc, hF⟩ := h.1.2.2.2.1.2.1
  have le0 : e0 < σ.2.1 := alt h.1.1.1 he
  rw [oE_X7_beFunction]
  unfold ob_X7_beFunction
  have f3 : ofd σ (some (A 0)) 9 3 = some (.ref (A 9)) := by rw [ofd_at h.2.1]; rfl
  obtain ⟨m1, hm1⟩ : ∃ m1, m = m1 + 3 := ⟨m - 3, by omega⟩
  have SZ := l_sz (κ := κ) (T := T) (n := m1 + 2) hF
  rw [show m1 + 2 + 1 = m by omega] at SZ
  rw [f3, ovr_rf, obn_at, oob_at hF.1, obn_at, SZ, oin_at, opf_at he (by rw [hfs]; decide), obn_at]
  have v1 := h.fl (fs' := fs.set 7 (.int (nI D.1.2.2.2.2.2))) he (by omega)
  have e1 : (oput σ e0 (.inr (7, fs.set 7 (.int (nI D.1.2.2.2.2.2))))).1 e0 = some (.inr (7, fs.set 7 (.int (nI D.1.2.2.2.2.2)))) := oput_eq _ _ _
  have k1 : ∀ a, a ≠ e0 → (oput σ e0 (.inr (7, fs.set 7 (.int (nI D.1.2.2.2.2.2))))).1 a = σ.1 a := fun a ha => oput_ne ha
  have z1 : (oput σ e0 (.inr (7, fs.set 7 (.int (nI D.1.2.2.2.2.2))))).2 = σ.2 := rfl
  generalize oput σ e0 (.inr (7, fs.set 7 (.int (nI D.1.2.2.2.2.2)))) = σ1 at v1 e1 k1 z1 ⊢
  have z11 : σ1.2.1 = σ.2.1 := by rw [z1]
  have ne9 : A 9 ≠ e0 := fun z => by have w := hF.1; rw [z, he] at w; cases w
  have ned : D.1.2.1 ≠ e0 := fun z => by
    rcases hF.2.1 with ⟨-, -, -, w⟩ | ⟨w, -⟩
    · rw [z, he] at w; cases w
    · rw [z, he] at w; cases w
  have F1 := hF.keep (k1 _ ne9) (k1 _ ned) (fun a gs ea => by
    by_cases c : a = e0
    · rw [c]; exact ⟨_, e1⟩
    · exact ⟨gs, by rw [k1 a c]; exact ea⟩)
  have f3' : ofd σ1 (some (A 0)) 9 3 = some (.ref (A 9)) := by rw [ofd_at v1.2.1]; rfl
  obtain ⟨σ2, D', w1, w2, w3, w4, w5, ⟨w6, w6b⟩, ⟨w8, w9⟩, ⟨w10, w11⟩⟩ := c_fadd (κ := κ) (T := T) (n := m) v1 e1 hm
  rw [f3', ovr_rf, obn_at, oob_at F1.1, obn_at, w1, oin_at]
  have v2 : cV κ sz len cnt kk pp ee f A nq ni rt σ2 D' at' cd cn am bd nf ff := by
    refine ⟨w2, w3.trans v1.2.1, v1.2.2.1, v1.2.2.2.1, ?_, ?_⟩
    · have := v1.2.2.2.2.1; rw [w6]; exact this
    · rw [w6]; exact hq
  have e2 := v1.kd w4 e1 (by omega)
  have w41 := w4.1
  -- the list of its NAMES
  rw [olet_at, oq_1, obn_at]
  obtain ⟨v3, r3⟩ := v2.nw (.inr (1, odef 1)) 3
  have e3 : (onew σ2 (.inr (1, odef 1)) 3).1 σ2.2.1 = some (.inr (1, odef 1)) := onew_eq _ _ _
  have k3 : ∀ a, a ≠ σ2.2.1 → (onew σ2 (.inr (1, odef 1)) 3).1 a = σ2.1 a := fun a ha => onew_ne ha
  have z3 : (onew σ2 (.inr (1, odef 1)) 3).2 = (σ2.2.1 + 1, σ2.2.2.1 + 1, σ2.2.2.2 + 3) := rfl
  generalize onew σ2 (.inr (1, odef 1)) 3 = σ3 at v3 r3 e3 k3 z3 ⊢
  have z31 : σ3.2.1 = σ2.2.1 + 1 := by rw [z3]
  rw [hm1, l_init e3, ocv_at]
  have e4 : (oput σ3 σ2.2.1 (.inr (1, [.int 0, .ref κ.2.2.1, .int 0]))).1 σ2.2.1 = some (.inr (1, [.int 0, .ref κ.2.2.1, .int 0])) := oput_eq _ _ _
  have k4 : ∀ a, a ≠ σ2.2.1 → (oput σ3 σ2.2.1 (.inr (1, [.int 0, .ref κ.2.2.1, .int 0]))).1 a = σ2.1 a := fun a ha => by rw [oput_ne ha]; exact k3 a ha
  have z4 : (oput σ3 σ2.2.1 (.inr (1, [.int 0, .ref κ.2.2.1, .int 0]))).2 = (σ2.2.1 + 1, σ2.2.2.1 + 1, σ2.2.2.2 + 3) := z3
  generalize oput σ3 σ2.2.1 (.inr (1, [.int 0, .ref κ.2.2.1, .int 0])) = σ4 at e4 k4 z4 ⊢
  have z41 : σ4.2.1 = σ2.2.1 + 1 := by rw [z4]
  have z42 : σ4.2.2.1 = σ2.2.2.1 + 1 := by rw [z4]
  have z43 : σ4.2.2.2 = σ2.2.2.2 + 3 := by rw [z4]
  obtain ⟨v4, r4⟩ := v2.ex (σ' := σ4) (fun a ha => k4 a (by omega)) (fun q hq => by rw [k4 q (by omega)]; exact v2.1.1.1 q (by omega)) (by omega)
  have e4' := v2.kd r4 e2 (by omega)
  rw [opf_at e4' (by rw [List.length_set, hfs]; decide), obn_at]
  have v5 := v4.fl (fs' := (fs.set 7 (.int (nI D.1.2.2.2.2.2))).set 11 (va_rf (some σ2.2.1))) e4' (by omega)
  refine ⟨_, D', σ2.2.1, rfl, v5, ⟨w6, w6b⟩, ⟨w8, w9⟩, ⟨oput_eq _ _ _, ?_, by omega, ?_⟩, ⟨?_, fun a ha hmu hne => ?_, ?_, ?_⟩, ?_, ?_⟩
  · rw [oput_ne (by omega)]; exact e4
  · show σ2.2.1 < σ4.2.1; omega
  · show σ.2.1 ≤ σ4.2.1; omega
  · rw [oput_ne hne, k4 a (by omega), w4.2.1 a (by omega) hmu, k1 a hne]
  · have := w4.2.2.1; rw [z11] at this; exact this
  · have := w4.2.2.2; rw [z11] at this; exact this
  · show σ4.2.2.1 ≤ _
    have : σ1.2.2.1 = σ.2.2.1 := by rw [z1]
    omega
  · show σ4.2.2.2 + _ + _ ≤ _
    have : σ1.2.2.2 = σ.2.2.2 := by rw [z1]
    omega
end CQM
