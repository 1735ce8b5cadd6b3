/-! one step of a script: what all calls keep -/
/-- o alone is an Octagon -/
def oOc (o : Nat) (σ : oSt) : Prop := ∀ q gs, σ.1 q = some (.inr (8, gs)) → q = o
section OOC
variable {o : Nat} {σ : oSt}
theorem oOc.na (h : oOc o σ) (y) (n : Nat) : oOc o (onew σ (.inl y) n) := fun q gs e => by
  by_cases c : q = σ.2.1
  · rw [c, onew_eq] at e; cases e
  · rw [onew_ne c] at e; exact h q gs e
theorem oOc.no (h : oOc o σ) {k : Nat} (hk : k ≠ 8) (fs : List Value) (n : Nat) : oOc o (onew σ (.inr (k, fs)) n) := fun q gs e => by
  by_cases c : q = σ.2.1
  · rw [c, onew_eq] at e
    injection e with e; injection e with e; injection e with e _
    exact absurd e hk
  · rw [onew_ne c] at e; exact h q gs e
theorem oOc.pu (h : oOc o σ) {q ci : Nat} {fs gs : List Value} (e : σ.1 q = some (.inr (ci, fs))) : oOc o (oput σ q (.inr (ci, gs))) := fun q' gs' e' => by
  by_cases c : q' = q
  · rw [c, oput_eq] at e'
    injection e' with e'; injection e' with e'; injection e' with e' _
    rw [c]
    rw [e'] at e
    exact h q fs e
  · rw [oput_ne c] at e'; exact h q' gs' e'
theorem oOc.pf (h : oOc o σ) {r : Option Nat} {ci i : Nat} {x : Value} {s : oSt} (e : opf σ r ci i x = some s) : oOc o s := by
  obtain ⟨q, fs, rfl, e1, hk, e⟩ := lg_opf e
  rw [e]
  exact h.pu e1
theorem oOc_ok : iKptO (oOc o) := ⟨fun σ y n h => h.na y n, fun σ k n hk h => h.no hk _ n, fun σ q ci fs k v h e _ _ => h.pu e, fun σ q y y' h e => fun q' gs' e' => by
  by_cases c : q' = q
  · rw [c, oput_eq] at e'; cases e'
  · rw [oput_ne c] at e'; exact h q' gs' e', fun n call κ x0 x1 σ h => by
  unfold ob_X2_makeRoom
  refine PIo_gd ?_
  show PIo (oOc o) (obn (opf (onew σ (.inl (.int, x1.toNatClampNeg, .inl (fun _ => 0))) x1.toNatClampNeg) x0 4 5 (va_rf (some σ.2.1))) _)
  refine PIo_be (fun s4 e4 => ?_)
  have h4 := (h.na (FieldType.int, x1.toNatClampNeg, .inl (fun _ => 0)) x1.toNatClampNeg).pf e4
  refine PIo_gd ?_
  show PIo (oOc o) (obn (opf (onew s4 (.inl (.object (oq 11).1, x1.toNatClampNeg, .inr (.inr (.inr (.inr (fun _ => none)))))) x1.toNatClampNeg) x0 4 6 (va_rf (some s4.2.1))) _)
  refine PIo_be (fun s9 e9 => ?_)
  exact PIo_some ((h4.na (FieldType.object (oq 11).1, x1.toNatClampNeg, .inr (.inr (.inr (.inr (fun _ => none))))) x1.toNatClampNeg).pf e9)⟩
end OOC
/-- objects but the Machine and the class's own are those of σ0 -/
def oJb (σ0 σ : oSt) : Prop := (∀ q, σ.2.1 ≤ q → σ.1 q = none) ∧ ∀ q k fs, k ≠ 5 → k ≠ 14 → (σ.1 q = some (.inr (k, fs)) ↔ σ0.1 q = some (.inr (k, fs)))
theorem wrN_k : ∀ z, z ∈ wrlN → z.1 = 5 ∨ z.1 = 14 := by decide
theorem oJb_ok (σ0 : oSt) : iKptN (oJb σ0) := ⟨fun σ y n h => ⟨fun q hq => by
  have hq : σ.2.1 + 1 ≤ q := hq
  rw [onew_ne (by omega)]
  exact h.1 q (by omega), fun q k fs h5 h14 => by
  rw [← h.2 q k fs h5 h14]
  by_cases c : q = σ.2.1
  · rw [c, onew_eq, h.1 σ.2.1 (Nat.le_refl _)]
    exact ⟨fun e => (by cases e), fun e => (by cases e)⟩
  · rw [onew_ne c]⟩, trivial, fun σ q ci fs k v h e hw _ => ⟨fun q' hq => by
  have hq : σ.2.1 ≤ q' := hq
  rw [oput_ne (fun c => by rw [← c, h.1 q' hq] at e; cases e)]
  exact h.1 q' hq, fun q' k' fs' h5 h14 => by
  rw [← h.2 q' k' fs' h5 h14]
  by_cases c : q' = q
  · rw [c, oput_eq, e]
    have := wrN_k (ci, k) hw
    have ci5 : ci = 5 ∨ ci = 14 := this
    constructor
    · intro z
      injection z with z; injection z with z; injection z with z _
      omega
    · intro z
      injection z with z; injection z with z; injection z with z _
      omega
  · rw [oput_ne c]⟩, fun σ q y y' h e => ⟨fun q' hq => by
  have hq : σ.2.1 ≤ q' := hq
  rw [oput_ne (fun c => by rw [← c, h.1 q' hq] at e; cases e)]
  exact h.1 q' hq, fun q' k' fs' h5 h14 => by
  rw [← h.2 q' k' fs' h5 h14]
  by_cases c : q' = q
  · rw [c, oput_eq, e]
    exact ⟨fun z => (by cases z), fun z => (by cases z)⟩
  · rw [oput_ne c]⟩⟩
theorem lcpI_w {A : oRs} {B : zRs} {w : oSt × zSt} (h : lcpI A B = some w) : ∃ r : Int32, A = some (some (.int r), w.1) ∧ B = some (some (.int r), w.2) := by
  unfold lcpI at h
  split at h
  next r u r' v =>
    split at h
    next e => subst e; cases h; exact ⟨r, rfl, rfl⟩
    next => cases h
  next => cases h
theorem lcpL_w {A : oRs} {B : zRs} {w : oSt × zSt} (h : lcpL A B = some w) : ∃ r : Int64, A = some (some (.long r), w.1) ∧ B = some (some (.long r), w.2) := by
  unfold lcpL at h
  split at h
  next r u r' v =>
    split at h
    next e => subst e; cases h; exact ⟨r, rfl, rfl⟩
    next => cases h
  next => cases h
section LSK
variable {κ : oKv} {T n x y : Nat} {a : Nat → Int32} {σ : oSt} {τ : zSt}
/-- every call -/
theorem lst_O {P : oSt → Prop} (hP : iKptO P) {G : zCl} {w : oSt × zSt} (h : P σ) : ∀ k, lst (oF κ T n) G x y a σ τ k = some w → P w.1
  | 0, e => by
    obtain ⟨r, e1, -⟩ := lcpI_w e
    exact (cQoO_oF (κ := κ) hP T n).c175 (some x) _ _ _ _ _ σ h _ e1
  | 1, e => by
    obtain ⟨r, e1, -⟩ := lcpI_w e
    exact (cQoO_oF (κ := κ) hP T n).c176 (some x) _ σ h _ e1
  | 2, e => by
    obtain ⟨r, e1, -⟩ := lcpI_w e
    exact (cQoO_oF (κ := κ) hP T n).c178 (some x) σ h _ e1
  | 3, e => by
    obtain ⟨r, e1, -⟩ := lcpI_w e
    exact (cQoO_oF (κ := κ) hP T n).c179 (some x) σ h _ e1
  | 4, e => by
    obtain ⟨r, e1, -⟩ := lcpI_w e
    exact (cQoO_oF (κ := κ) hP T n).c180 (some x) σ h _ e1
  | 5, e => by
    obtain ⟨r, e1, -⟩ := lcpI_w e
    exact (cQoO_oF (κ := κ) hP T n).c189 (some x) _ σ h _ e1
  | 6, e => by
    obtain ⟨r, e1, -⟩ := lcpI_w e
    exact (cQoO_oF (κ := κ) hP T n).c190 (some x) _ σ h _ e1
  | 7, e => by
    obtain ⟨r, e1, -⟩ := lcpI_w e
    exact (cQoO_oF (κ := κ) hP T n).c191 (some x) _ _ σ h _ e1
  | 8, e => by
    obtain ⟨r, e1, -⟩ := lcpI_w e
    exact (cQoO_oF (κ := κ) hP T n).c192 (some x) _ _ _ σ h _ e1
  | 9, e => by
    obtain ⟨r, e1, -⟩ := lcpI_w e
    exact (cQoO_oF (κ := κ) hP T n).c193 (some x) _ σ h _ e1
  | 10, e => by
    obtain ⟨r, e1, -⟩ := lcpL_w e
    exact (cQoO_oF (κ := κ) hP T n).c194 (some x) σ h _ e1
  | 11, e => by
    obtain ⟨r, e1, -⟩ := lcpI_w e
    exact (cQoO_oF (κ := κ) hP T n).c195 (some x) σ h _ e1
  | k + 12, e => by
    injection e with e
    rw [← e]
    exact h
/-- every call but accepted() -/
theorem lst_Q {P : oSt → Prop} (hP : iKpt P) {G : zCl} {w : oSt × zSt} (h : P σ) : ∀ k, k ≠ 3 → lst (oF κ T n) G x y a σ τ k = some w → P w.1
  | 0, h3, e => by
    obtain ⟨r, e1, -⟩ := lcpI_w e
    exact (cQo_oF (κ := κ) hP T n).c175 (some x) _ _ _ _ _ σ h _ e1
  | 1, h3, e => by
    obtain ⟨r, e1, -⟩ := lcpI_w e
    exact (cQo_oF (κ := κ) hP T n).c176 (some x) _ σ h _ e1
  | 2, h3, e => by
    obtain ⟨r, e1, -⟩ := lcpI_w e
    exact (cQo_oF (κ := κ) hP T n).c178 (some x) σ h _ e1
  | 3, h3, e => absurd rfl h3
  | 4, h3, e => by
    obtain ⟨r, e1, -⟩ := lcpI_w e
    exact (cQo_oF (κ := κ) hP T n).c180 (some x) σ h _ e1
  | 5, h3, e => by
    obtain ⟨r, e1, -⟩ := lcpI_w e
    exact (cQo_oF (κ := κ) hP T n).c189 (some x) _ σ h _ e1
  | 6, h3, e => by
    obtain ⟨r, e1, -⟩ := lcpI_w e
    exact (cQo_oF (κ := κ) hP T n).c190 (some x) _ σ h _ e1
  | 7, h3, e => by
    obtain ⟨r, e1, -⟩ := lcpI_w e
    exact (cQo_oF (κ := κ) hP T n).c191 (some x) _ _ σ h _ e1
  | 8, h3, e => by
    obtain ⟨r, e1, -⟩ := lcpI_w e
    exact (cQo_oF (κ := κ) hP T n).c192 (some x) _ _ _ σ h _ e1
  | 9, h3, e => by
    obtain ⟨r, e1, -⟩ := lcpI_w e
    exact (cQo_oF (κ := κ) hP T n).c193 (some x) _ σ h _ e1
  | 10, h3, e => by
    obtain ⟨r, e1, -⟩ := lcpL_w e
    exact (cQo_oF (κ := κ) hP T n).c194 (some x) σ h _ e1
  | 11, h3, e => by
    obtain ⟨r, e1, -⟩ := lcpI_w e
    exact (cQo_oF (κ := κ) hP T n).c195 (some x) σ h _ e1
  | k + 12, _, e => by
    injection e with e
    rw [← e]
    exact h
/-- every call but compile(), accepted(), type() -/
theorem lst_N {P : oSt → Prop} (hP : iKptN P) {G : zCl} {w : oSt × zSt} (h : P σ) : ∀ k, k ≠ 2 → k ≠ 3 → k ≠ 5 → lst (oF κ T n) G x y a σ τ k = some w → P w.1
  | 0, h2, h3, h5, e => by
    obtain ⟨r, e1, -⟩ := lcpI_w e
    exact (cQoN_oF (κ := κ) hP T n).c175 (some x) _ _ _ _ _ σ h _ e1
  | 1, h2, h3, h5, e => by
    obtain ⟨r, e1, -⟩ := lcpI_w e
    exact (cQoN_oF (κ := κ) hP T n).c176 (some x) _ σ h _ e1
  | 2, h2, h3, h5, e => absurd rfl h2
  | 3, h2, h3, h5, e => absurd rfl h3
  | 4, h2, h3, h5, e => by
    obtain ⟨r, e1, -⟩ := lcpI_w e
    exact (cQoN_oF (κ := κ) hP T n).c180 (some x) σ h _ e1
  | 5, h2, h3, h5, e => absurd rfl h5
  | 6, h2, h3, h5, e => by
    obtain ⟨r, e1, -⟩ := lcpI_w e
    exact (cQoN_oF (κ := κ) hP T n).c190 (some x) _ σ h _ e1
  | 7, h2, h3, h5, e => by
    obtain ⟨r, e1, -⟩ := lcpI_w e
    exact (cQoN_oF (κ := κ) hP T n).c191 (some x) _ _ σ h _ e1
  | 8, h2, h3, h5, e => by
    obtain ⟨r, e1, -⟩ := lcpI_w e
    exact (cQoN_oF (κ := κ) hP T n).c192 (some x) _ _ _ σ h _ e1
  | 9, h2, h3, h5, e => by
    obtain ⟨r, e1, -⟩ := lcpI_w e
    exact (cQoN_oF (κ := κ) hP T n).c193 (some x) _ σ h _ e1
  | 10, h2, h3, h5, e => by
    obtain ⟨r, e1, -⟩ := lcpL_w e
    exact (cQoN_oF (κ := κ) hP T n).c194 (some x) σ h _ e1
  | 11, h2, h3, h5, e => by
    obtain ⟨r, e1, -⟩ := lcpI_w e
    exact (cQoN_oF (κ := κ) hP T n).c195 (some x) σ h _ e1
  | k + 12, _, _, _, e => by
    injection e with e
    rw [← e]
    exact h
end LSK
