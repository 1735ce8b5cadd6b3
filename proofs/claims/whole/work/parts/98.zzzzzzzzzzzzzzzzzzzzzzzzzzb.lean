/-! weakenAll(): lastChange() as a whole -/
section LCA
variable {κ : oKv} {T n : Nat} {σ : oSt}
/-- **lastChange()** -/
theorem c_last {ch i N l0 l1 ka w : Nat} {cf gs hs : List Value} {v : Int32} {g0 g1 : Nat → Option Nat} {Sc : List sEn} {Ws : List Nat} (hc : σ.1 ch = some (.inr (2, cf))) (h3 : cf[3]? = some (.ref l0)) (h4 : cf[4]? = some (.ref l1)) (L0 : oLs σ (some l0) N g0) (L1 : oLs σ (some l1) N g1) (hi : i < N) (e1 : g1 i = some ka) (k1 : σ.1 ka = some (.inr (4, gs)) ∧ gs[1]? = some (.ref w)) (k2 : σ.1 w = some (.inr (4, hs)) ∧ hs[8]? = some (.int v)) (hl : lcS σ Sc (g0 i) Ws) (hT : Sc.length < T) : ∃ v, oF κ T (n + 4) 66 [va_rf (some ch), .int (nI i)] σ = some (some (.int v), σ) ∧ (chG σ w).toInt ≤ v.toInt ∧ ∀ w', w' ∈ Ws → (chG σ w').toInt ≤ v.toInt := by
  obtain ⟨v', i1, i2, i3⟩ := c_lc30 (n := T) (call := oF κ T (n + 3)) (κ := κ) Sc (g0 i) Ws T v hl hT
  refine ⟨v', ?_, by rw [chG_at k2.1 k2.2]; exact i2, i3⟩
  have a0 : ovr (ofd σ (some ch) 2 4) = some (some l1) := by rw [ofd_at hc, h4]; rfl
  have a1 : ovr (ofd σ (some ch) 2 3) = some (some l0) := by rw [ofd_at hc, h3]; rfl
  have a2 : ovr (ofd σ (some ka) 4 1) = some (some w) := by rw [ofd_at k1.1, k1.2]; rfl
  have a3 : ovi (ofd σ (some w) 4 8) = some v := by rw [ofd_at k2.1, k2.2]; rfl
  obtain ⟨b0, d0, o0, -⟩ := id L0
  obtain ⟨b1, d1, o1, -⟩ := id L1
  have s10 : ocs σ (g0 i) 10 = true := by
    cases Sc with
    | nil => rw [hl.1]; rfl
    | cons x r =>
      cases x with
      | inl a =>
        obtain ⟨q, ou, fs, k, gs, w, hs, v, Ws', ⟨h1, h2⟩, -⟩ := hl
        rw [h1]; simp [ocs, h2]
      | inr p =>
        obtain ⟨m, h⟩ := p
        obtain ⟨q, ou, ⟨h1, h2⟩, -⟩ := hl
        rw [h1]; simp [ocs, h2]
  have s4 : ocs σ (some ka) 4 = true := by simp [ocs, k1.1]
  have on : ∀ (o : Option Nat) (f : Option Nat → oSt → oRs), orn (some (some (va_rf o), σ)) f = f o σ := fun o f => by cases o <;> rfl
  rw [oE_X0_lastChange]
  unfold ob_X0_lastChange
  rw [a0, obn_at, o1, obn_at, l_get L1 hi, e1, orn_at, s4]
  show obn _ _ = _
  rw [a2, obn_at, a3, obn_at, a1, obn_at, o0, obn_at, l_get L0 hi, on, ogd_at s10]
  exact i1
end LCA
