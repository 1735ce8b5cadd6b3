/-! type(): the reference prints a told NAME's type -/
section TYF
variable {κ : oKv} {ks : Nat → Nat} {qs : List Nat} {T h0 sz N cnt i u : Nat} {τ τ1 : zSt} {Γ : uGm} {pp ee f : Nat → Int32} {Lp : Nat → Prop} {tN : Nat → tY} {q : Nat → gTy}
theorem rTv_0 {g : gN → Nat} {Nm : gN → Prop} (hg : ∀ k, Nm (.inr k) → 700 ≤ g (.inr k) ∧ g (.inr k) < 1500) (h : rEm τ τ1) : rTv g Nm τ ([], []) τ1 := by
  obtain ⟨h1, h2, h3, h4, h5, h6, h7⟩ := h
  refine ⟨⟨⟨h1, fun i c e => by cases e⟩, ⟨h2, Nat.zero_le _, fun k hk => ?_⟩, fun _ _ _ => rfl, rfl, fun _ _ _ => rfl, rfl⟩, fun k _ _ _ a b => h4 k a b, fun k _ => by rw [h5], fun k _ a => h6 k a, h7⟩
  have := hg k hk
  have e : tIx (.inr k) ([] : List gN) < ([] : List gN).length ↔ False := ⟨fun z => absurd z (Nat.not_lt_zero _), fun z => z.elim⟩
  show if tIx (.inr k) ([] : List gN) < ([] : List gN).length then _ else _
  rw [if_neg e.mp, h3 _ (by omega)]
  decide
set_option maxHeartbeats 1000000 in
/-- **type() (118)** of a told NAME -/
theorem ty_118 (hf : lFacts κ ks sz) (hT : 20000 ≤ T) (h66 : ¬ τ.1 66 = 0) (h67 : ¬ τ.1 67 = 0) (h50 : τ.1 50 = nI cnt) (hc : cnt ≤ 700) (hi : i < cnt) (R : tyR Γ pp ee f Lp tN q τ i u) (hsz : tSz (tN u) ≤ 119) (hw : ∀ w, (tyW pp ee f w).length ≤ 3000) (hN : (q u).2.length + 8 + tSz (tN u) ≤ N) : ∃ L τ1 τ2, (tTy (tyW pp ee f) (tyKd Γ) (tSy (alV Γ τ) Γ.2.2.1 Γ.2.2.2.1) (tN u) (q u) ([], [])).1 = L ∧ L.length < 2 ^ 30 ∧ rEm τ τ1 ∧ rTv Γ.1 (nmA Lp (q u)) τ (tTy (tyW pp ee f) (tyKd Γ) (tSy (alV Γ τ) Γ.2.2.1 Γ.2.2.2.1) (tN u) (q u) ([], [])) τ2 ∧ (L.length ≤ 16000 → ∃ τ', zF h0 qs ks T (N + 1) 118 [.ref h0, .int (nI i)] τ = some (some (.int (nI L.length)), τ') ∧ τ'.1 5 = nI L.length ∧ (∀ j c, L[j]? = some c → τ'.2.2.1 2 j = tBt c) ∧ rOu τ2 τ') ∧ (16000 < L.length → zF h0 qs ks T (N + 1) 118 [.ref h0, .int (nI i)] τ = some (some (.int (-1)), τ2)) := by
  obtain ⟨vv, t, h1, h2, h3, h4, h5, h6, h7, h8, h9⟩ := R
  have hD := fun D h h' => un_len (Γ := Γ) (Nm := nmA Lp (q u)) h9 D h h'
  obtain ⟨-, -, tl⟩ := tTy_D (bk := tyKd Γ) (wd := tyW pp ee f) (sy := tSy (alV Γ τ) Γ.2.2.1 Γ.2.2.2.1) hw (tN u) (q u) ([], []) (vTy.ok _ _ h5) List.nodup_nil (fun a ha => by cases ha)
  have l0 : (([], []) : tPs).1.length = 0 := rfl
  rw [l0] at tl
  have hL : (tTy (tyW pp ee f) (tyKd Γ) (tSy (alV Γ τ) Γ.2.2.1 Γ.2.2.2.1) (tN u) (q u) ([], [])).1.length < 2 ^ 30 := by omega
  obtain ⟨τ1, τ2, r1, r2, r3, r4⟩ := s_type (h0 := h0) (qs := qs) (ks := ks) (T := T) (n := N) (Q := fun _ τ2 => rTv Γ.1 (nmA Lp (q u)) τ (tTy (tyW pp ee f) (tyKd Γ) (tSy (alV Γ τ) Γ.2.2.1 Γ.2.2.2.1) (tN u) (q u) ([], [])) τ2) hT h66 h67 h50 hc hi hL (fun τ1 hm => by
    have e74 : τ1.2.2.1 74 i = nI t := by rw [hm.2.2.2.2.2.1 74 (by decide)]; exact h2
    obtain ⟨τ2, q1, q2⟩ := v_type (h0 := h0) (qs := qs) (ks := ks) (T := T) (wd := tyW pp ee f) (bk := tyKd Γ) (V := τ) (Γ := Γ) (v := vv) (Nm := nmA Lp (q u)) hf (by omega) hw h6 h7 h4 (h1 85) (h1 91) (h1 79) (h1 98) (h1 99) (h1 75) (fun D h h' => Nat.le_trans (hD D h h') (by decide)) h8 (tN u) N t (q u) ([], []) τ1 rfl hN h3 h5 (rTv_0 h6.2.1 hm) List.nodup_nil (fun a ha => by cases ha) (by rw [l0]; omega)
    rw [e74]
    exact ⟨τ2, q1, q2.1.1.1, q2.1.1.2, q2⟩)
  exact ⟨_, τ1, τ2, rfl, hL, r1, r2, r3, r4⟩
end TYF
