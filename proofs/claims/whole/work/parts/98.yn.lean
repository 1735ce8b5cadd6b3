/-! the reference reads a QUAL -/
/-- kept while QUALS are read: all but the places of a reading and of QUAL number q -/
def rQf (q : Nat) (τ τ' : zSt) : Prop := τ'.2.1 = τ.2.1 ∧ τ'.2.2.2 = τ.2.2.2 ∧ (∀ k, k ≠ 10 → k ≠ 11 → k ≠ 12 → k ≠ 20 → k ≠ 24 → k ≠ 28 → k ≠ 32 → k ≠ 33 → k ≠ 45 → k ≠ 39 → τ'.1 k = τ.1 k) ∧ ∀ k j, (k < 6 ∨ 22 ≤ k) → k ≠ 29 → ¬ (22 ≤ k ∧ k ≤ 26 ∧ j = q) → τ'.2.2.1 k j = τ.2.2.1 k j
theorem rQf.rf (q : Nat) (τ : zSt) : rQf q τ τ := ⟨rfl, rfl, fun _ _ _ _ _ _ _ _ _ _ _ => rfl, fun _ _ _ _ _ => rfl⟩
theorem rQf.tr {q : Nat} {τ τ' τ'' : zSt} (h : rQf q τ τ') (h' : rQf q τ' τ'') : rQf q τ τ'' := ⟨h'.1.trans h.1, h'.2.1.trans h.2.1, fun k a1 a2 a3 a4 a5 a6 a7 a8 a9 a10 => (h'.2.2.1 k a1 a2 a3 a4 a5 a6 a7 a8 a9 a10).trans (h.2.2.1 k a1 a2 a3 a4 a5 a6 a7 a8 a9 a10), fun k j a b c => (h'.2.2.2 k j a b c).trans (h.2.2.2 k j a b c)⟩
theorem rAg.qf {τ τ' : zSt} (h : rAg 0 0 0 0 0 τ τ') (q : Nat) : rQf q τ τ' := ⟨h.1, h.2.1, fun k a1 a2 a3 a4 a5 a6 a7 a8 a9 _ => h.2.2.1 k a1 a2 a3 a4 a5 a6 a7 a8 a9, fun k j a b _ => h.2.2.2 k j ⟨fun _ _ => by omega, fun _ _ => by omega, fun _ _ => by omega, fun _ _ => by omega, fun _ => by omega⟩⟩
theorem rQf.a {q k : Nat} {τ τ' : zSt} {v : Int32} (h : rQf q τ τ') (h1 : 22 ≤ k) (h2 : k ≤ 26) : rQf q τ (zA τ' k (upd (τ'.2.2.1 k) q v)) := by
  refine ⟨h.1, h.2.1, h.2.2.1, fun k' j a b c => ?_⟩
  rw [← h.2.2.2 k' j a b c]
  by_cases e : k' = k
  · subst e
    rw [zAe, upd_ne _ _ (by omega)]
  · rw [zAn _ _ e]
theorem rQf.i {q k : Nat} {τ τ' : zSt} {v : Int32} (h : rQf q τ τ') (hk : k = 10 ∨ k = 11 ∨ k = 12 ∨ k = 39) : rQf q τ (zI τ' k v) := by
  refine ⟨h.1, h.2.1, fun k' a1 a2 a3 a4 a5 a6 a7 a8 a9 a10 => ?_, h.2.2.2⟩
  rw [zIn _ _ (by omega)]
  exact h.2.2.1 k' a1 a2 a3 a4 a5 a6 a7 a8 a9 a10
/-- a fault stands -/
def pB (pp : Nat → Int32) (τ : zSt) (j : Nat) : Prop := τ.1 11 = 2 ∧ τ.1 12 = pp j ∧ ∃ w, w < 2010 ∧ τ.1 10 = nI w ∧ τ.1 45 = 0
theorem pB.c {pp : Nat → Int32} {τ : zSt} {j : Nat} (h : pB pp τ j) : τ.1 45 = 0 := by
  obtain ⟨-, -, w, -, -, h⟩ := h
  exact h
def qR (T : Nat) (f pp ee : Nat → Int32) (τ : zSt) (q : Nat) (x : tQ) : Prop := τ.2.2.1 22 q = nI x.1 ∧ τ.2.2.1 23 q = nI x.2.1 ∧ τ.2.2.1 24 q = b01 x.2.2.1 ∧ τ.2.2.1 25 q = b01 x.2.2.2.1 ∧ τ.2.2.1 26 q = nQ T f pp ee x.2.2.2.2
section RQU
variable {κ : oKv} {ks : Nat → Nat} {qs : List Nat} {T m h0 len cnt sz d N S P A C z i k zc n q : Nat} {τ τ0 : zSt} {s : Sum Nat Nat} {kk pp ee f : Nat → Int32}
theorem rR.sc (h : rR T len cnt kk pp ee f d τ N S P A C s) {k : Nat} {v : Int32} (hk : k = 39 ∨ k = 42 ∨ k = 43) : rR T len cnt kk pp ee f d (zI τ k v) N S P A C s := by
  obtain ⟨h1, ⟨a1, a2, a3, a4, a5, a6⟩, h3⟩ := h
  refine ⟨h1, ⟨(zIn _ _ (by omega)).trans a1, (zIn _ _ (by omega)).trans a2, (zIn _ _ (by omega)).trans a3, (zIn _ _ (by omega)).trans a4, (zIn _ _ (by omega)).trans a5, (zIn _ _ (by omega)).trans a6⟩, ?_⟩
  cases s with
  | inl j =>
    obtain ⟨b1, b2, b3, w, b4, b5⟩ := h3
    exact ⟨(zIn _ _ (by omega)).trans b1, (zIn _ _ (by omega)).trans b2, b3, w, b4, (zIn _ _ (by omega)).trans b5⟩
  | inr i => exact ⟨(zIn _ _ (by omega)).trans h3.1, (zIn _ _ (by omega)).trans h3.2.1, h3.2.2⟩
theorem B_here (h : τ.1 11 = 2) (hm : 1 ≤ m) (x : Nat) : zF h0 qs ks T m 11 [.ref h0, .ref (ks x)] τ = some (some (.int 0), τ) := by
  obtain ⟨n, rfl⟩ : ∃ n, m = n + 1 := ⟨m - 1, by omega⟩
  rw [zE_here]
  unfold b_here
  rw [if_neg (show ¬ τ.1 11 = 0 by rw [h]; decide)]
theorem B_skip (h : τ.1 11 = 2) (hm : 2 ≤ m) (x : Nat) : zF h0 qs ks T m 12 [.ref h0, .ref (ks x)] τ = some (some (.int 0), τ) := by
  obtain ⟨n, rfl⟩ : ∃ n, m = n + 1 := ⟨m - 1, by omega⟩
  rw [zE_skip]
  unfold b_skip
  rw [B_here h (by omega)]
  rfl
theorem B_form {j : Nat} (h : pB pp τ j) (hm : 2 ≤ m) : zF h0 qs ks T m 13 [.ref h0] τ = some (none, τ) := by
  obtain ⟨n, rfl⟩ : ∃ n, m = n + 2 := ⟨m - 2, by omega⟩
  obtain ⟨h1, h2, w, w1, w2, -⟩ := h
  rw [r_form w1 w2]
  unfold rFl
  rw [if_neg (show ¬ τ.1 11 = 0 by rw [h1]; decide)]
theorem B_must {j : Nat} (h : pB pp τ j) (hm : 3 ≤ m) (x : Nat) : zF h0 qs ks T m 14 [.ref h0, .ref (ks x)] τ = some (none, τ) := by
  obtain ⟨n, rfl⟩ : ∃ n, m = n + 1 := ⟨m - 1, by omega⟩
  rw [zE_must]
  unfold b_must
  rw [B_skip h.1 (by omega), zci_at, if_pos rfl, B_form h (by omega), zcv_at]
theorem B_number (h : τ.1 11 = 2) (hm : 1 ≤ m) : zF h0 qs ks T m 17 [.ref h0] τ = some (some (.int 0), τ) := by
  obtain ⟨n, rfl⟩ : ∃ n, m = n + 1 := ⟨m - 1, by omega⟩
  rw [zE_number]
  unfold b_number
  rw [if_neg (show ¬ τ.1 11 = 0 by rw [h]; decide)]
/-- from the REL on, where a fault stands -/
theorem q_193B {j : Nat} (k35 : zSt → zRs) (x1 : Int32) (hm : 4 ≤ m) (hq : q < 6) (h39 : τ.1 39 = nI q) (h : τ.1 11 = 2 ∧ τ.1 12 = pp j ∧ τ.1 45 = 0) (hw : ∃ w, w < 2009 ∧ τ.1 10 = nI w) : ∃ τ', j_program_193 T (zF h0 qs ks T m) h0 qs ks k35 x1 τ = k35 τ' ∧ τ'.1 39 = nI (q + 1) ∧ rQf q τ τ' ∧ pB pp τ' j := by
  obtain ⟨w, w1, w2⟩ := hw
  unfold j_program_193
  have z6 := zin_n hq (show 6 < 2 ^ 31 by decide)
  rw [zlet_at, w2, show nI w + 1 = nI (w + 1) by rw [nI_1], zIn _ _ (show 39 ≠ 10 by decide), h39, zgd_at z6, zlet_at, nI_clamp (show q < 2 ^ 31 by omega)]
  have g1 : rQf q τ (zA (zI τ 10 (nI (w + 1))) 23 (upd ((zI τ 10 (nI (w + 1))).2.2.1 23) q x1)) := ((rQf.rf q τ).i (by omega)).a (by omega) (by omega)
  have b1 : pB pp (zA (zI τ 10 (nI (w + 1))) 23 (upd ((zI τ 10 (nI (w + 1))).2.2.1 23) q x1)) j := ⟨h.1, h.2.1, w + 1, by omega, rfl, h.2.2⟩
  have d1 : (zA (zI τ 10 (nI (w + 1))) 23 (upd ((zI τ 10 (nI (w + 1))).2.2.1 23) q x1)).1 39 = nI q := h39
  generalize zA (zI τ 10 (nI (w + 1))) 23 (upd ((zI τ 10 (nI (w + 1))).2.2.1 23) q x1) = τ1 at g1 b1 d1 ⊢
  rw [B_skip b1.1 (by omega), zci_at, if_pos rfl, d1]
  unfold j_program_236
  rw [zgd_at z6, zlet_at, nI_clamp (show q < 2 ^ 31 by omega)]
  have g2 := g1.a (k := 24) (v := 0) (by omega) (by omega)
  have b2 : pB pp (zA τ1 24 (upd (τ1.2.2.1 24) q 0)) j := b1
  have d2 : (zA τ1 24 (upd (τ1.2.2.1 24) q 0)).1 39 = nI q := d1
  have r2 : (zA τ1 24 (upd (τ1.2.2.1 24) q 0)).2.2.1 24 q = 0 := by rw [zAe, upd_at]
  generalize zA τ1 24 (upd (τ1.2.2.1 24) q 0) = τ2 at g2 b2 d2 r2 ⊢
  rw [B_skip b2.1 (by omega), zci_at, if_pos rfl, d2]
  unfold j_program_260
  have e39 : (zA (zA τ2 25 (upd (τ2.2.2.1 25) q 0)) 26 (upd ((zA τ2 25 (upd (τ2.2.2.1 25) q 0)).2.2.1 26) q 0)).1 39 = nI q := d2
  rw [zgd_at z6, zlet_at, zA1, d2, zgd_at z6, zlet_at, nI_clamp (show q < 2 ^ 31 by omega), e39, zgd_at z6, nI_clamp (show q < 2 ^ 31 by omega)]
  have g3 := (g2.a (k := 25) (v := 0) (by omega) (by omega)).a (k := 26) (v := 0) (by omega) (by omega)
  have b3 : pB pp (zA (zA τ2 25 (upd (τ2.2.2.1 25) q 0)) 26 (upd ((zA τ2 25 (upd (τ2.2.2.1 25) q 0)).2.2.1 26) q 0)) j := b2
  have r3 : (zA (zA τ2 25 (upd (τ2.2.2.1 25) q 0)) 26 (upd ((zA τ2 25 (upd (τ2.2.2.1 25) q 0)).2.2.1 26) q 0)).2.2.1 25 q = 0 := by rw [zAn _ _ (by decide), zAe, upd_at]
  have r4 : (zA (zA τ2 25 (upd (τ2.2.2.1 25) q 0)) 26 (upd ((zA τ2 25 (upd (τ2.2.2.1 25) q 0)).2.2.1 26) q 0)).2.2.1 24 q = 0 := by rw [zAn _ _ (by decide), zAn _ _ (by decide)]; exact r2
  generalize zA (zA τ2 25 (upd (τ2.2.2.1 25) q 0)) 26 (upd ((zA τ2 25 (upd (τ2.2.2.1 25) q 0)).2.2.1 26) q 0) = τ3 at g3 b3 e39 r3 r4 ⊢
  rw [r3, if_neg (by decide), B_number b3.1 (by omega), zci_at, e39, zgd_at z6, nI_clamp (show q < 2 ^ 31 by omega), r4, if_neg (by decide)]
  unfold j_program_375
  rw [zgd_at z6, zlet_at, nI_clamp (show q < 2 ^ 31 by omega)]
  have g4 := g3.a (k := 26) (v := 0) (by omega) (by omega)
  have b4 : pB pp (zA τ3 26 (upd (τ3.2.2.1 26) q 0)) j := b3
  have d4 : (zA τ3 26 (upd (τ3.2.2.1 26) q 0)).1 39 = nI q := e39
  generalize zA τ3 26 (upd (τ3.2.2.1 26) q 0) = τ4 at g4 b4 d4 ⊢
  unfold j_program_376
  rw [B_must b4 (by omega), zcv_at, zlet_at, d4, show nI q + 1 = nI (q + 1) by rw [nI_1]]
  refine ⟨_, rfl, zIe _ _ _, g4.i (by omega), b4.1, b4.2.1, ?_⟩
  obtain ⟨w', a1, a2⟩ := b4.2.2
  exact ⟨w', a1, a2⟩
/-- the end of a QUAL: ; -/
theorem q_376 (hf : lFacts κ ks sz) (hT : 2010 ≤ T) (hm : 4 ≤ m) (k35 : zSt → zRs) (hq : q < 6) (h39 : τ.1 39 = nI q) (h : rR T len cnt kk pp ee f 0 τ 0 0 0 0 0 s) : ∃ τ', j_program_376 T (zF h0 qs ks T m) h0 qs ks k35 τ = k35 τ' ∧ τ'.1 39 = nI (q + 1) ∧ rQf q τ τ' ∧ rR T len cnt kk pp ee f 0 τ' 0 0 0 0 0 (aTo s (aMs kk 59)) ∧ (∀ k, 22 ≤ k → k ≤ 26 → τ'.2.2.1 k q = τ.2.2.1 k q) := by
  unfold j_program_376
  obtain ⟨τ1, f1, f2, f3⟩ := q_must (h0 := h0) (qs := qs) (ks := ks) (m := m) hf hT h (show (515, ";", 59) ∈ zKp by decide) hm
  have e : τ1.1 39 = nI q := (f3.2.2.1 39 (by decide) (by decide) (by decide) (by decide) (by decide) (by decide) (by decide) (by decide) (by decide)).trans h39
  rw [f1, zcv_at, zlet_at, e, show nI q + 1 = nI (q + 1) by rw [nI_1]]
  refine ⟨_, rfl, zIe _ _ _, (f3.qf q).i (by omega), ?_, fun k a b => ?_⟩
  · exact f2.sc (by omega)
  · exact f3.2.2.2 k q ⟨fun _ _ => by omega, fun _ _ => by omega, fun _ _ => by omega, fun _ _ => by omega, fun _ => by omega⟩
end RQU
