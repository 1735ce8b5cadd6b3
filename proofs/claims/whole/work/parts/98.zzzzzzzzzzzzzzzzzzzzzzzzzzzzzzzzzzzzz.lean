/-! type(): told NAMES, while a script goes on -/
/-- rows of INPUTS are none of accepted()'s -/
def tyG (x : Nat) (Q : Nat → Prop) (σ : oSt) : Prop := ∃ ma va ra fm fv gr, lMv x σ ma va ra fm fv gr ∧ ∀ i b, i < 6 → gr i = some b → ¬ Q b
/-- told NAMES of the PROGRAM -/
def lTy (x : Nat) (q0 : pgQt) (σ : oSt) (τ : zSt) : Prop := match q0 with
  | (_, _, _, _, pp, ee, f, _, _, is, e, α, lo, _, _, _, _, _, _, _, nm, _, _, _, _, _, _, _, _, _, _, _, _, _, _, _) => ∃ Γ Q na sy q, (∀ y, Q y → lo ≤ y ∧ y < σ.2.1) ∧ tyG x Q σ ∧ tyB Γ (lo, Q) na sy pp ee f (is.map Prod.fst ++ tW e) (pTN f pp ee is e α) q nm σ τ
section LTY
variable {x lo hi hl : Nat} {σ u : oSt} {τ v : zSt} {Q : Nat → Prop} {q0 : pgQt}
theorem lTy.to (h : lTy x q0 σ τ) (hA : ∀ Q : Nat → Prop, (∀ y, Q y → pgLo q0 ≤ y ∧ y < σ.2.1) → tyG x Q σ → tyA (pgLo q0, Q) σ u ∧ tyG x Q u) (hQ : tyQ τ v) (hn : σ.2.1 ≤ u.2.1) : lTy x q0 u v := by
  obtain ⟨len, cnt, j, kk, pp, ee, f, fc, xs, is, e, α, lo, p, B, V, D, at2, cd', am2, nm, e0, fb, fr, fz, fn, g, ρ, lv, N, S, P, A, x0, g', ρ'⟩ := q0
  obtain ⟨Γ, Q, na, sy, q, h1, h2, h3⟩ := h
  obtain ⟨a1, a2⟩ := hA Q h1 h2
  exact ⟨Γ, Q, na, sy, q, fun y hy => ⟨(h1 y hy).1, by have := (h1 y hy).2; omega⟩, a2, h3.cg a1 hQ⟩
/-- text is fed -/
theorem tyA.ke {lo : Nat × (Nat → Prop)} (hr : lRel x σ τ) (h : lKeep x σ τ u v) : tyA lo σ u := by
  obtain ⟨fs, -, -, -, -, -, -, -, ⟨hx, -⟩, -⟩ := id hr
  refine ⟨fun q k gs hk e => (h.o hr e (fun z => ?_) (fun _ _ z => by cases z)).trans e, fun q gs e => ⟨gs, (h.o hr e (fun z => ?_) (fun _ _ z => by cases z)).trans e, rfl, fun _ _ => rfl⟩, fun q ty n g _ e hc => (h.o hr e (fun z => ?_) (fun _ _ z => ?_)).trans e⟩
  · rw [z, hx] at e
    injection e with e; injection e with e; injection e with e _
    omega
  · rw [z, hx] at e
    injection e with e; injection e with e; injection e with e _
    omega
  · rw [z, hx] at e; cases e
  · injection z with z; injection z with z _
    rcases hc with r | r | ⟨r, -⟩ <;> (rw [r] at z; cases z)
theorem lTy.ke (hr : lRel x σ τ) (hr' : lRel x u v) (h : lKeep x σ τ u v) (t : lTy x q0 σ τ) : lTy x q0 u v := t.to (fun Q _ ⟨ma, va, ra, fm, fv, gr, g1, g2⟩ => ⟨tyA.ke hr h, ma, va, ra, fm, fv, gr, g1.keep hr hr' h, g2⟩) ⟨fun k h1 _ => h.2.2.2.2.2.1 k (fun z => h1 (by rw [z]; decide)), by rw [h.2.2.2.2.2.2], by rw [h.2.2.2.2.2.2]⟩ (by rw [h.2.2.1]; exact Nat.le_refl _)
/-- INPUTS are given -/
theorem tyA.gi (G : tyG x Q σ) (hfr : ∀ q, σ.2.1 ≤ q → σ.1 q = none) (h7 : lKi x σ u) (h8 : ∀ q ci fs, σ.1 q = some (.inr (ci, fs)) → u.1 q = σ.1 q) : tyA (lo, Q) σ u := by
  obtain ⟨ma, va, ra, fm, fv, gr, g1, g2⟩ := G
  refine ⟨fun q k gs _ e => (h8 q k gs e).trans e, fun q gs e => ⟨gs, (h8 q 4 gs e).trans e, rfl, fun _ _ => rfl⟩, fun q ty n g _ e hc => ?_⟩
  rw [h7 ma va ra fm fv gr g1 q (Nat.lt_of_not_le (fun w => by rw [hfr q w] at e; cases e)) (fun z => ?_) (fun z => ?_) (fun i c hi hg z => ?_)]
  · exact e
  · rw [z, g1.2.2.1] at e
    injection e with e; injection e with e; injection e with e _
    rcases hc with r | r | ⟨r, -⟩ <;> (rw [r] at e; cases e)
  · rw [z, g1.2.2.2.1] at e
    injection e with e; injection e with e; injection e with e _
    rcases hc with r | r | ⟨r, -⟩ <;> (rw [r] at e; cases e)
  · obtain ⟨hh, g3⟩ := g1.2.2.2.2.1 i c hi hg
    have g4 := g2 i c hi hg
    rw [z, g3] at e
    injection e with e; injection e with e; injection e with e e2; injection e2 with e2 _
    rcases hc with r | r | ⟨r, ⟨k, r2⟩ | r2⟩
    · rw [r] at e; cases e
    · rw [r] at e; cases e
    · rw [r2] at e2
      have p9 : (2 : Nat) ^ 9 = 512 := by decide
      have p10 : (2 : Nat) ^ 10 = 1024 := by decide
      by_cases c : k ≤ 9
      · have := Nat.pow_le_pow_right (show 0 < 2 by decide) c
        omega
      · have := Nat.pow_le_pow_right (show 0 < 2 by decide) (show 10 ≤ k by omega)
        omega
    · rw [z] at r2; exact g4 r2
theorem tyG.gi (G : tyG x Q σ) (hQ : ∀ y, Q y → y < σ.2.1) (h : lGr x σ u) : tyG x Q u := by
  obtain ⟨ma, va, ra, fm, fv, gr, g1, g2⟩ := G
  obtain ⟨ma', va', ra', fm', fv', gr', fv2, gr2, h1, h2, h3⟩ := h
  obtain ⟨-, -, -, e4⟩ := g1.uq h1
  subst e4
  refine ⟨ma', va', ra', fm', fv2, gr2, h2, fun i b hi hb hq => ?_⟩
  rcases h3 i b hi hb with r | r
  · exact g2 i b hi r hq
  · have := hQ b hq; omega
/-- run() -/
theorem tyA.rn (hM : hMq x lo hi hl σ) (hfr : ∀ q, σ.2.1 ≤ q → σ.1 q = none) (h : hKr x σ u) : tyA (lo, Q) σ u := by
  obtain ⟨fs, ma, gm, ha, wn, ws, wa, ha2, ⟨a1, a2⟩, ⟨a3, a5, w1, w2, w3⟩, K, gm', u1, u2, u3⟩ := h
  obtain ⟨fs', ma', fm', va', hh, hp, wn', ws', wa', WN, WS, WA, ⟨b1, b2⟩, ⟨b3, -, -⟩, ⟨b6, b7, -⟩, ⟨⟨v1, v2, v3⟩, ⟨q1, q2, q3⟩, -⟩, l1, l2, l3⟩ := hM
  rw [a1] at b1
  injection b1 with b1; injection b1 with b1; injection b1 with _ b1
  subst b1
  rw [a2] at b2
  injection b2 with b2; injection b2 with b2
  subst b2
  rw [a3] at b3
  injection b3 with b3; injection b3 with b3; injection b3 with _ b3
  subst b3
  rw [w1] at v1
  injection v1 with v1; injection v1 with v1
  subst v1
  rw [w2] at v2
  injection v2 with v2; injection v2 with v2
  subst v2
  rw [w3] at v3
  injection v3 with v3; injection v3 with v3
  subst v3
  rw [a5] at b6
  injection b6 with b6; injection b6 with b6
  subst b6
  have lt : ∀ {q : Nat} {c : oC}, σ.1 q = some c → q < σ.2.1 := fun {q c} z => Nat.lt_of_not_le (fun w => by rw [hfr q w] at z; cases z)
  have ob : ∀ q k gs, σ.1 q = some (.inr (k, gs)) → k ≠ 5 → u.1 q = some (.inr (k, gs)) := fun q k gs e hk => by
    rw [K.1 q (lt e) (fun z => by rw [z, a3] at e; injection e with e; injection e with e; injection e with e _; exact hk e.symm) (fun z => by rw [z, b7] at e; cases e) (fun z => ?_)]
    · exact e
    · rcases z with z | z | z
      · rw [z, q1] at e; cases e
      · rw [z, q2] at e; cases e
      · rw [z, q3] at e; cases e
  refine ⟨fun q k gs hk e => ob q k gs e (by omega), fun q gs e => ⟨gs, ob q 4 gs e (by decide), rfl, fun _ _ => rfl⟩, fun q ty n g hq e hc => ?_⟩
  have hq : lo ≤ q := hq
  rw [K.1 q (lt e) (fun z => by rw [z, a3] at e; cases e) (fun z => ?_) (fun z => ?_)]
  · exact e
  · rw [z, b7] at e
    injection e with e; injection e with e; injection e with e _
    rcases hc with r | r | ⟨r, -⟩ <;> (rw [r] at e; cases e)
  · rcases z with z | z | z <;> omega
end LTY
