/-! one step of a script, with run() and what accepted() wants -/
section LZB
variable {κ : oKv} {ks : Nat → Nat} {qs : List Nat} {T n n' x y sz K b0 jd o ol hl : Nat} {Kc : Int} {a : Nat → Int32} {σ u : oSt} {τ v : zSt}
theorem lJd.ob (J : lJd x b0 jd o ol σ) : (∃ fs, σ.1 jd = some (.inr (3, fs))) ∧ ∃ fs, σ.1 o = some (.inr (8, fs)) := by
  obtain ⟨fs, ma, fm, va, ha, ca, pa, ph, ta, th, len, W, b, cl, fa, f, rd, wk, ps, P, Tr, -, -, J, -⟩ := J
  exact ⟨⟨_, J.1⟩, _, J.2.1.1⟩
theorem oJb.rf (h : ∀ q, σ.2.1 ≤ q → σ.1 q = none) : oJb σ σ := ⟨h, fun _ _ _ _ _ => Iff.rfl⟩
theorem lJd.nc (J : lJd x b0 jd o ol σ) (hfr : ∀ q, σ.2.1 ≤ q → σ.1 q = none) (B : oJb σ u) (hr : lRj x σ u) (hx : lFx x σ u) : lJd x b0 jd o ol u := by
  obtain ⟨⟨f1, e1⟩, ⟨f2, e2⟩⟩ := J.ob
  exact J.to hfr (((B.2 jd 3 f1 (by decide) (by decide)).mpr e1).trans e1.symm) (((B.2 o 8 f2 (by decide) (by decide)).mpr e2).trans e2.symm) hr hx
theorem n5I.nc {lo : Nat} (h : n5I lo σ) (B : oJb σ u) : n5I lo u := fun q fs hq e => h q fs hq ((B.2 q 6 fs (by decide) (by decide)).mp e)
theorem pgB.hi {q0 : pgQt} (h : pgB κ T sz x q0 σ τ) : pgLo q0 ≤ σ.2.1 ∧ pgHi q0 ≤ σ.2.1 := by
  obtain ⟨len, cnt, j, kk, pp, ee, f, fc, xs, is, e, α, lo, p, B, V, D, at2, cd', am2, nm, e0, fb, fr, fz, fn, g, ρ, lv, N, S, P, A, x0, g', ρ'⟩ := q0
  obtain ⟨-, hV, -, hS, -, -, ma, va, ra, fm, fv, gr, -, -, ⟨-, -, -, b4⟩, -⟩ := h
  have h1 := hV.2.1
  have h2 := hS.2.1
  show lo ≤ σ.2.1 ∧ V.2.1 + 7 ≤ σ.2.1
  exact ⟨by omega, b4⟩
/-- behind compile() all INPUTS are 0 -/
theorem lKo.z0 {q0 : pgQt} (h : pgB κ T sz x q0 u v) (ko : lKo x σ u) : ∀ i, i < 6 → v.2.2.2 103 i = 0 := fun i hi => by
  obtain ⟨len, cnt, j, kk, pp, ee, f, fc, xs, is, e, α, lo, p, B, V, D, at2, cd', am2, nm, e0, fb, fr, fz, fn, g, ρ, lv, N, S, P, A, x0, g', ρ'⟩ := q0
  obtain ⟨-, -, -, -, -, -, ma, va, ra, fm, fv, gr, hM, hG, -⟩ := h
  obtain ⟨gs, gm, ma', va', p', y', kd, f', g1, g2, g3, g4, g5, g6, g7, ⟨g8, g8'⟩, -⟩ := ko
  obtain ⟨-, -, e3⟩ := hM.va g6 (by
    simp only [List.getElem?_set_ne (show (5 : Nat) ≠ 12 by decide), List.getElem?_set_ne (show (4 : Nat) ≠ 12 by decide), List.getElem?_set_ne (show (3 : Nat) ≠ 12 by decide), List.getElem?_set_ne (show (2 : Nat) ≠ 12 by decide), List.getElem?_set_ne (show (1 : Nat) ≠ 12 by decide)]
    exact g2) g7 (by
    rw [List.getElem?_set_ne (by decide), List.getElem?_set_ne (by decide), List.getElem?_set_ne (by decide), List.getElem?_set_ne (by decide)]; exact g5)
  subst e3
  have m7 := hM.2.2.1
  rw [g8] at m7
  injection m7 with m7; injection m7 with m7; injection m7 with _ m7; injection m7 with _ m7; injection m7 with m7; injection m7 with m7
  rw [← hG.1 i hi, ← m7]
  exact g8' i hi
/-- the class's own object over run() -/
theorem hKr.xx (h : hKr x σ u) (hfr : ∀ q, σ.2.1 ≤ q → σ.1 q = none) (hW : ∃ lo hi hl, hMq x lo hi hl σ) : u.1 x = σ.1 x ∧ ∀ fs ma fm, σ.1 x = some (.inr (14, fs)) → fs[12]? = some (.ref ma) → σ.1 ma = some (.inr (5, fm)) → ∃ fm', u.1 ma = some (.inr (5, fm')) ∧ ∀ k, k = 6 ∨ k = 7 ∨ k = 8 → fm'[k]? = fm[k]? := by
  obtain ⟨fs, ma, gm, ha, wn, ws, wa, ha2, ⟨a1, a2⟩, ⟨a3, a5, w1, w2, w3⟩, K, gm', u1, u2, u3⟩ := h
  obtain ⟨lo, hi, hl, fs', ma', fm', va', hh, hp, wn', ws', wa', WN, WS, WA, ⟨b1, b2⟩, ⟨b3, -, -⟩, ⟨b6, b7, -⟩, ⟨⟨v1, v2, v3⟩, ⟨q1, q2, q3⟩, -⟩, -⟩ := hW
  rw [a1] at b1
  injection b1 with b1; injection b1 with b1; injection b1 with _ b1
  subst b1
  rw [a2] at b2
  injection b2 with b2; injection b2 with b2
  subst b2
  rw [a3] at b3
  injection b3 with b3; injection b3 with b3; injection b3 with _ b3
  subst b3
  rw [w1] at v1
  injection v1 with v1; injection v1 with v1
  subst v1
  rw [w2] at v2
  injection v2 with v2; injection v2 with v2
  subst v2
  rw [w3] at v3
  injection v3 with v3; injection v3 with v3
  subst v3
  rw [a5] at b6
  injection b6 with b6; injection b6 with b6
  subst b6
  refine ⟨K.1 x (Nat.lt_of_not_le (fun w => by rw [hfr x w] at a1; cases a1)) (fun z => by rw [z, a3] at a1; cases a1) (fun z => by rw [z, b7] at a1; cases a1) (fun z => ?_), fun fs2 ma2 fm2 e1 e2 e3 => ?_⟩
  · rcases z with z | z | z
    · rw [z, q1] at a1; cases a1
    · rw [z, q2] at a1; cases a1
    · rw [z, q3] at a1; cases a1
  · rw [a1] at e1
    injection e1 with e1; injection e1 with e1; injection e1 with _ e1
    subst e1
    rw [a2] at e2
    injection e2 with e2; injection e2 with e2
    subst e2
    rw [a3] at e3
    injection e3 with e3; injection e3 with e3; injection e3 with _ e3
    subst e3
    exact ⟨gm', u1, fun k hk => u3 k (by omega)⟩
/-- the rows' places -/
theorem hMq.bs {lo hi lo' hi' hl' : Nat} (A : hMq x lo hi hl σ) (C : hMq x lo' hi' hl' u) (h1 : u.1 x = σ.1 x) (h2 : ∀ fs ma fm, σ.1 x = some (.inr (14, fs)) → fs[12]? = some (.ref ma) → σ.1 ma = some (.inr (5, fm)) → ∃ fm', u.1 ma = some (.inr (5, fm')) ∧ ∀ k, k = 6 ∨ k = 7 ∨ k = 8 → fm'[k]? = fm[k]?) : hMq x lo 0 hl' u := by
  obtain ⟨fs, ma, fm, va, ha, hp, wn, ws, wa, WN, WS, WA, ⟨a1, a2⟩, ⟨a3, a4, a5⟩, -, ⟨⟨w1, w2, w3⟩, -⟩, c1, c2, c3⟩ := A
  obtain ⟨fs', ma', fm', va', ha', hp', wn', ws', wa', WN', WS', WA', ⟨b1, b2⟩, ⟨b3, b4, b5⟩, ⟨b6, b7, b8, b9, -⟩, W, -⟩ := C
  obtain ⟨⟨v1, v2, v3⟩, -⟩ := id W
  rw [h1, a1] at b1
  injection b1 with b1; injection b1 with b1; injection b1 with _ b1
  subst b1
  rw [a2] at b2
  injection b2 with b2; injection b2 with b2
  subst b2
  obtain ⟨gm, g1, g2⟩ := h2 fs ma fm a1 a2 a3
  rw [b3] at g1
  injection g1 with g1; injection g1 with g1; injection g1 with _ g1
  subst g1
  have e1 := (g2 6 (by omega)).symm.trans v1
  rw [w1] at e1
  injection e1 with e1; injection e1 with e1
  have e2 := (g2 7 (by omega)).symm.trans v2
  rw [w2] at e2
  injection e2 with e2; injection e2 with e2
  have e3 := (g2 8 (by omega)).symm.trans v3
  rw [w3] at e3
  injection e3 with e3; injection e3 with e3
  subst e1 e2 e3
  exact ⟨fs, ma, fm', va', ha', hp', wn, ws, wa, WN', WS', WA', ⟨by rw [h1]; exact a1, a2⟩, ⟨b3, b4, b5⟩, ⟨b6, b7, b8, b9, Or.inr (Nat.zero_le _)⟩, W, c1, c2, c3⟩
end LZB
