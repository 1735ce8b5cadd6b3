/-! one step of a script: type() of a PROGRAM -/
/-- cells that type() leaves -/
def lTk (c : oC) : Prop := match c with
  | .inr o => o.1 ≠ 14 ∧ o.1 ≠ 1 ∧ o.1 ≠ 4
  | .inl y => y.1 ≠ .byte ∧ y.1 ≠ .object "java/lang/Object"
/-- what type() leaves of the class's state -/
def lTf (x lo hi : Nat) (σ u : oSt) : Prop := σ.2.1 ≤ u.2.1 ∧ (∀ q c, σ.1 q = some c → lTk c → u.1 q = some c) ∧ (∀ q c, lo ≤ q → q < hi → σ.1 q = some c → (∀ f, c ≠ .inr (4, f)) → u.1 q = some c) ∧ (∀ fs, σ.1 x = some (.inr (14, fs)) → ∃ fs', u.1 x = some (.inr (14, fs')) ∧ fs'.length = fs.length ∧ ∀ k, k ≠ 6 → k ≠ 7 → k ≠ 8 → k ≠ 9 → fs'[k]? = fs[k]?) ∧ ∀ q f, σ.1 q = some (.inr (4, f)) → ∃ f', u.1 q = some (.inr (4, f')) ∧ f'.length = f.length ∧ ∀ i, i < 11 → f'[i]? = f[i]?
/-- what it leaves of the reference's -/
def zTf (τ v : zSt) : Prop := (∀ k, k ∉ [5, 138, 139, 141, 158, 160] → v.1 k = τ.1 k) ∧ (∀ k, k ≠ 140 → v.2.1 k = τ.2.1 k) ∧ (∀ k, k ∉ [2, 101, 102] → v.2.2.1 k = τ.2.2.1 k) ∧ v.2.2.2 = τ.2.2.2
section PCW
variable {κ : oKv} {T lo cnt : Nat} {kk pp ee f fc : Nat → Int32} {is : List (Nat × Nat)} {e : tT} {α : Nat → tY} {B : Nat → Nat} {p : Nat} {V : oSt} {D : cDt} {nm : Nat → Option Nat} {e0 : Nat} {g : gG} {ρ : Nat → tY} {lv : Int32} {σ σ' : oSt}
theorem o4_ne {k : Nat} {fs : List Value} (hk : k ≠ 4) (f : List Value) : (Sum.inr (k, fs) : oC) ≠ .inr (4, f) := fun z => by
  injection z with z; injection z with z _
  exact hk z
/-- Knowns are no part of a PROGRAM -/
theorem pgS.cw (h : pgS κ T lo cnt kk pp ee f fc is e α B p V D nm e0 g ρ lv σ) (hp : p < V.2.1) (hu : ∀ a c, lo ≤ a → a < V.2.1 + 7 → σ.1 a = some c → (∀ f, c ≠ .inr (4, f)) → σ'.1 a = some c) : pgS κ T lo cnt kk pp ee f fc is e α B p V D nm e0 g ρ lv σ' := by
  obtain ⟨⟨h1, h2, h3, h4⟩, hl, hy, hn, hX, he, c, c1, c2⟩ := h
  have lt : ∀ a c, V.1 a = some c → a < V.2.1 := fun a c e => by
    by_cases z : a < V.2.1
    · exact z
    · rw [h4 a (by omega)] at e; cases e
  have o7 : ∀ m y, lo ≤ m → m < V.2.1 + 7 → ofd σ (some m) 7 8 = some y → ofd σ' (some m) 7 8 = some y := fun m y hm hm' e => by
    obtain ⟨a, fs, e1, e2, e3⟩ := lg_ofd e
    injection e1 with e1
    subst e1
    rw [ofd_at (hu _ _ hm hm' e2 (o4_ne (by decide)))]
    exact e3
  refine ⟨⟨fun a fs ha e => ?_, fun a fs ha e => ?_, fun a cc ha e n7 n6 n2 n8 => hu a cc ha (by have := lt a _ e; omega) (h3 a cc ha e n7 n6 n2 n8) (fun f z => n2 4 f z (by decide)), h4⟩, hl, ?_, fun u hu' => ?_, ?_, he, c, o7 e0 _ (by omega) (by omega) c1, c2⟩
  · obtain ⟨v, w, q⟩ := h1 a fs ha e
    exact ⟨v, w, hu a _ ha (by have := lt a _ e; omega) q (o4_ne (by decide))⟩
  · obtain ⟨gs, q1, q2⟩ := h2 a fs ha e
    exact ⟨gs, hu a _ ha (by have := lt a _ e; omega) q1 (o4_ne (by decide)), q2⟩
  · obtain ⟨F, ⟨y1, y2, y3⟩, y4⟩ := hy
    exact ⟨F, ⟨hu _ _ (by omega) (by omega) y1 (o4_ne (by decide)), fun i hi => hu _ _ (by show lo ≤ V.2.1 + 1 + i; omega) (by show V.2.1 + 1 + i < V.2.1 + 7; omega) (y2 i hi) (fun f z => by cases z), y3⟩, y4⟩
  · obtain ⟨b, fs, c, gs, b1, b2, b3, b4, b5⟩ := hn u hu'
    exact ⟨b, fs, c, gs, b1, b2, b3, hu b _ (by omega) (by have := lt b _ b3; omega) b4 (o4_ne (by decide)), b5⟩
  · exact cTX.imo (lo0 := 0) e p _ _ _ _ _ (Nat.zero_le _) (fun m u fs _ hm' hx => by
      obtain ⟨⟨c, d1, d2⟩, hm⟩ := hx
      exact ⟨⟨c, o7 m _ (by omega) (by have := lt m _ hm'; omega) d1, d2⟩, hm⟩) hX
end PCW
section LTF
variable {κ : oKv} {T sz x lo hi lo' hi' hl b0 jd o ol : Nat} {σ u : oSt} {τ v : zSt} {ma va ra : Nat} {fm : List Value} {fv : Nat → Int64} {gr : Nat → Option Nat}
theorem lTf.ob (t : lTf x lo hi σ u) {q k : Nat} {fs : List Value} (e : σ.1 q = some (.inr (k, fs))) (h14 : k ≠ 14) (h1 : k ≠ 1) (h4 : k ≠ 4) : u.1 q = some (.inr (k, fs)) := t.2.1 q _ e ⟨h14, h1, h4⟩
theorem lTf.r (t : lTf x lo hi σ u) {q : Nat} {y} (e : σ.1 q = some (.inl y)) (h1 : y.1 ≠ .byte) (h2 : y.1 ≠ .object "java/lang/Object") : u.1 q = some (.inl y) := t.2.1 q _ e ⟨h1, h2⟩
theorem lTf.mv (t : lTf x lo hi σ u) (M : lMv x σ ma va ra fm fv gr) : lMv x u ma va ra fm fv gr := by
  obtain ⟨⟨gs, m1, m2⟩, ⟨m3, m4, m5, m6⟩, m7, m8, m9, m10⟩ := M
  obtain ⟨fs', w1, -, w3⟩ := t.2.2.2.1 gs m1
  refine ⟨⟨fs', w1, (w3 12 (by decide) (by decide) (by decide) (by decide)).trans m2⟩, ⟨t.ob m3 (by decide) (by decide) (by decide), m4, m5, m6⟩, t.r m7 (fun z => by cases z) (fun z => by cases z), t.r m8 (fun z => by cases z) (fun z => by cases z), fun i b hi hb => ?_, m10⟩
  obtain ⟨h, e⟩ := m9 i b hi hb
  exact ⟨h, t.r e (fun z => by cases z) (fun z => by cases z)⟩
theorem lTf.mq (t : lTf x lo hi σ u) (h : hMq x lo' hi' hl σ) : hMq x lo' hi' hl u := by
  obtain ⟨fs, ma, fm, va, ha, hp, wn, ws, wa, WN, WS, WA, ⟨a1, a2⟩, ⟨a3, a4, a5⟩, ⟨a6, a7, a8, a9, a10⟩, ⟨w, ⟨q1, q2, q3⟩, d⟩, c⟩ := h
  obtain ⟨fs', w1, -, w3⟩ := t.2.2.2.1 fs a1
  exact ⟨fs', ma, fm, va, ha, hp, wn, ws, wa, WN, WS, WA, ⟨w1, (w3 12 (by decide) (by decide) (by decide) (by decide)).trans a2⟩, ⟨t.ob a3 (by decide) (by decide) (by decide), a4, a5⟩, ⟨a6, t.r a7 (fun z => by cases z) (fun z => by cases z), a8, a9, a10⟩, ⟨w, ⟨t.r q1 (fun z => by cases z) (fun z => by injection z with z; exact absurd z (by decide)), t.r q2 (fun z => by cases z) (fun z => by cases z), t.r q3 (fun z => by cases z) (fun z => by cases z)⟩, d⟩, c⟩
theorem lTf.jg (t : lTf x lo hi σ u) (J : lJd x b0 jd o ol σ) : lJd x b0 jd o ol u := by
  obtain ⟨fs, ma, fm, va, ha, ca, pa, ph, ta, th, len, W, b, cl, fa, f, rd, wk, ps, P, Tr, ⟨a1, a2, a3⟩, ⟨a4, a5, a6⟩, J, jl, jp, c1, c2⟩ := J
  obtain ⟨fs', w1, -, w3⟩ := t.2.2.2.1 fs a1
  obtain ⟨j1, ⟨j2, j3⟩, ⟨gp, hp, j4, j5, -⟩, ⟨gt, ht, j6, j7, -⟩, -⟩ := id J
  refine ⟨fs', ma, fm, va, ha, ca, pa, ph, ta, th, len, W, b, cl, fa, f, rd, wk, ps, P, Tr, ⟨w1, (w3 11 (by decide) (by decide) (by decide) (by decide)).trans a2, (w3 12 (by decide) (by decide) (by decide) (by decide)).trans a3⟩, ⟨t.ob a4 (by decide) (by decide) (by decide), a5, a6⟩, J.cg (fun z hz => ?_), jl, jp, c1, c2⟩
  rcases hz with r | r | r | r | r | r | r
  · rw [r, j1]; exact t.ob j1 (by decide) (by decide) (by decide)
  · rw [r, j2]; exact t.ob j2 (by decide) (by decide) (by decide)
  · rw [r, j3]; exact t.r j3 (fun z => by cases z) (fun z => by cases z)
  · rw [r, j4]; exact t.r j4 (fun z => by cases z) (fun z => by injection z with z; exact absurd z (by decide))
  · rw [r, j5]; exact t.r j5 (fun z => by cases z) (fun z => by cases z)
  · rw [r, j6]; exact t.r j6 (fun z => by cases z) (fun z => by injection z with z; exact absurd z (by decide))
  · rw [r, j7]; exact t.r j7 (fun z => by cases z) (fun z => by cases z)
theorem lTf.ta (t : lTf x lo hi σ u) (L : Nat × (Nat → Prop)) : tyA L σ u := ⟨fun q k fs hk e => t.ob e (by omega) (by omega) (by omega), t.2.2.2.2, fun q ty n g _ e hc => by
  rcases hc with r | r | ⟨r, -⟩ <;> subst r
  · exact t.r e (fun z => by cases z) (fun z => by injection z with z; exact absurd z (by decide))
  · exact t.r e (fun z => by cases z) (fun z => by injection z with z; exact absurd z (by decide))
  · exact t.r e (fun z => by cases z) (fun z => by cases z)⟩
theorem zTf.q (z : zTf τ v) : tyQ τ v := ⟨fun k h1 h2 => z.2.2.1 k (fun w => by
  simp only [List.mem_cons, List.not_mem_nil, or_false] at w h1
  omega), by rw [z.2.2.2], by rw [z.2.2.2]⟩
theorem lTf.ty {q0 : pgQt} (t : lTf x lo hi σ u) (z : zTf τ v) (h : lTy x q0 σ τ) : lTy x q0 u v := h.to (fun Q _ ⟨ma, va, ra, fm, fv, gr, g1, g2⟩ => ⟨t.ta _, ma, va, ra, fm, fv, gr, t.mv g1, g2⟩) z.q t.1
/-- a PROGRAM over type() -/
theorem pgB.tf {q0 : pgQt} (hp : pgB κ T sz x q0 σ τ) (t : lTf x (pgLo q0) (pgHi q0) σ u) (z : zTf τ v) : pgB κ T sz x q0 u v := by
  obtain ⟨len, cnt, j, kk, pp, ee, f, fc, xs, is, e, α, lo, p, B, V, D, at2, cd', am2, nm, e0, fb, fr, fz, fn, g, ρ, lv, N, S, P, A, x0, g', ρ'⟩ := q0
  obtain ⟨hT, hV, ⟨hB, hlo, hx, ta, hta, htl⟩, hS, hX, hRf, ma, va, ra, fm, fv, gr, hM, hG, ⟨b1, b2, b3, b4⟩, b5⟩ := hp
  have hp := hV.2.1
  obtain ⟨k1, k2, k3, k4⟩ := id z
  have r : ∀ i, i ≠ 2 → i < 101 → v.2.2.1 i = τ.2.2.1 i := fun i h1 h2 => k3 i (fun w => by
    simp only [List.mem_cons, List.not_mem_nil, or_false] at w
    omega)
  refine ⟨hT, hV, ⟨hB, hlo, hx, ta, ?_, htl⟩, hS.cw hp (fun a c h1 h2 e1 e2 => t.2.2.1 a c h1 h2 e1 e2), ?_, ?_, ma, va, ra, fm, fv, gr, t.mv hM, ⟨fun i hi => ?_, fun i y' hi h2 => ?_⟩, ⟨b1, b2, b3, Nat.le_trans b4 t.1⟩, b5⟩
  · obtain ⟨q, fs, e1, e2, e3⟩ := lg_ofd hta
    injection e1 with e1
    subst e1
    obtain ⟨fs', w1, -, w3⟩ := t.2.2.2.1 fs e2
    rw [ofd_at w1, w3 0 (by decide) (by decide) (by decide) (by decide)]
    exact e3
  · obtain ⟨fs', fm', ma', d1, d2, d3, d4, d5, d6, d7⟩ := hX
    obtain ⟨gs, w1, w2, w3⟩ := t.2.2.2.1 fs' d1
    exact ⟨gs, fm', ma', w1, w2.trans d2, (w3 2 (by decide) (by decide) (by decide) (by decide)).trans d3, (w3 3 (by decide) (by decide) (by decide) (by decide)).trans d4, (w3 12 (by decide) (by decide) (by decide) (by decide)).trans d5, t.ob d6 (by decide) (by decide) (by decide), d7⟩
  · obtain ⟨d1, d2, ⟨⟨k, ⟨a1, a2⟩, ⟨a3, a4⟩, a5⟩, a6⟩, d4, d5⟩ := hRf
    have nEk : nE v e 0 x0 = nE τ e 0 x0 := nE_keep (V := τ) (fun k hk => r k (by omega) (by omega)) e 0 x0
    refine ⟨(k1 66 (by decide)).trans d1, d2.keep (fun k hk => k1 k (by rcases hk with w | w | w | w | w <;> (rw [w]; decide))) (fun k hk _ _ h2 => r k h2 (by omega)), ⟨⟨k, ⟨(k1 59 (by decide)).trans a1, a2⟩, ⟨(k1 60 (by decide)).trans a3, a4⟩, ?_⟩, a6⟩, fun q hq ht => ?_, fun jj u' hj => ?_⟩
    · rw [r 34 (by decide) (by decide), r 35 (by decide) (by decide), r 36 (by decide) (by decide), r 37 (by decide) (by decide), r 38 (by decide) (by decide)]; exact a5
    · rw [nEk] at hq
      obtain ⟨c, c1, c2⟩ := d4 q hq ht
      exact ⟨c, by rw [r 39 (by decide) (by decide)]; exact c1, c2⟩
    · obtain ⟨c, c1, c2⟩ := d5 jj u' hj
      exact ⟨c, by rw [r 31 (by decide) (by decide)]; exact c1, c2⟩
  · rw [k4]; exact hG.1 i hi
  · obtain ⟨q1, q2⟩ := hG.2 i y' hi h2
    refine ⟨q1, fun m hm => ?_⟩
    obtain ⟨b, hh, d1, d2, d3⟩ := q2 m hm
    exact ⟨b, hh, d1, t.r d2 (fun z => by cases z) (fun z => by cases z), by rw [k4]; exact d3⟩
/-- what type() leaves, by its two steps -/
theorem lTf_of {nl da d da' d' cl len cap : Nat} {mc : Int32} {g : Nat → Option Nat} {gb : Nat → Int32} {fs : List Value} {u2 u4 : oSt} (hfr : ∀ q, σ.2.1 ≤ q → σ.1 q = none) (hx : σ.1 x = some (.inr (14, fs))) (hnl : cLs κ σ nl d cl len mc g 6) (hda : σ.1 da = some (.inl (.byte, cap, .inl gb))) (b : tBg x nl d σ u2) (w : tFww x nl da d u2 da' d' u4) (hxl : x < lo) (hn : nl < lo) (hd1 : da < lo ∨ hi ≤ da) (hd2 : d < lo ∨ hi ≤ d) {fs4 : List Value} (e4 : u4.1 x = some (.inr (14, fs4))) (hl4 : fs4.length = fs.length) (hk4 : ∀ k, k ≠ 7 → k ≠ 9 → fs4[k]? = fs[k]?) {gs : List Value} (hu : u = u4 ∨ (u = oput u4 x (.inr (14, gs)) ∧ gs.length = fs.length ∧ ∀ k, k ≠ 6 → k ≠ 7 → k ≠ 8 → gs[k]? = fs4[k]?)) : lTf x lo hi σ u ∧ (∀ q c, σ.1 q = some c → q ≠ x → q ≠ da → q ≠ nl → q ≠ d → (∀ f, c ≠ .inr (4, f)) → u.1 q = some c) := by
  have lt : ∀ {q : Nat} {c : oC}, σ.1 q = some c → q < σ.2.1 := fun {q c} z => Nat.lt_of_not_le (fun w => by rw [hfr q w] at z; cases z)
  have ue : ∀ q, q ≠ x → u.1 q = u4.1 q := fun q hq => by
    rcases hu with r | ⟨r, -⟩
    · rw [r]
    · rw [r, oput_ne hq]
  have un : u.2 = u4.2 := by
    rcases hu with r | ⟨r, -⟩ <;> rw [r] <;> rfl
  have s2 : ∀ q c, σ.1 q = some c → q ≠ x → q ≠ nl → q ≠ d → u2.1 q = some c := fun q c e h1 h2 h3 => (b.1 q h1 h2 (Or.inl h3)).trans e
  have K : ∀ q c, σ.1 q = some c → q ≠ x → q ≠ da → q ≠ nl → q ≠ d → (∀ f, c ≠ .inr (4, f)) → u.1 q = some c := fun q c e h1 h2 h3 h4 h5 => by
    have e2 := s2 q c e h1 h3 h4
    rw [ue q h1, w.1 q (by rw [b.2]; exact lt e) h1 h2 h3 (Or.inl h4) (fun f z => by rw [e2] at z; injection z with z; exact h5 f z)]
    exact e2
  have ex : ∀ {c : oC}, σ.1 x = some c → c = .inr (14, fs) := fun {c} z => by rw [hx] at z; injection z with z; exact z.symm
  have en : ∀ {c : oC}, σ.1 nl = some c → c = .inr (1, [.int mc, .ref d, .int (nI len)]) := fun {c} z => by rw [hnl.1] at z; injection z with z; exact z.symm
  have ed : ∀ {c : oC}, σ.1 d = some c → c = .inl (.object "java/lang/Object", cl, .inr (.inr (.inr (.inr g)))) := fun {c} z => by
    rcases hnl.2.1 with ⟨-, -, -, r⟩ | ⟨r, -⟩
    · rw [r] at z; cases z
    · rw [r] at z; injection z with z; exact z.symm
  have ea : ∀ {c : oC}, σ.1 da = some c → c = .inl (.byte, cap, .inl gb) := fun {c} z => by rw [hda] at z; injection z with z; exact z.symm
  refine ⟨⟨?_, fun q c e hc => ?_, fun q c h1 h2 e h4 => ?_, fun fs0 e => ?_, fun q f e => ?_⟩, K⟩
  · rw [un]
    have := w.2.2.2.1
    rw [b.2] at this
    exact this
  · refine K q c e (fun z => ?_) (fun z => ?_) (fun z => ?_) (fun z => ?_) (fun f z => ?_)
    · rw [z] at e; rw [ex e] at hc; exact hc.1 rfl
    · rw [z] at e; rw [ea e] at hc; exact hc.1 rfl
    · rw [z] at e; rw [en e] at hc; exact hc.2.1 rfl
    · rw [z] at e; rw [ed e] at hc; exact hc.2 rfl
    · rw [z] at hc; exact hc.2.2 rfl
  · exact K q c e (by omega) (by omega) (by omega) (by omega) h4
  · have e0 := ex e
    injection e0 with e0; injection e0 with _ e0
    rw [e0]
    rcases hu with r | ⟨r, r2, r3⟩
    · rw [r]
      exact ⟨fs4, e4, hl4, fun k _ h7 _ h9 => hk4 k h7 h9⟩
    · refine ⟨gs, by rw [r]; exact oput_eq _ _ _, r2, fun k h6 h7 h8 h9 => (r3 k h6 h7 h8).trans (hk4 k h7 h9)⟩
  · have qx : q ≠ x := fun z => by
      rw [z] at e
      have := ex e
      injection this with this; injection this with this _
      exact absurd this (by decide)
    have e2 := s2 q _ e qx (fun z => by
      rw [z] at e
      have := en e
      injection this with this; injection this with this _
      exact absurd this (by decide)) (fun z => by rw [z] at e; cases ed e)
    obtain ⟨f', w1, w2, w3⟩ := w.2.2.2.2.2 q f e2
    exact ⟨f', (ue q qx).trans w1, w2, w3⟩
end LTF
