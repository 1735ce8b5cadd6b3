/-! one step of a script: all calls but accepted(), type(), run() of a PROGRAM -/
section LJS
variable {κ : oKv} {ks : Nat → Nat} {qs : List Nat} {T n n' x y sz K : Nat} {a : Nat → Int32} {σ u : oSt} {τ v : zSt}
/-- other cells than the class's own and the text's -/
theorem lKeep.o (hr : lRel x σ τ) (h : lKeep x σ τ u v) {q : Nat} {c : oC} (e : σ.1 q = some c) (hq : q ≠ x) (hc : ∀ n f, c ≠ .inl (.byte, n, .inl f)) : u.1 q = σ.1 q := by
  refine h.2.1 q hq (fun z => ?_)
  obtain ⟨gs, gm, ta, oa, ma, No, ft, go, ⟨g1, -⟩, ⟨f0, -⟩, ⟨t1, -⟩, -⟩ := hr
  rw [ofd_at g1, f0] at z
  injection z with z; injection z with z
  subst z
  rw [t1] at e
  injection e with e
  exact hc _ _ e.symm
theorem lKeep.rm (hr : lRel x σ τ) (h : lKeep x σ τ u v) (hR : oRm sz σ) : oRm sz u := by
  obtain ⟨hlow, hfr, hsz⟩ := hR
  have same : ∀ q, σ.1 q = none → u.1 q = none := fun q e => by
    obtain ⟨gs, gm, ta, oa, ma, No, ft, go, ⟨g1, -⟩, ⟨f0, -⟩, ⟨t1, -⟩, -⟩ := hr
    rw [h.2.1 q (fun z => by rw [z, g1] at e; cases e) (fun z => ?_)]
    · exact e
    · rw [ofd_at g1, f0] at z
      injection z with z; injection z with z
      subst z
      rw [t1] at e; cases e
  exact ⟨fun q hq => same q (hlow q hq), fun q hq => same q (hfr q (by rw [← h.2.2.1]; exact hq)), by rw [h.2.2.1]; exact hsz⟩
theorem lMv.keep {ma va ra : Nat} {fm : List Value} {fv : Nat → Int64} {gr : Nat → Option Nat} (hr : lRel x σ τ) (hr' : lRel x u v) (h : lKeep x σ τ u v) (hM : lMv x σ ma va ra fm fv gr) : lMv x u ma va ra fm fv gr := by
  obtain ⟨⟨n1, n2, n3⟩, ⟨n4, n5⟩, n6⟩ := hM.ne
  obtain ⟨⟨fs, h0, h0'⟩, ⟨h1, h1'⟩, h7, h8, h9, h10⟩ := hM
  obtain ⟨gs, -, -, -, -, -, -, -, ⟨g1, -⟩, -⟩ := hr'
  have mx : ma ≠ x := fun z => by rw [z, h0] at h1; cases h1
  refine ⟨⟨gs, g1, ?_⟩, ⟨(h.o hr h1 mx (fun _ _ z => by cases z)).trans h1, h1'⟩, (h.o hr h7 n1 (fun _ _ z => by cases z)).trans h7, (h.o hr h8 n4 (fun _ _ z => by cases z)).trans h8, fun i b hi e => ?_, h10⟩
  · have := h.1 12 (by decide)
    rw [ofd_at g1, ofd_at h0] at this
    rw [this]; exact h0'
  · obtain ⟨hh, e1⟩ := h9 i b hi e
    exact ⟨hh, (h.o hr e1 (n6 i b hi e).1 (fun _ _ z => by injection z with z; injection z with z; cases z)).trans e1⟩
set_option maxHeartbeats 1000000 in
/-- the PROGRAM stays while text is fed -/
theorem pgB.keep {q0 : pgQt} (hr : lRel x σ τ) (hr' : lRel x u v) (h : lKeep x σ τ u v) (hp : pgB κ T sz x q0 σ τ) : pgB κ T sz x q0 u v := by
  obtain ⟨len, cnt, j, kk, pp, ee, f, fc, xs, is, e, α, lo, p, B, V, D, at2, cd', am2, nm, e0, fb, fr, fz, fn, g, ρ, lv, N, S, P, A, x0, g', ρ'⟩ := q0
  obtain ⟨hT, hV, ⟨hB, hlo, hx, ta, hta, htl⟩, hS, hX, hRf, ma, va, ra, fm, fv, gr, hM, hG, ⟨b1, b2, b3, b4⟩, b5⟩ := hp
  have hp := hV.2.1
  obtain ⟨k1, k2, k3, k4, k5, k6, k7⟩ := id h
  obtain ⟨gs, -, -, -, -, -, -, -, ⟨g1, gl⟩, -⟩ := id hr'
  refine ⟨hT, hV, ⟨hB, hlo, hx, ta, (k1 0 (by decide)).trans hta, htl⟩, hS.cg hp (fun q h1 h2 => k2 q (by omega) (fun z => ?_)), ?_, ?_, ma, va, ra, fm, fv, gr, hM.keep hr hr' h, ⟨fun i hi => ?_, fun i y' hi h2 => ?_⟩, ⟨b1, b2, b3, by rw [k3]; exact b4⟩, b5⟩
  · rw [hta] at z
    injection z with z; injection z with z
    rw [z] at htl
    exact absurd h1 (Nat.not_le.mpr htl)
  · obtain ⟨fs', fm', ma', d1, d2, d3, d4, d5, d6, d7⟩ := hX
    have fe : ∀ k, k ≠ 1 → gs[k]? = fs'[k]? := fun k hk => by
      have := k1 k hk
      rw [ofd_at g1, ofd_at d1] at this
      exact this
    exact ⟨gs, fm', ma', g1, gl, (fe 2 (by decide)).trans d3, (fe 3 (by decide)).trans d4, (fe 12 (by decide)).trans d5, (h.o hr d6 (fun z => by rw [z, d1] at d6; cases d6) (fun _ _ z => by cases z)).trans d6, d7⟩
  · obtain ⟨d1, d2, ⟨⟨k, ⟨a1, a2⟩, ⟨a3, a4⟩, a5⟩, a6⟩, d4, d5⟩ := hRf
    have r : ∀ i, i ≠ 0 → v.2.2.1 i = τ.2.2.1 i := k6
    have nEk : nE v e 0 x0 = nE τ e 0 x0 := nE_keep (V := τ) (fun k hk => r k (by omega)) e 0 x0
    refine ⟨(k4 66 (by decide)).trans d1, d2.keep (fun k hk => k4 k (by omega)) (fun k _ _ h0 _ => r k h0), ⟨⟨k, ⟨(k4 59 (by decide)).trans a1, a2⟩, ⟨(k4 60 (by decide)).trans a3, a4⟩, ?_⟩, a6⟩, fun q hq ht => ?_, fun jj u' hj => ?_⟩
    · rw [r 34 (by decide), r 35 (by decide), r 36 (by decide), r 37 (by decide), r 38 (by decide)]; exact a5
    · rw [nEk] at hq
      obtain ⟨c, c1, c2⟩ := d4 q hq ht
      exact ⟨c, by rw [r 39 (by decide)]; exact c1, c2⟩
    · obtain ⟨c, c1, c2⟩ := d5 jj u' hj
      exact ⟨c, by rw [r 31 (by decide)]; exact c1, c2⟩
  · rw [k7]; exact hG.1 i hi
  · obtain ⟨q1, q2⟩ := hG.2 i y' hi h2
    refine ⟨q1, fun m hm => ?_⟩
    obtain ⟨b, hh, d1, d2, d3⟩ := q2 m hm
    have i6 : i < 6 := by
      have := hT.2.2.2.2.2.1.1.1.1
      by_cases z : i < is.length
      · omega
      · rw [List.getElem?_eq_none (by omega)] at hi; cases hi
    refine ⟨b, hh, d1, (h.o hr d2 (hM.ne.2.2 i b i6 d1).1 (fun _ _ z => by injection z with z; injection z with z; cases z)).trans d2, ?_⟩
    rw [k7]; exact d3
/-- **the invariant** (the Checker's state and the Judge's cells apart) -/
def lJ (κ : oKv) (T sz x K : Nat) (σ : oSt) (τ : zSt) : Prop := lRel x σ τ ∧ oRm sz σ ∧ τ.1 45 = 0 ∧ (∃ k, τ.1 60 = nI k ∧ k ≤ K) ∧ (∃ ma va ra fm fv gr, lMv x σ ma va ra fm fv gr) ∧ (lNo x σ τ ∨ ∃ q0, pgB κ T sz x q0 σ τ)
theorem pgB.mv {q0 : pgQt} (h : pgB κ T sz x q0 σ τ) : ∃ ma va ra fm fv gr, lMv x σ ma va ra fm fv gr := by
  obtain ⟨_, _, _, _, _, _, _, _, _, _, _, _, _, _, _, _, _, _, _, _, _, _, _, _, _, _, _, _, _, _, _, _, _, _, _, _⟩ := q0
  obtain ⟨-, -, -, -, -, -, ma', va', ra', fm', fv', gr', hm, -⟩ := h
  exact ⟨ma', va', ra', fm', fv', gr', hm⟩
theorem lNo.none (h : lNo x σ τ) : lNone x σ τ := by
  obtain ⟨⟨fs, h1, h2, -⟩, h3⟩ := h
  exact ⟨by rw [ofd_at h1]; exact h2, h3⟩
theorem lNo.keep (hr' : lRel x u v) (h : lNo x σ τ) (k : lKeep x σ τ u v) : lNo x u v := by
  obtain ⟨⟨fs, h1, h2, h4⟩, h3⟩ := h
  obtain ⟨gs, -, -, -, -, -, -, -, ⟨g1, -⟩, -⟩ := hr'
  have fe : ∀ i, i ≠ 1 → gs[i]? = fs[i]? := fun i hi => by
    have := k.1 i hi
    rw [ofd_at g1, ofd_at h1] at this
    exact this
  exact ⟨⟨gs, g1, (fe 2 (by decide)).trans h2, (fe 4 (by decide)).trans h4⟩, (k.2.2.2.1 66 (by decide)).trans h3⟩
theorem lJ.keep (h : lJ κ T sz x K σ τ) (hr' : lRel x u v) (k : lKeep x σ τ u v) : lJ κ T sz x K u v := by
  obtain ⟨h1, h2, h3, ⟨k0, h4, h5⟩, ⟨ma, va, ra, fm, fv, gr, h6⟩, h7⟩ := h
  exact ⟨hr', k.rm h1 h2, (k.2.2.2.1 45 (by decide)).trans h3, ⟨k0, (k.2.2.2.1 60 (by decide)).trans h4, h5⟩, ⟨ma, va, ra, fm, fv, gr, h6.keep h1 hr' k⟩, h7.elim (fun z => Or.inl (z.keep hr' k)) (fun ⟨q0, z⟩ => Or.inr ⟨q0, pgB.keep h1 hr' k z⟩)⟩
/-- **one step**, but for accepted(), type() and run() of a PROGRAM -/
theorem lJ_step (hf : lFacts κ ks sz) (hκ : κ.2.2.1 < sz) (hT : 500000 ≤ T) (hn : 1640 ≤ n') (hK : K + 9002 < 2 ^ 30) (h : lJ κ T sz x K σ τ) : ∀ k, (k ≠ 3 ∧ k ≠ 5 ∧ k ≠ 9) ∨ lNo x σ τ → ∃ u v, lst (oF κ T (n + 331)) (zF y qs ks T (n' + 135)) x y a σ τ k = some (u, v) ∧ lJ κ T sz x (K + 9001) u v := by
  have hh := h
  obtain ⟨h1, h2, h3, ⟨k0, h4, h5⟩, ⟨ma, va, ra, fm, fv, gr, h6⟩, h7⟩ := h
  have up : ∀ u v, lJ κ T sz x K u v → lJ κ T sz x (K + 9001) u v := fun u v ⟨q1, q2, q3, ⟨k, q4, q5⟩, q6⟩ => ⟨q1, q2, q3, ⟨k, q4, by omega⟩, q6⟩
  intro k hk
  match k, hk with
  | 0, _ =>
    obtain ⟨u, v, l1, l2, l3⟩ := lr_feed (κ := κ) (ks := ks) (qs := qs) (T := T) (n := n + 329) (n' := n' + 134) (y := y) (a := a) (by omega) h1
    exact ⟨u, v, l1, up _ _ (hh.keep l2 l3)⟩
  | 1, _ =>
    obtain ⟨u, v, l1, l2, l3⟩ := lr_end (κ := κ) (ks := ks) (qs := qs) (T := T) (n := n + 330) (n' := n' + 134) (y := y) (a := a) h1
    exact ⟨u, v, l1, up _ _ (hh.keep l2 l3)⟩
  | 2, _ =>
    obtain ⟨gs, gm, ta, oa, ma', No, ft, go, -, -, ⟨t1, t2, t3, t4⟩, -⟩ := id h1
    have h3' : τ.1 3 = nI (τ.1 3).toNatClampNeg := by
      rw [← Int32.toInt_inj, nI_toInt (by have := i32_cl t2; omega)]
      exact (i32_cl t2).symm
    have hlen : (τ.1 3).toNatClampNeg ≤ 2000 := by have := i32_cl t2; omega
    obtain ⟨u, v, l1, ⟨l2, l3, l4, ⟨k', l5, l5'⟩, l6⟩, l7⟩ := lr_compile (κ := κ) (ks := ks) (qs := qs) (n := n) (n' := n') (y := y) (a := a) h6 hf hκ h2 hT h1 h3 h4 (by omega) h3' hlen hn
    refine ⟨u, v, l1, l2, l3, l4, ⟨k', l5, by omega⟩, ?_, ?_⟩
    · rcases l7 with ⟨-, z⟩ | ⟨z, -, -⟩
      · obtain ⟨fm', hm⟩ := h6.kc h2 z
        exact ⟨ma, va, ra, fm', fv, gr, hm⟩
      · obtain ⟨q0, z, -⟩ := z
        exact z.mv
    · exact l7.elim (fun z => Or.inl z.1) (fun ⟨⟨q0, z, _⟩, _⟩ => Or.inr ⟨q0, z⟩)
  | 3, hk =>
    have hno := hk.resolve_left (fun z => z.1 rfl)
    exact ⟨σ, τ, ln_accepted (n := n + 330) (n' := n' + 134) hno.none, up _ _ hh⟩
  | 4, _ => exact ⟨σ, τ, lr_place (n := n + 330) (n' := n' + 134) h1, up _ _ hh⟩
  | 5, hk =>
    have hno := hk.resolve_left (fun z => z.2.1 rfl)
    exact ⟨σ, τ, ln_type (n := n + 330) (n' := n' + 134) hno.none, up _ _ hh⟩
  | 6, _ => exact ⟨σ, τ, lr_out (n := n + 330) (n' := n' + 134) h1, up _ _ hh⟩
  | 7, _ =>
    rcases h7 with z | ⟨q0, z⟩
    · exact ⟨σ, τ, ln_give (n := n + 330) (n' := n' + 134) z.none, up _ _ hh⟩
    · obtain ⟨u, v, l1, l2, l3, l4, ⟨l5, l6, l7⟩, -⟩ := lr_give (κ := κ) (ks := ks) (qs := qs) (n := n + 327) (n' := n' + 134) (y := y) (a := a) z h1 h2 hκ (by omega)
      refine ⟨u, v, l1, l3, l4, by rw [l5]; exact h3, ⟨k0, by rw [l5]; exact h4, by omega⟩, l2.mv, Or.inr ⟨q0, l2⟩⟩
  | 8, _ =>
    rcases h7 with z | ⟨q0, z⟩
    · exact ⟨σ, τ, ln_element (n := n + 330) (n' := n' + 134) z.none, up _ _ hh⟩
    · obtain ⟨u, v, l1, l2, l3, l4, ⟨l5, l6, l7⟩, -⟩ := lr_element (κ := κ) (ks := ks) (qs := qs) (n := n + 327) (n' := n' + 134) (y := y) (a := a) z h1 h2 hκ
      refine ⟨u, v, l1, l3, l4, by rw [l5]; exact h3, ⟨k0, by rw [l5]; exact h4, by omega⟩, l2.mv, Or.inr ⟨q0, l2⟩⟩
  | 9, hk =>
    have hno := hk.resolve_left (fun z => z.2.2 rfl)
    exact ⟨σ, τ, ln_run (n := n + 330) (n' := n' + 134) hno.none, up _ _ hh⟩
  | 10, _ => exact ⟨σ, τ, lr_value (n := n + 330) (n' := n' + 134) h1, up _ _ hh⟩
  | 11, _ => exact ⟨σ, τ, lr_fuel (n := n + 330) (n' := n' + 134) h1, up _ _ hh⟩
  | k + 12, _ => exact ⟨σ, τ, rfl, up _ _ hh⟩
end LJS
