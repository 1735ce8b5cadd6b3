/-! one step of a script: accepted() of a PROGRAM -/
/-- capacities and room, where accepted() is asked the first time -/
def lAk (κ : oKv) (T x n jd : Nat) (q0 : pgQt) (σ : oSt) : Prop := match q0 with
  | (_, _, _, _, pp, ee, f, _, xs, is, e, α, _, p, _, V, _, _, _, _, _, _, _, _, _, _, _, _, _, _, _, _, _, _, _, _) => (∃ A0 yc, nbL A0 ∧ pCap T f pp ee xs is e α (fun _ => gNtd) A0 yc) ∧ ∀ σ1 σ2, jS1 κ x p V.2.1 jd σ σ1 → oF κ T (n + 5) 37 [va_rf (some σ.2.1)] σ1 = some (none, σ2) → σ2.2.1 + 26 < T
/-- what accepted() of a PROGRAM takes, where it is asked the first time -/
def lAu (T ol ol' : Nat) (q0 : pgQt) (σ u : oSt) : Prop := match q0 with
  | (_, _, _, _, pp, ee, f, _, xs, is, e, α, _, _, _, _, _, _, _, _, _, _, _, _, _, _, _, _, _, _, _, _, _, _, _, _) => ∃ A0, nbL A0 ∧ pAU T f pp ee xs is e α (fun _ => gNtd) A0 ol ol' σ u
section LZC
variable {κ : oKv} {ks : Nat → Nat} {qs : List Nat} {T n n' x y sz K b0 jd o ol hl : Nat} {dq : Nat × Nat × Nat} {Q : Option pgQt} {Kc : Int} {a : Nat → Int32} {σ u : oSt} {τ v : zSt}
theorem oput_id {q : Nat} {c : oC} (e : σ.1 q = some c) : oput σ q c = σ := by
  refine Prod.ext ?_ rfl
  funext z
  by_cases h : z = q
  · rw [h, e]; exact oput_eq _ _ _
  · exact oput_ne h
/-- a row of longs over accepted() -/
theorem lg_ac {va : Nat} {fv : Nat × (Nat → Int64)} {N : Nat} {G : zCl} (h : lst (oF κ T N) G x y a σ τ 3 = some (u, v)) (l : lgP va fv σ) : lgP va fv u := by
  obtain ⟨r, e1, -⟩ := lcpI_w (show lcpI (oF κ T N 179 [.ref x] σ) (G 111 [.ref y] τ) = some (u, v) from h)
  exact (cQoL_oF (κ := κ) T N).c179 (some x) σ l _ e1
set_option maxHeartbeats 1000000 in
/-- **accepted()** of a PROGRAM -/
theorem lZ_ac {q0 : pgQt} (hκ : κ.2.2.1 < sz) (hT : 500000 ≤ T) (hqs : qs.getD 88 0 ≠ qs.getD 87 0) (h : lZ κ T sz x K b0 jd o ol Kc hl dq Q σ τ) (hQ : Q = some q0) (Z : lZp κ T sz x b0 hl dq q0 σ τ) (hA : τ.1 67 = 0 → lAk κ T x (n + 1317) jd q0 σ) : ∃ u v ol', lst (oF κ T (n + 1323)) (zF y qs ks T (n' + 1311)) x y a σ τ 3 = some (u, v) ∧ lZ κ T sz x (K + 9001) b0 jd o ol' Kc hl dq Q u v ∧ ((τ.1 67 = 1 ∧ u = σ ∧ v = τ ∧ ol' = ol) ∨ (τ.1 67 = 0 ∧ v.1 67 = 1 ∧ lAu T ol ol' q0 σ u)) ∧ v.1 3 = τ.1 3 := by
  have hh := h
  obtain ⟨⟨h1, h2, h3, ⟨k0, h4, h5⟩, ⟨ma, va, ra, fm, fv, gr, h6⟩⟩, ⟨m1, m2, m3, m4, m5, m6, m7⟩, hb0, -⟩ := h
  obtain ⟨z1, z2, z3, ⟨fs, z4, z5⟩, z6, z8, z9⟩ := Z
  have hfr := h2.2.1
  obtain ⟨fs0, ma0, fm0, va0, ha, ca, pa, ph, ta, th, len0, W, b, cl, fa, ff, rd, wk, ps, P, Tr, ⟨a1, a2, a3⟩, ⟨a4, a5, a6⟩, J, jl, jp, c1, c2⟩ := id m2
  rw [z4] at a1
  injection a1 with a1; injection a1 with a1; injection a1 with _ a1
  subst a1
  obtain ⟨rfl, rfl, rfl⟩ := h6.va z4 a3 a4 a5
  have hl13 : fs.length = 13 ∧ fs[5]? = some (.int (τ.1 69)) := by
    obtain ⟨gs, gm, ta', oa, ma', No, ft, go, ⟨gx, gl⟩, ⟨-, -, f5, -⟩, -⟩ := id h1
    rw [z4] at gx
    injection gx with gx; injection gx with gx; injection gx with _ gx
    subst gx
    exact ⟨gl, f5⟩
  rcases z5 with ⟨f4, h67, n5⟩ | ⟨c, cf, f4, e1, e2, h67, h68⟩
  · obtain ⟨len, cnt, j, kk, pp, ee, f, fc, xs, is, e, α, lo, p, B, V, D, at2, cd', am2, nm, e0, fb, fr, fz, fn, g, ρ, lv, N, S, Pq, A, x0, g', ρ'⟩ := q0
    obtain ⟨hp, hV, ⟨hB, hlo, hxl, ta2, hta, htl⟩, hS, hX, hRf, ma2, va2, ra2, fm2, fv2, gr2, hMv, hG, ⟨b1, b2, b3, b4⟩, b5⟩ := id z1
    obtain ⟨⟨A0, yc, nb0, cap⟩, hs0⟩ := hA h67
    have z2 : b0 ≤ lo := z2
    obtain ⟨fs2, fm3, ma3, x1', x2', x3', x4', -⟩ := id hX
    rw [z4] at x1'
    injection x1' with x1'; injection x1' with x1'; injection x1' with _ x1'
    subst x1'
    obtain ⟨u, v, l1, l2, l3, l4, ⟨cf, l5, l5', l6⟩, ⟨ca', len', W', b', cl', fa', fo', rd', wk', ps', P', Tr', J', jl', aU⟩, ⟨l7, l8, l9⟩, lX⟩ := lr_ac1 (ks := ks) (qs := qs) (y := y) (a := a) (n := n + 1317) (n' := n' + 1302) (q0 := fun _ => gNtd) (A0 := A0) (yc := yc) (K := Kc) (fun _ => rfl) (by omega) (by omega) (by omega) hqs h67 hp hRf hV hB hlo hS n5 h2 hκ (by omega) hxl z4 hl13.1 x3' x4' f4 a2 ⟨m4, m5, m6⟩ J jl.1 ⟨by omega, by omega, by omega, by omega⟩ cap hs0
    have l1 : lst (oF κ T (n + 1323)) (zF y qs ks T (n' + 1311)) x y a σ τ 3 = some (u, v) := l1
    have lt : ∀ {q : Nat} {c : oC}, σ.1 q = some c → q < σ.2.1 := fun {q c} z => Nat.lt_of_not_le (fun w => by rw [hfr q w] at z; cases z)
    have LG : ∀ va fv, lgP va fv σ → lgP va fv u := fun va fv l => lg_ac l1 l
    have OC := lst_O oOc_ok m3 3 l1
    have jca : ∀ q, q ≠ ca → ∀ o' gs, σ.1 o' = some (.inr (8, gs)) → gs[0]? ≠ some (.ref q) := fun q hq o' gs eo w => by
      have eo' := m3 o' gs eo
      rw [eo', J.2.1.1] at eo
      injection eo with eo; injection eo with eo; injection eo with _ eo
      rw [← eo] at w
      injection w with w; injection w with w
      exact hq w.symm
    have noO' : noO x σ := fun fs' ma' fm' va' e1 e2 e3 e4 => by
      obtain ⟨-, -, q3⟩ := h6.va e1 e2 e3 e4
      rw [q3]
      exact jca _ (fun w => c1 w.symm)
    obtain ⟨pb, -⟩ := pgB.ac (w := .ref σ.2.1) z1 h2 noO' J ⟨show pa < lo by omega, show ph < lo by omega, show ta < lo by omega, show th < lo by omega⟩ z4 l2 l3 l4 LG
    have lr := h1.ac J z4 l2 l3 l4
    -- the Machine
    have um : u.1 ma0 = some (.inr (5, fm0)) := l2.1 ma0 5 fm0 a4 (by decide)
    have l13 : ((fs.set 4 (.ref σ.2.1)).set 5 (.int (v.1 69)))[12]? = some (.ref ma0) := by rw [List.getElem?_set_ne (by decide), List.getElem?_set_ne (by decide)]; exact a3
    have l11 : ((fs.set 4 (.ref σ.2.1)).set 5 (.int (v.1 69)))[11]? = some (.ref jd) := by rw [List.getElem?_set_ne (by decide), List.getElem?_set_ne (by decide)]; exact a2
    have ROW : ∀ q ty n g, σ.1 q = some (.inl (ty, n, g)) → ((ty = .int ∧ n = 1683) ∨ (∃ s, ty = .object s ∧ n = 1683)) → u.1 q = some (.inl (ty, n, g)) := fun q ty n g e hq => by
      obtain ⟨-, -, ⟨gp, hp', j4, j5, -⟩, ⟨gt, ht, j6, j7, -⟩, -⟩ := id J
      refine l2.2.1 q _ e (fun z => ?_) ⟨fun z => ?_, fun z => ?_, fun z => ?_, fun z => ?_⟩
      · have z : ty = .long := z
        rcases hq with ⟨r, -⟩ | ⟨s, r, -⟩ <;> (rw [r] at z; cases z)
      · rw [z, j4] at e
        injection e with e; injection e with e; injection e with _ e; injection e with e _
        rcases hq with ⟨-, r⟩ | ⟨s, -, r⟩ <;> (rw [r] at e; cases e)
      · rw [z, j5] at e
        injection e with e; injection e with e; injection e with e _
        rcases hq with ⟨r, -⟩ | ⟨s, r, -⟩ <;> (rw [r] at e; cases e)
      · rw [z, j6] at e
        injection e with e; injection e with e; injection e with _ e; injection e with e _
        rcases hq with ⟨-, r⟩ | ⟨s, -, r⟩ <;> (rw [r] at e; cases e)
      · rw [z, j7] at e
        injection e with e; injection e with e; injection e with e _
        rcases hq with ⟨r, -⟩ | ⟨s, r, -⟩ <;> (rw [r] at e; cases e)
    have MQ : ∀ lo' hi', hMq x lo' hi' hl σ → hMq x lo' hi' hl u := fun lo' hi' m => by
      obtain ⟨fs', ma', fm', va', ha', hp', wn, ws, wa, WN, WS, WA, ⟨d1, d2⟩, ⟨d3, d4, d5⟩, ⟨d6, d7, d8, d9, d10⟩, ⟨⟨w1, w2, w3⟩, ⟨q1, q2, q3⟩, dd⟩, cc⟩ := m
      rw [z4] at d1
      injection d1 with d1; injection d1 with d1; injection d1 with _ d1
      subst d1
      rw [a3] at d2
      injection d2 with d2; injection d2 with d2
      subst d2
      rw [a4] at d3
      injection d3 with d3; injection d3 with d3; injection d3 with _ d3
      subst d3
      rw [a6] at d6
      injection d6 with d6; injection d6 with d6
      subst d6
      have L := LG ha (hl, hp') ⟨lt d7, d7, jca ha (fun w => c2 w.symm)⟩
      exact ⟨_, ma0, fm0, va', ha, hp', wn, ws, wa, WN, WS, WA, ⟨l3, l13⟩, ⟨um, d4, d5⟩, ⟨a6, L.2.1, d8, d9, d10⟩, ⟨⟨w1, w2, w3⟩, ⟨ROW wn _ _ _ q1 (Or.inr ⟨_, rfl, rfl⟩), ROW ws _ _ _ q2 (Or.inl ⟨rfl, rfl⟩), ROW wa _ _ _ q3 (Or.inl ⟨rfl, rfl⟩)⟩, dd⟩, cc⟩
    have CA : ∀ q N fq, σ.1 q = some (.inl (.long, N, .inr (.inl fq))) → q ≠ ca → ca' ≠ q := fun q N fq e hq w => by
      have L := LG q (N, fq) ⟨lt e, e, jca q hq⟩
      exact L.2.2 o _ J'.2.1.1 (by rw [w]; rfl)
    obtain ⟨hpq, hha⟩ : ∃ hpq, σ.1 ha = some (.inl (.long, hl, .inr (.inl hpq))) := by
      obtain ⟨fs', ma', fm', va', ha', hp', wn, ws, wa, WN, WS, WA, ⟨d1, d2⟩, ⟨d3, d4, d5⟩, ⟨d6, d7, -⟩, -⟩ := id m1
      rw [z4] at d1
      injection d1 with d1; injection d1 with d1; injection d1 with _ d1
      subst d1
      rw [a3] at d2
      injection d2 with d2; injection d2 with d2
      subst d2
      rw [a4] at d3
      injection d3 with d3; injection d3 with d3; injection d3 with _ d3
      subst d3
      rw [a6] at d6
      injection d6 with d6; injection d6 with d6
      subst d6
      exact ⟨hp', d7⟩
    have jd' : lJd x b0 jd o len' u := ⟨_, ma0, fm0, va0, ha, ca', pa, ph, ta, th, len', W', b', cl', fa', fo', rd', wk', ps', P', Tr', ⟨l3, l11, l13⟩, ⟨um, a5, a6⟩, J', ⟨jl', rfl⟩, jp, CA va0 _ _ h6.2.2.1 (fun w => c1 w.symm), CA ha _ _ hha (fun w => c2 w.symm)⟩
    have RM : oRm sz u := by
      obtain ⟨hlow, -, hsz⟩ := h2
      refine ⟨fun q hq => ?_, l7.1, by have := l2.2.2.2.2; omega⟩
      exact (lo_ac l1 ⟨hlow, hsz⟩).1 q hq
    have i45 : v.1 45 = τ.1 45 := l4.2.2.2.2 45 (by decide) (by decide) (by decide) (by decide)
    have i60 : v.1 60 = τ.1 60 := l4.2.2.2.2 60 (by decide) (by decide) (by decide) (by decide)
    -- draft, OUT, the list
    have K6 : oK6 σ u := lst_O (oK6_ok σ) (oK6.rf hfr) 3 l1
    have DR : ∀ lo' hi', lDr κ x lo' hi' dq σ → lDr κ x lo' hi' dq u := fun lo' hi' D => by
      obtain ⟨-, -, ⟨gp, hp', j4, j5, -⟩, ⟨gt, ht, j6, j7, -⟩, -⟩ := id J
      refine D.to (RM.1 _ hκ) K6.2 (fun fs' e => ?_) (fun fs' ta' e f0 q c eq hq ht' hc => ?_)
      · rw [z4] at e
        injection e with e; injection e with e; injection e with _ e
        subst e
        exact ⟨_, l3, fun k hk => by rw [List.getElem?_set_ne (by omega), List.getElem?_set_ne (by omega)]⟩
      · rcases c with y | ⟨k, gs⟩
        · refine l2.2.1 q y eq (fun z => ?_) ⟨fun z => ?_, fun z => ?_, fun z => ?_, fun z => ?_⟩
          · exact lDc_nr hc (y := y) (fun w => by rw [z] at w; cases w) (fun w => by rw [z] at w; cases w) rfl
          · rw [z, j4] at eq
            injection eq with eq
            exact lDc_nr hc (fun w => by cases w) (fun w => by injection w with w; exact absurd w (by decide)) eq.symm
          · rw [z, j5] at eq
            injection eq with eq
            exact lDc_nr hc (fun w => by cases w) (fun w => by cases w) eq.symm
          · rw [z, j6] at eq
            injection eq with eq
            exact lDc_nr hc (fun w => by cases w) (fun w => by injection w with w; exact absurd w (by decide)) eq.symm
          · rw [z, j7] at eq
            injection eq with eq
            exact lDc_nr hc (fun w => by cases w) (fun w => by cases w) eq.symm
        · refine l2.1 q k gs eq (fun z => lDc_ne (k := k) (f := gs) hc (fun w => ?_) rfl)
          rw [w] at z
          exact absurd z (by decide)
    -- told NAMES
    have TY : lTy x (len, cnt, j, kk, pp, ee, f, fc, xs, is, e, α, lo, p, B, V, D, at2, cd', am2, nm, e0, fb, fr, fz, fn, g, ρ, lv, N, S, Pq, A, x0, g', ρ') u v := by
      obtain ⟨Γ, Q, na, sy, qq, y1, y2⟩ := ty_x (by omega) hp hRf hV hS ⟨show pa < lo by omega, show ph < lo by omega, show ta < lo by omega, show th < lo by omega⟩ cap (fun _ => rfl) nb0 l4.2.2.1 lX
      have hlo' : lo ≤ σ.2.1 := z1.hi.1
      refine ⟨Γ, Q, na, sy, qq, fun y hy => ⟨by have := y1 y hy; omega, (y1 y hy).2⟩, ?_, y2⟩
      obtain ⟨-, ⟨c3, c4, c5, c6⟩, c7, c8, c9, c10⟩ := id h6
      obtain ⟨-, -, ⟨gp, hp', j4, j5, -⟩, ⟨gt, ht, j6, j7, -⟩, -⟩ := id J
      have INT : ∀ q n g, σ.1 q = some (.inl (.int, n, g)) → u.1 q = some (.inl (.int, n, g)) := fun q n g e => by
        refine l2.2.1 q _ e (fun z => by cases z) ⟨fun z => ?_, fun z => ?_, fun z => ?_, fun z => ?_⟩
        · rw [z, j4] at e; cases e
        · rw [z, j5] at e; cases e
        · rw [z, j6] at e; cases e
        · rw [z, j7] at e; cases e
      have RA : u.1 ra = some (.inl (.array .int, 6, .inr (.inr (.inr (.inr gr))))) := by
        refine l2.2.1 ra _ c8 (fun z => by cases z) ⟨fun z => ?_, fun z => ?_, fun z => ?_, fun z => ?_⟩
        · rw [z, j4] at c8; cases c8
        · rw [z, j5] at c8; cases c8
        · rw [z, j6] at c8; cases c8
        · rw [z, j7] at c8; cases c8
      refine ⟨ma0, va0, ra, fm0, fv, gr, ⟨⟨_, l3, l13⟩, ⟨um, c4, c5, c6⟩, (LG va0 (6, fv) ⟨lt c7, c7, jca va0 (fun w => c1 w.symm)⟩).2.1, RA, fun i b hi hb => ?_, c10⟩, fun i b hi hb hQ => ?_⟩
      · obtain ⟨h, e9⟩ := c9 i b hi hb
        exact ⟨h, INT b _ _ e9⟩
      · obtain ⟨h, e9⟩ := c9 i b hi hb
        have := (y1 b hQ).1
        have := lt e9
        omega
    refine ⟨u, v, len', l1, ⟨⟨lr, RM, i45.trans h3, ⟨k0, i60.trans h4, by omega⟩, pb.mv⟩, ⟨MQ _ _ m1, jd', OC, l7, l8, l9, DR _ _ m7⟩, by have := l2.2.2.2.2; omega, ?_⟩, Or.inr ⟨h67, l4.1, A0, nb0, by rw [← jl.2]; exact aU⟩, l4.2.2.2.2 3 (by decide) (by decide) (by decide) (by decide)⟩
    rw [hQ]
    refine ⟨pb, z2, MQ _ _ z3, ⟨_, l3, Or.inr ⟨σ.2.1, cf, ?_, l5, l6, l4.1, l4.2.1⟩⟩, fun i hi => ?_, DR _ _ z8, fun _ => TY⟩
    · rw [List.getElem?_set_ne (by decide), List.getElem?_set_self (by rw [hl13.1]; decide)]
    · rw [l4.2.2.2.1.2.2 103 (by decide)]
      exact z6 i hi
  · obtain ⟨pp0, f20⟩ : ∃ p, fs[2]? = some (.ref p) := by
      obtain ⟨len, cnt, j, kk, pp, ee, f, fc, xs, is, e, α, lo, p, B, V, D, at2, cd', am2, nm, e0, fb, fr, fz, fn, g, ρ, lv, N, S, Pq, A, x0, g', ρ'⟩ := q0
      obtain ⟨-, -, -, -, hX, -⟩ := z1
      obtain ⟨fs2, fm3, ma3, x1', x2', x3', -⟩ := hX
      rw [z4] at x1'
      injection x1' with x1'; injection x1' with x1'; injection x1' with _ x1'
      subst x1'
      exact ⟨_, x3'⟩
    have q := lr_ac2 (κ := κ) (ks := ks) (qs := qs) (T := T) (n := n + 1322) (n' := n' + 1310) (y := y) (a := a) z4 hl13.1 f20 f4 e1 e2 (by
      obtain ⟨len, cnt, j, kk, pp, ee, f, fc, xs, is, e, α, lo, p, B, V, D, at2, cd', am2, nm, e0, fb, fr, fz, fn, g, ρ, lv, N, S, Pq, A, x0, g', ρ'⟩ := q0
      obtain ⟨-, -, -, -, -, hRf, -⟩ := z1
      exact hRf.1) h67 h68
    have es : fs.set 5 (.int (τ.1 69)) = fs := List.ext_getElem? fun i => by
      by_cases ci : i = 5
      · subst ci; rw [List.getElem?_set_self (by rw [hl13.1]; decide), hl13.2]
      · rw [List.getElem?_set_ne (fun w => ci w.symm)]
    rw [es, oput_id z4, zI_id h67] at q
    exact ⟨σ, τ, ol, q, hh.up (by omega), Or.inl ⟨h67, rfl, rfl, rfl⟩, rfl⟩
end LZC
