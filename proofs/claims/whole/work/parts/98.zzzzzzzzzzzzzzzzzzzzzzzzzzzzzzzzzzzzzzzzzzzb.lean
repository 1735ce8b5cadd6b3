/-! ROOM: a script's potential, given what a PROGRAM takes -/
/-- what accepted() of a PROGRAM takes at most -/
def pAc (T : Nat) (q0 : pgQt) (s c : Nat) : Prop := match q0 with
  | (_, _, _, _, pp, ee, f, _, xs, is, e, α, _, _, _, _, _, _, _, _, _, _, _, _, _, _, _, _, _, _, _, _, _, _, _, _) => ∀ A0, nbL A0 → ∀ σ u lenJ len, pAU T f pp ee xs is e α (fun _ => gNtd) A0 lenJ len σ u → u.2.2.1 ≤ σ.2.2.1 + c ∧ u.2.2.2 + 2 * lenJ ≤ σ.2.2.2 + s + 2 * len
/-- **what a PROGRAM takes, by its letters** -/
def pR6 (T : Nat) (q : pgQt) : Prop := ∃ s c, pAc T q s c ∧ 709 + 5 * q.1 + 272 * q.2.1 + 8 * (q.2.2.2.2.2.2.2.2.2.1.map Prod.fst ++ tW q.2.2.2.2.2.2.2.2.2.2.1).length + 8 * nF q.2.2.2.2.2.2.2.2.2.2.1 + s ≤ sv q.2.2.2.2.2.2.2.2.2.2.1 + (1680 * q.2.2.2.2.2.2.2.2.1.length + 1200 * q.2.2.2.2.2.2.2.2.2.1.length) + 314 * q.1 + 12580 ∧ 608 + 240 * q.2.1 + 8 * c ≤ sv q.2.2.2.2.2.2.2.2.2.2.1 + (1680 * q.2.2.2.2.2.2.2.2.1.length + 1200 * q.2.2.2.2.2.2.2.2.2.1.length) + 408 * q.1 + 16400
/-- what is put by for accepted() -/
def lPq (T : Nat) (Q : Option pgQt) (τ : zSt) (ps pc : Nat) : Prop := 6290 ≤ ps ∧ 1025 ≤ pc ∧ ∀ q0, Q = some q0 → τ.1 67 = 0 → pAc T q0 ps pc
/-- the potential, i calls done -/
def lPo (i hl ol : Nat) (dq : Nat × Nat × Nat) (σ : oSt) (τ : zSt) (ps pc : Nat) : Prop := σ.2.2.2 + 314 * lLn τ + ps ≤ 7590 + 6290 * (i + 1) + 2 * hl + 2 * ol + (tPh dq.1 + tPh dq.2.1 + 4 * dq.2.2) ∧ 64 * (σ.2.2.1 + 51 * lLn τ + pc) ≤ 64 * (19 + 1025 * (i + 1)) + hl + 64 * (dq.1 + dq.2.1 + dq.2.2)
theorem pAc.mo {T s c s' c' : Nat} {q0 : pgQt} (h : pAc T q0 s c) (hs : s ≤ s') (hc : c ≤ c') : pAc T q0 s' c' := by
  obtain ⟨len, cnt, j, kk, pp, ee, f, fc, xs, is, e, α, lo, p, B, V, D, at2, cd', am2, nm, e0, fb, fr, fz, fn, g, ρ, lv, N, S, Pq, A, x0, g', ρ'⟩ := q0
  exact fun A0 hA σ u lenJ len h1 => by
    have := h A0 hA σ u lenJ len h1
    omega
section LPO
variable {κ : oKv} {ks : Nat → Nat} {qs : List Nat} {T n n' x y sz K b0 jd o ol hl i ps pc : Nat} {dq : Nat × Nat × Nat} {Q : Option pgQt} {Kc : Int} {a : Nat → Int32} {σ u : oSt} {τ v : zSt}
/-- **room, where accepted() is asked the first time** -/
theorem lAr_of {q0 : pgQt} {s c : Nat} (hT : 12400 ≤ T) (hn : 195 ≤ n) (hκ : κ.2.2.1 < sz) (h : lZ κ T sz x K b0 jd o ol Kc hl dq Q σ τ) (Z : lZp κ T sz x b0 hl dq q0 σ τ) (h67 : τ.1 67 = 0) (hA : pAc T q0 s c) (hc : σ.2.1 + c + 32 < T) : lAr κ T x n jd q0 σ := by
  obtain ⟨⟨h1, h2, -⟩, -⟩ := h
  obtain ⟨z1, z2, z3, ⟨fs, z4, z5⟩, -⟩ := Z
  obtain ⟨len, cnt, j, kk, pp, ee, f, fc, xs, is, e, α, lo, p, B, V, D, at2, cd', am2, nm, e0, fb, fr, fz, fn, g, ρ, lv, N, S, Pq, A, x0, g', ρ'⟩ := q0
  obtain ⟨hp, hV, ⟨hB, hlo, hxl, ta2, hta, htl⟩, hS, hX, hRf, ma2, va2, ra2, fm2, fv2, gr2, hMv, hG, ⟨b1, b2, b3, b4⟩, b5⟩ := id z1
  have n5 : n5I lo σ := by
    rcases z5 with ⟨-, -, n5⟩ | ⟨c, cf, -, -, -, w, -⟩
    · exact n5
    · rw [h67] at w; exact absurd w (by decide)
  intro σ1 σ2 j1 j2
  obtain ⟨c1, c2, c3, c4, c5, c6⟩ := tx_cap (q0 := fun _ => gNtd) (A0 := gPl (yB 0)) (yc := yB 0) (fun _ => rfl) hT hp hRf
  have hVσ : V.2.1 ≤ σ.2.1 := by omega
  obtain ⟨σ', Ψ, Ls, ln, ct, cs, d1, d2, -, d4⟩ := c_gp (q0 := fun _ => gNtd) (A0 := gPl (yB 0)) (fun _ => rfl) (by omega) hn hp hRf hV hB hlo hS n5 h2 hκ hVσ ⟨fs, z4⟩ hxl j1 c1 c5 c6
  rw [j2] at d1
  injection d1 with d1; injection d1 with _ d1
  subst d1
  have C2 : cnI ((σ1.2.1 : Int) - σ1.2.2.1) σ2 := (cQo_oF (κ := κ) cnI_ok T (n + 5)).c37 _ _ (show (σ1.2.1 : Int) = σ1.2.2.1 + ((σ1.2.1 : Int) - σ1.2.2.1) by omega) _ j2
  have C2 : (σ2.2.1 : Int) = σ2.2.2.1 + ((σ1.2.1 : Int) - σ1.2.2.1) := C2
  have nx : σ1.2.1 = σ.2.1 + 6 := j1.2.2.2.2.2.2
  obtain ⟨-, g1, -⟩ := d4
  obtain ⟨⟨v, ga⟩, -, -, -, nl, -⟩ := d2
  obtain ⟨dd, cc, mc, q1, -, r, q2, q3⟩ := ga.2.2.1
  obtain ⟨⟨e0', e1', e2'⟩, -, -⟩ := ga.2.2.2.2
  have t := tmP_le (kq := xs.length) (σ := σ1) ((is.map Prod.fst ++ tW e).map (fun u => (nm u).getD 0))
  rw [List.length_map, List.length_append, List.length_map] at t
  have a0 := (q1 0 (by decide)).2
  have a1 := (q1 1 (by decide)).2
  have a2 := (q1 2 (by decide)).2
  have a3 := (q1 3 (by decide)).2
  have r0 := q2 0 (by decide)
  have r1 := q2 1 (by decide)
  have r2 := q2 2 (by decide)
  have r3 := q2 3 (by decide)
  have n0 := nl.1
  have hA0 := hA (gPl (yB 0)) (fun y e _ => by injection e with e; rw [← e])
  unfold pAU acU at hA0
  generalize (wCo T f pp ee (pTE f pp ee is e α) (pTN f pp ee is e α) xs e (is.map Prod.fst) (gIs is [] ((fun _ => gNtd), [], [])).1 (gPl (yB 0)) (gIs is [] ((fun _ => gNtd), [], [])).2) = C at *
  generalize ((pWk T f pp ee is e α (fun _ => gNtd) (gPl (yB 0))).1.2.1.filter (fkp (pNq T f pp ee) xs)).length = m at *
  generalize (pWk T f pp ee is e α (fun _ => gNtd) (gPl (yB 0))).1.2.2.length = nn at *
  generalize (2 + 3 * xs.length) * (is.length + (tW e).length) = Z at *
  have W := (hA0 ((fun _ => none), 0, 0, 0) ((fun _ => none), 0, (80 * (24 + Z + 2 * is.length + C.1) + 1040 + 39 * (3 * m + nn)) / 80, 0) 0 0 ⟨by
    show 80 * ((80 * (24 + Z + 2 * is.length + C.1) + 1040 + 39 * (3 * m + nn)) / 80) ≤ 80 * (0 + 24 + Z + 2 * is.length + C.1) + 1040 + 39 * (3 * m + nn)
    omega, by
    show 8 * (0 + 2 * 0) ≤ _
    exact Nat.zero_le _⟩).1
  have W : (80 * (24 + Z + 2 * is.length + C.1) + 1040 + 39 * (3 * m + nn)) / 80 ≤ 0 + c := W
  omega
end LPO
