/-! ROOM: what is left to be shown of a PROGRAM -/
/-- what must FIT is looked at where there are QUALS -/
def w125 (xs : List tQ) : Nat := if xs = [] then 0 else 125
theorem w125_m (nq : tQ → Int) (xs : List tQ) (l : List gFit) (h : xs = [] → ∀ x, x ∈ l → ∃ m, x.2.2.1 = .inr m) : 125 * (l.filter (fkp nq xs)).length ≤ w125 xs * l.length := by
  unfold w125
  by_cases c : xs = []
  · rw [if_pos c]
    have : l.filter (fkp nq xs) = [] := by
      rw [List.filter_eq_nil_iff]
      intro x hx
      obtain ⟨m, e⟩ := h c x hx
      unfold fkp gFa
      rw [e, c]
      show ¬ decide (0 < (gIn nq [] m.2.2.1 m.2.2.2.2).length) = true
      have : gIn nq [] m.2.2.1 m.2.2.2.2 = [] := rfl
      rw [this]
      decide
    rw [this]
    exact Nat.zero_le _
  · rw [if_neg c]
    exact Nat.mul_le_mul_left 125 (List.length_filter_le _ _)
/-- **slots: what FITS and TEMPLATES, against what the letters leave** -/
def pXs (T : Nat) (q0 : pgQt) : Prop := match q0 with
  | (_, _, _, _, pp, ee, f, _, xs, is, e, α, _, _, _, _, _, _, _, _, _, _, _, _, _, _, _, _, _, _, _, _, _, _, _, _) => (xs = [] → ∀ A0, nbL A0 → ∀ x, x ∈ (pWk T f pp ee is e α (fun _ => gNtd) A0).1.2.1 → ∃ m, x.2.2.1 = .inr m) ∧ ∀ A0, nbL A0 → 8 * (89 * pnL e + 9 * (xs.length * (is.length + (tW e).length))) + wX T f pp ee (pTE f pp ee is e α) (pTN f pp ee is e α) xs (w125 xs) e (is.map Prod.fst) (gIs is [] ((fun _ => gNtd), [], [])).1 A0 (gIs is [] ((fun _ => gNtd), [], [])).2 ≤ 8 * (11028 + gnL e + 3793 * xs.length + 3513 * is.length)
/-- **cells** -/
def pXc (T : Nat) (q0 : pgQt) : Prop := match q0 with
  | (len, cnt, _, _, pp, ee, f, _, xs, is, e, α, _, _, _, _, _, _, _, _, _, _, _, _, _, _, _, _, _, _, _, _, _, _, _, _) => ∃ c, (∀ A0, nbL A0 → 80 * (24 + (2 + 3 * xs.length) * (is.length + (tW e).length) + 2 * is.length + (wCo T f pp ee (pTE f pp ee is e α) (pTN f pp ee is e α) xs e (is.map Prod.fst) (gIs is [] ((fun _ => gNtd), [], [])).1 A0 (gIs is [] ((fun _ => gNtd), [], [])).2).1) + 1040 + 39 * (3 * ((pWk T f pp ee is e α (fun _ => gNtd) A0).1.2.1.filter (fkp (pNq T f pp ee) xs)).length + (pWk T f pp ee is e α (fun _ => gNtd) A0).1.2.2.length) ≤ 80 * c + 79) ∧ 608 + 240 * cnt + 8 * c ≤ sv e + (1680 * xs.length + 1200 * is.length) + 408 * len + 16400
section PRX
variable {κ : oKv} {T sz x : Nat} {q0 : pgQt} {σ : oSt} {τ : zSt}
/-- **what a PROGRAM takes, by what FITS** -/
theorem pR6_of (hT : 2010 ≤ T) (h : pgB κ T sz x q0 σ τ) (hs : pXs T q0) (hc : pXc T q0) : pR6 T q0 := by
  obtain ⟨len, cnt, j, kk, pp, ee, f, fc, xs, is, e, α, lo, p, B, V, D, at2, cd', am2, nm, e0, fb, fr, fz, fn, g, ρ, lv, N, S, Pq, A, x0, g', ρ'⟩ := q0
  obtain ⟨hp, hV, -, hS, hX, hRf, -⟩ := id h
  have G := tx_gn hT hp hRf.2.1
  obtain ⟨hR, hs⟩ := hs
  obtain ⟨c, c1, c2⟩ := hc
  have tl : (is.map Prod.fst ++ tW e).length = is.length + (tW e).length := by rw [List.length_append, List.length_map]
  have zz : (2 + 3 * xs.length) * (is.length + (tW e).length) = 2 * (is.length + (tW e).length) + 3 * (xs.length * (is.length + (tW e).length)) := by rw [Nat.add_mul, Nat.mul_assoc]
  have b0 : 89 * pnL e + 9 * (xs.length * (is.length + (tW e).length)) ≤ 11028 + gnL e + 3793 * xs.length + 3513 * is.length := by
    have := hs (gPl (yB 0)) (fun y e _ => by injection e with e; rw [← e])
    omega
  obtain ⟨s, hs0⟩ : ∃ s, s = sv e + (1680 * xs.length + 1200 * is.length) + 314 * len + 12580 - (709 + 5 * len + 272 * cnt + 8 * (is.length + (tW e).length) + 8 * nF e) := ⟨_, rfl⟩
  have i6 : is.length ≤ 6 := hp.2.2.2.2.2.1.1.1.1
  have hs1 : 709 + 5 * len + 272 * cnt + 8 * (is.length + (tW e).length) + 8 * nF e + s ≤ sv e + (1680 * xs.length + 1200 * is.length) + 314 * len + 12580 := by omega
  refine ⟨s, c, fun A0 hA σ u lenJ len' hU => ?_, ?_, c2⟩
  · obtain ⟨u1, u2⟩ := hU
    have h1 := hs A0 hA
    have h2 := c1 A0 hA
    have h3 := wCo_x (T := T) (f := f) (pp := pp) (ee := ee) (tE := pTE f pp ee is e α) (tN := pTN f pp ee is e α) (xs := xs) (wt := w125 xs) e (is.map Prod.fst) (gIs is [] ((fun _ => gNtd), [], [])).1 A0 (gIs is [] ((fun _ => gNtd), [], [])).2
    have h4 : (pWk T f pp ee is e α (fun _ => gNtd) A0).1.2.2.length ≤ (gIs is [] ((fun _ => gNtd), [], [])).2.2.2.length + nNd e := gWk_nd e (is.map Prod.fst) (gIs is [] ((fun _ => gNtd), [], [])).1 A0 (gIs is [] ((fun _ => gNtd), [], [])).2
    rw [show (gIs is [] ((fun _ => gNtd), [], [])).2.2.2.length = 0 by rw [gIs_2]; rfl] at h4
    have h5 : 125 * ((pWk T f pp ee is e α (fun _ => gNtd) A0).1.2.1.filter (fkp (pNq T f pp ee) xs)).length ≤ w125 xs * (gWk T f pp ee (pTE f pp ee is e α) (pTN f pp ee is e α) e (is.map Prod.fst) (gIs is [] ((fun _ => gNtd), [], [])).1 A0 (gIs is [] ((fun _ => gNtd), [], [])).2).1.2.1.length := w125_m _ _ _ (fun z x hx => hR z A0 hA x hx)
    rw [show (gIs is [] ((fun _ => gNtd), [], [])).2.2.1.length = 0 by rw [gIs_2]; rfl, Nat.mul_zero] at h3
    generalize w125 xs * (gWk T f pp ee (pTE f pp ee is e α) (pTN f pp ee is e α) e (is.map Prod.fst) (gIs is [] ((fun _ => gNtd), [], [])).1 A0 (gIs is [] ((fun _ => gNtd), [], [])).2).1.2.1.length = FL at *
    generalize (wCo T f pp ee (pTE f pp ee is e α) (pTN f pp ee is e α) xs e (is.map Prod.fst) (gIs is [] ((fun _ => gNtd), [], [])).1 A0 (gIs is [] ((fun _ => gNtd), [], [])).2) = C at *
    generalize ((pWk T f pp ee is e α (fun _ => gNtd) A0).1.2.1.filter (fkp (pNq T f pp ee) xs)).length = m at *
    generalize (pWk T f pp ee is e α (fun _ => gNtd) A0).1.2.2.length = nn at *
    generalize wX T f pp ee (pTE f pp ee is e α) (pTN f pp ee is e α) xs (w125 xs) e (is.map Prod.fst) (gIs is [] ((fun _ => gNtd), [], [])).1 A0 (gIs is [] ((fun _ => gNtd), [], [])).2 = X at *
    rw [zz] at u1 u2 h2
    generalize xs.length * (is.length + (tW e).length) = Z at *
    constructor
    · omega
    · omega
  · show 709 + 5 * len + 272 * cnt + 8 * (is.map Prod.fst ++ tW e).length + 8 * nF e + s ≤ sv e + (1680 * xs.length + 1200 * is.length) + 314 * len + 12580
    rw [tl]
    exact hs1
end PRX
/-- **the claim, given what FITS in a PROGRAM** -/
theorem lPure_x (H : ∀ κ T sz x q0 σ τ, 1000000 ≤ T → pgB κ T sz x q0 σ τ → pXs T q0 ∧ pXc T q0) : lPure := lPure_of (fun κ T sz x q0 σ τ hT h => pR6_of (by omega) h (H κ T sz x q0 σ τ hT h).1 (H κ T sz x q0 σ τ hT h).2)
