/-! accepted(), the first time, as a whole -/
section AC1
variable {κ : oKv} {T sz len cnt j n lo p x e0 at2 cd' jd N S P A x0 o ca pa ph ta th lenJ W0 b1 : Nat} {kk pp ee f fc R6 : Nat → Int32} {xs : List tQ} {is : List (Nat × Nat)} {e : tT} {α : Nat → tY} {B : Nat → Nat} {V : oSt} {D : cDt} {nm : Nat → Option Nat} {am2 : Int32} {fb fr fz fn : Nat → Int32} {g g' : gG} {ρ ρ' : Nat → tY} {lv : Int32} {σ σ1 : oSt} {τ : zSt} {q0 : Nat → gTy} {A0 : gTy} {inv : Nat → gN} {K : Int} {cl0 fa0 rd ps : Int32} {fo : Nat → Int64} {wk : Option Nat} {Pj Tr : List (Nat × Bool)} {fs : List Value}
/-- rows that are no TERMS and no lists of the Checker -/
theorem jS1.qa {y : Nat} (n5 : n5I lo σ) (oR : oRm sz σ) (hκ : κ.2.2.1 < sz) (hx : σ.1 x = some (.inr (14, fs))) (h : jS1 κ x p y jd σ σ1) {a : Nat} {c} (e : σ.1 a = some (.inl c)) : σ1.1 a = some (.inl c) ∧ qA (σ.2.1 + 5) (fun i => σ.2.1 + 1 + i) lo σ1 a := by
  obtain ⟨h1, ⟨gs, hx1⟩, h2, h3, h4, h5, h6⟩ := h
  have hfr := oR.2.1
  have lt : a < σ.2.1 := Nat.lt_of_not_le (fun z => by rw [hfr a z] at e; cases e)
  have ne : a ≠ x := fun z => by rw [z, hx] at e; cases e
  refine ⟨by rw [h1 a lt ne]; exact e, by omega, fun ⟨i, mc, m, hi, e1⟩ => ?_, fun ⟨b, fs', hb, e1, e2⟩ => ?_⟩
  · rw [h3 i hi] at e1
    injection e1 with e1; injection e1 with e1; injection e1 with _ e1
    injection e1 with _ e1; injection e1 with e1 _; injection e1 with e1
    rw [← e1, oR.1 _ hκ] at e; cases e
  · have six : σ.1 b = some (.inr (6, fs')) := by
      by_cases c : b < σ.2.1
      · by_cases cx : b = x
        · rw [cx, hx1] at e1
          injection e1 with e1; injection e1 with e1; injection e1 with e1 _
          exact absurd e1 (by decide)
        · rw [h1 b c cx] at e1; exact e1
      · exfalso
        have : b = σ.2.1 ∨ b = σ.2.1 + 1 + 0 ∨ b = σ.2.1 + 1 + 1 ∨ b = σ.2.1 + 1 + 2 ∨ b = σ.2.1 + 1 + 3 ∨ b = σ.2.1 + 5 ∨ σ.2.1 + 6 ≤ b := by omega
        rcases this with z | z | z | z | z | z | z
        · rw [z, h2] at e1; injection e1 with e1; injection e1 with e1; injection e1 with e1 _; exact absurd e1 (by decide)
        · rw [z, h3 0 (by decide)] at e1; injection e1 with e1; injection e1 with e1; injection e1 with e1 _; exact absurd e1 (by decide)
        · rw [z, h3 1 (by decide)] at e1; injection e1 with e1; injection e1 with e1; injection e1 with e1 _; exact absurd e1 (by decide)
        · rw [z, h3 2 (by decide)] at e1; injection e1 with e1; injection e1 with e1; injection e1 with e1 _; exact absurd e1 (by decide)
        · rw [z, h3 3 (by decide)] at e1; injection e1 with e1; injection e1 with e1; injection e1 with e1 _; exact absurd e1 (by decide)
        · rw [z, h4] at e1; cases e1
        · rw [h5 b (by omega)] at e1; cases e1
    rw [(n5 b fs' hb six).2] at e2
    cases e2
/-- the Judge, over gather() -/
theorem jSt.gt {y : Nat} {σ' : oSt} {Wk : Nat → Prop} (n5 : n5I lo σ) (oR : oRm sz σ) (hκ : κ.2.2.1 < sz) (hx : σ.1 x = some (.inr (14, fs))) (h : jS1 κ x p y jd σ σ1) (kp : gKp (σ.2.1 + 5) (fun i => σ.2.1 + 1 + i) lo Wk σ1 σ') (J0 : jSt σ jd o ca pa ph ta th lenJ W0 b1 cl0 fa0 fo rd wk ps Pj Tr) (J : jSt σ1 jd o ca pa ph ta th lenJ W0 b1 cl0 fa0 fo rd wk ps Pj Tr) : jSt σ' jd o ca pa ph ta th lenJ W0 b1 cl0 fa0 fo rd wk ps Pj Tr := by
  refine J.cg (fun a ha => ?_)
  obtain ⟨a1, ⟨a2, -⟩, -⟩ := id J
  obtain ⟨-, ⟨-, a3⟩, ⟨gp, hp, a4, a5, -⟩, ⟨gt, ht, a6, a7, -⟩, -⟩ := id J0
  have ar : ∀ {a : Nat} {c}, σ.1 a = some (.inl c) → σ'.1 a = σ1.1 a := fun {a c} e => by
    obtain ⟨q1, q2⟩ := jS1.qa n5 oR hκ hx h e
    rw [q1]
    exact (kp.ar q1 q2).1
  rcases ha with z | z | z | z | z | z | z <;> rw [z]
  · rw [a1]; exact kp.ob a1 (by decide) (by decide) (by decide) (by decide)
  · rw [a2]; exact kp.ob a2 (by decide) (by decide) (by decide) (by decide)
  · exact ar a3
  · exact ar a4
  · exact ar a5
  · exact ar a6
  · exact ar a7
set_option maxHeartbeats 1000000 in
/-- **accepted(), the first time** -/
theorem c_ac1 (hq0 : ∀ u, q0 u = gNtd) (hT : 200200 ≤ T) (hn : 195 ≤ n) (hp : pgT T len cnt j kk pp ee f fc xs is e α) (hR : pgR T len cnt kk pp ee f xs is e α N S P A x0 g' ρ' τ) (hV : pgV κ T sz len cnt kk pp ee fc xs is e B p V D at2 cd' am2 nm e0 fb fr fz fn) (hB : ∃ w r v ka pa ea, B = pA w r v ka pa ea p) (hsz : sz ≤ lo) (hS : pgS κ T lo cnt kk pp ee f fc is e α B p V D nm e0 g ρ lv σ) (n5 : n5I lo σ) (oR : oRm sz σ) (hκ : κ.2.2.1 < sz) (hVσ : V.2.1 ≤ σ.2.1) (hxl : x < lo) (hx : σ.1 x = some (.inr (14, fs))) (hl : fs.length = 13) (f2 : fs[2]? = some (.ref p)) (f3 : fs[3]? = some (.ref V.2.1)) (f4 : fs[4]? = some .null) (f11 : fs[11]? = some (.ref jd)) (P0 : rwI 0 σ ∧ kn8 σ ∧ cnI K σ) (J : jSt σ jd o ca pa ph ta th lenJ W0 b1 cl0 fa0 fo rd wk ps Pj Tr) (hlJ : lenJ ≤ 201600) (hpa : pa < lo ∧ ph < lo ∧ ta < lo ∧ th < lo) (hi : pGi T f pp ee xs is e α (τ.2.2.1 32) inv) (mx : gMx f pp ee (pTE f pp ee is e α) (pTN f pp ee is e α) 59 e (is.map Prod.fst)) (h6 : dR6 (pGm T f pp ee xs is e α (τ.2.2.1 32) inv) (pWk T f pp ee is e α q0 A0).1.2.1 (pWk T f pp ee is e α q0 A0).1.2.2 R6) (h10 : (pWk T f pp ee is e α q0 A0).1.2.1.length ≤ 12000) (h11 : (pWk T f pp ee is e α q0 A0).1.2.2.length ≤ 12000) (hs0 : ∀ σ1 σ2, jS1 κ x p V.2.1 jd σ σ1 → oF κ T (n + 5) 37 [va_rf (some σ.2.1)] σ1 = some (none, σ2) → σ2.2.1 + 26 < T) : ∃ σ1 σ2 Ψ Ls ln ct cs v σ4 Fc pl, (jS1 κ x p V.2.1 jd σ σ1 ∧ acI sz K σ2 ∧ jS2 κ T lo cnt p jd kk pp ee f fc xs is e α B V D nm g ρ lv σ.2.1 (pWk T f pp ee is e α q0 A0).1 Ψ Ls σ2 ln ct cs ∧ gKp (σ.2.1 + 5) (fun i => σ.2.1 + 1 + i) lo (fun x => ∃ u, u ∈ is.map Prod.fst ++ wW e ∧ x = (nm u).getD 0) σ1 σ2 ∧ (gwC xs.length ((is.map Prod.fst ++ tW e).map (fun u => (nm u).getD 0)) Ls 0 cs σ1 σ2 (2 * is.length + (wCo T f pp ee (pTE f pp ee is e α) (pTN f pp ee is e α) xs e (is.map Prod.fst) (gIs is [] (q0, [], [])).1 A0 (gIs is [] (q0, [], [])).2).1) (19 * is.length + (wCo T f pp ee (pTE f pp ee is e α) (pTN f pp ee is e α) xs e (is.map Prod.fst) (gIs is [] (q0, [], [])).1 A0 (gIs is [] (q0, [], [])).2).2) ∧ σ1.2.2.1 = σ.2.2.1 + 6 ∧ σ1.2.2.2 = σ.2.2.2 + 95)) ∧ (fdI (σ.2.1 + 5) (fun i => σ.2.1 + 1 + i) lo (wyP Ψ σ2.2.1).2.2.1 K jd o pa ph ta th σ.2.1 lenJ ((chF p V.2.1 jd σ.2.1).set 8 (.int v)) (onew σ2 (.inl (.int, ln 0, .inl (fun _ => 0))) (ln 0)) (onew σ2 (.inl (.int, ln 0, .inl (fun _ => 0))) (ln 0)) σ4 Fc pl ∧ ln 0 ≤ 12000 ∧ σ4.1 x = some (.inr (14, fs.set 4 (.ref σ.2.1)))) ∧ (gGr T f pp ee (τ.2.2.1 32) R6 (pGm T f pp ee xs is e α (τ.2.2.1 32) inv) (pFK T f pp ee xs is e α (τ.2.2.1 32) inv (pWk T f pp ee is e α q0 A0).1) (pWk T f pp ee is e α q0 A0).1.2.1 (fun kp => Fc (Ψ.2.1 kp)) ∧ plQ pp (nSo T f pp ee (τ.2.2.1 32) R6 (fun kp => Fc (Ψ.2.1 kp)) (pGm T f pp ee xs is e α (τ.2.2.1 32) inv)) ((pWk T f pp ee is e α q0 A0).1.2.2.flatMap gN2) pl) ∧ oF κ T (n + 6) 179 [va_rf (some x)] σ = some (some (.int (if 0 ≤ pl then 0 else 1)), oput σ4 x (.inr (14, (fs.set 4 (.ref σ.2.1)).set 5 (.int pl)))) := by
  obtain ⟨σ1, b1, b2, b3, ⟨b4, bz1, bz2⟩, b5⟩ := c_ac0 (κ := κ) (T := T) (n := n) (s := sz) oR.2.1 hx hl f2 f3 f4 f11 ⟨P0.1, P0.2.1, P0.2.2, oR.1, oR.2.2⟩ J
  obtain ⟨σ2, Ψ, Ls, ln, ct, cs, c1, c2, c3, c4⟩ := c_gp (q0 := q0) (A0 := A0) hq0 (by omega) hn hp hR hV hB hsz hS n5 oR hκ hVσ ⟨fs, hx⟩ hxl b1 mx h10 h11
  obtain ⟨i1, i2, i3, i4⟩ := b3
  have I2 : acI sz K σ2 := ⟨(cQo_oF (κ := κ) rwI_ok T (n + 5)).c37 _ _ i1 _ c1, (cQo_oF (κ := κ) kn8_ok T (n + 5)).c37 _ _ i2 _ c1, (cQo_oF (κ := κ) cnI_ok T (n + 5)).c37 _ _ i3 _ c1, (cQo_oF (κ := κ) loI_ok T (n + 5)).c37 _ _ i4 _ c1⟩
  have J2 := jSt.gt n5 oR hκ hx b1 c3 J b4
  have Vfr := hS.1.2.2.2
  have s4 := hS.2.2.2.1
  obtain ⟨v, σ3, σ4, Fc, lk, pl, d1, d2, d3, d4, d5, d6, d7⟩ := c_ac2 (κ := κ) (n := n) (inv := inv) hT (by omega) hp hR hi mx h6 h10 h11 hVσ Vfr (fun u hu => by
    obtain ⟨b, gs, c, hs, q1, q2, q3, -⟩ := s4 u hu
    rw [q1]
    exact ⟨gs, q3⟩) c2 I2 (by omega) J2 hlJ hpa (hs0 σ1 σ2 b1 c1)
  have x2 : σ2.1 x = some (.inr (14, fs.set 4 (.ref σ.2.1))) := c3.ob b2 (by decide) (by decide) (by decide) (by decide)
  have xn : x ≠ σ2.2.1 := fun z => by
    obtain ⟨⟨w, ga⟩, -⟩ := c2
    rw [z, ga.1.1 _ (Nat.le_refl _)] at x2; cases x2
  have xG : (onew σ2 (.inl (.int, ln 0, .inl (fun _ => 0))) (ln 0)).1 x = some (.inr (14, fs.set 4 (.ref σ.2.1))) := by rw [onew_ne xn]; exact x2
  have x3 : σ3.1 x = some (.inr (14, fs.set 4 (.ref σ.2.1))) := d3.2.1.o xG (by decide) (by decide) (by decide) (by decide) (by decide)
  have x4 : σ4.1 x = some (.inr (14, fs.set 4 (.ref σ.2.1))) := d4.2.1.o xG (by decide) (by decide) (by decide) (by decide) (by decide)
  have f4' : (fs.set 4 (.ref σ.2.1))[4]? = some (.ref σ.2.1) := List.getElem?_set_self (by omega)
  refine ⟨σ1, σ2, Ψ, Ls, ln, ct, cs, v, σ4, Fc, pl, ⟨b1, I2, c2, c3, c4, bz1, bz2⟩, ⟨d4, d7, x4⟩, ⟨d5, d6⟩, ?_⟩
  have ob2 : oob σ2 (some σ.2.1) 2 = some σ.2.1 := by
    obtain ⟨⟨w, ga⟩, -⟩ := c2
    exact oob_at ga.2.2.2.1.1
  have ob3 : oob σ3 (some σ.2.1) 2 = some σ.2.1 := oob_at d3.2.2.2.2.2.1
  have ch4 := d4.2.2.2.2.2
  rw [b5, c1, ocv_at]
  unfold acK
  rw [ofd_at x2, f4', ovr_rf, obn_at, ob2, obn_at, d1, ocv_at, ofd_at x3, f4', ovr_rf, obn_at, ob3, obn_at, d2, ocv_at]
  unfold oj_X12_accepted_60
  rw [ofd_at x4, f4', ovr_rf, obn_at, ofd_at ch4, show (((chF p V.2.1 jd σ.2.1).set 8 (.int v)).set 9 (.int pl))[9]? = some (.int pl) from rfl]
  show obn (opf σ4 (some x) 14 5 (.int pl)) _ = _
  rw [opf_at x4 (by rw [List.length_set]; omega), obn_at, ofd_at (oput_eq _ _ _), List.getElem?_set_self (by rw [List.length_set]; omega)]
  show (if 0 ≤ pl then _ else _) = _
  split <;> rfl
end AC1
