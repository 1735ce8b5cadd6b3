/-! the class's parser: let -/
section CQV
variable {κ : oKv} {sz T n m len cnt : Nat} {kk pp ee f : Nat → Int32} {A : Nat → Nat} {nq ni : Int32} {rt : Value} {σ σ' : oSt} {D D' : cDt} {at' cd : Nat} {cn am bd nf ff : Int32} {s : Sum Nat Nat} {nm nm' : Nat → Option Nat} {ν : nSt} {lo lo' e i : Nat}
theorem nI_s1 (a : Nat) : nI (a + 1) - 1 = nI a := by
  have := nI_sub a 1
  rw [show nI (a + 1) - 1 = nI (a + 1) - nI 1 from rfl, nI_sub' (by omega)]
  rfl
theorem aLt_st (kk : Nat → Int32) (G : Nat → aR tT) (mk : tT → tT → tT) (i : Nat) : ((aMs kk 1 (i + 1)).on fun _ i1 => aLt kk G mk i1).st = aTo (aTo (aTo (aTo (aTo (.inr (i + 1)) (aMs kk 1)) (aMs kk 61)) G) (aMs kk 208)) G := by
  unfold aLt
  simp only [aTo]
  cases aMs kk 1 (i + 1) with
  | inl k => rfl
  | inr p =>
    obtain ⟨t, i1⟩ := p
    simp only [aR.on, aR.st]
    cases aMs kk 61 i1 with
    | inl k => rfl
    | inr p =>
      obtain ⟨t, i2⟩ := p
      simp only
      cases G i2 with
      | inl k => rfl
      | inr p =>
        obtain ⟨t, i3⟩ := p
        simp only
        cases aMs kk 208 i3 with
        | inl k => rfl
        | inr p =>
          obtain ⟨t, i4⟩ := p
          simp only
          cases G i4 with
          | inl k => rfl
          | inr p => rfl
/-- let rec, its first word read -/
def cRv (κ : oKv) (sz T len cnt : Nat) (kk pp ee f : Nat → Int32) (A : Nat → Nat) (nq ni : Int32) (rt : Value) (dp m : Nat) (G : Nat → aR tT) : Prop := ∀ (σ : oSt) (D : cDt) (i cd : Nat) (cn am bd nf ff : Int32) (nm : Nat → Option Nat) (ν : nSt) (e : Nat), cV κ sz len cnt kk pp ee f A nq ni rt σ D (i + 1) cd cn am bd nf ff → cO pp cnt (i + 1) bd (.inr (i + 1)) → aIs kk 219 (i + 1) = true → cd ≤ 12 + 6 * dp → cQn pp ee f σ D nm ν cd nf i → σ.1 e = some (.inr (7, cNd 212 (pp i) (nI cd))) → ∃ σ' D' at2 am2 bd2 nf2 ff2 nm' fs, oF κ T m 143 [va_rf (some (A 0)), va_rf (some e), .int (nI dp)] σ = some (none, σ') ∧ cV κ sz len cnt kk pp ee f A nq ni rt σ' D' at2 cd cn am2 bd2 nf2 ff2 ∧ cL kk pp cnt at2 bd2 (aRc kk G i).st ∧ cFe A e σ D σ' D' ∧ (σ'.1 e = some (.inr (7, fs)) ∧ fs.length = 21) ∧ cEx 1 21 (svR (aRc kk G i)) σ D i (.inr i) σ' D' at2 (aRc kk G i).st ∧ (∀ t j, aRc kk G i = .inr (t, j) → cPo κ T kk pp ee f A e D cd cn ff nm ν σ' D' nf2 ff2 nm' e i t j)
theorem sv_let (kk : Nat → Int32) (G : Nat → aR tT) (i : Nat) : svR ((aMs kk 1 (i + 1)).on fun _ i1 => aLt kk G (tN 1 i 0 0 s0 s0) i1) + 915 * fl ((aMs kk 1 (i + 1)).on fun _ i1 => aLt kk G (tN 1 i 0 0 s0 s0) i1).st ≤ 915 + (svA (aTo (aTo (.inr (i + 1)) (aMs kk 1)) (aMs kk 61)) G + svA (aTo (aTo (aTo (aTo (.inr (i + 1)) (aMs kk 1)) (aMs kk 61)) G) (aMs kk 208)) G) := by
  cases hF : ((aMs kk 1 (i + 1)).on fun _ i1 => aLt kk G (tN 1 i 0 0 s0 s0) i1) with
  | inl k => show 0 + 915 * 1 ≤ _; omega
  | inr p =>
    obtain ⟨t, j⟩ := p
    obtain ⟨_, i2, d1, hF⟩ := on_inr hF
    unfold aLt at hF
    obtain ⟨_, i4, d2, hF⟩ := on_inr hF
    obtain ⟨ta', i5, d3, hF⟩ := on_inr hF
    obtain ⟨_, i7, d4, hF⟩ := on_inr hF
    obtain ⟨tb, i8, d5, hF⟩ := on_inr hF
    injection hF with hF
    injection hF with hF1 hF2
    subst hF1
    subst hF2
    have S2 := aTo_eq (s := .inr (i + 1)) rfl d1
    have S4 := aTo_eq S2 d2
    have S5 := aTo_eq S4 d3
    have S7 := aTo_eq S5 d4
    rw [svA_eq S4 d3, svA_eq S7 d5]
    show 915 + (sv ta' + sv tb) + 915 * 0 ≤ 915 + (sv ta' + sv tb)
    omega
set_option maxHeartbeats 2000000 in
theorem c_let {dp : Nat} {G : Nat → aR tT} (hm : 10 ≤ m) (hdp : dp ≤ 31) (hT : 2010 ≤ T) (hwl : ∀ j, j < cnt → wL pp ee j ≤ 10) (HR : cRv κ sz T len cnt kk pp ee f A nq ni rt dp m G) (HE : cEc κ sz T len cnt kk pp ee f A nq ni rt 135 (dp + 1) m G) : cRc κ sz T len cnt kk pp ee f A nq ni rt 140 dp (m + 1) 212 (fun i => if aIs kk 219 (i + 1) = true then aRc kk G i else (aMs kk 1 (i + 1)).on fun _ i1 => aLt kk G (tN 1 i 0 0 s0 s0) i1) := by
  intro σ D at' cd cn am bd nf ff nm ν e h ho hi hcd hq he
  rw [oE_X7_readLet]
  unfold ob_X7_readLet
  have hle : e < σ.2.1 := alt h.1.1.1 he
  obtain ⟨σ1, a1, v1, o1, r1, z1, k1⟩ := w_next (κ := κ) (T := T) (n := m) h ho hi (by omega)
  rw [oob_at h.2.1, obn_at, a1, ocv_at, oob_at v1.2.1, obn_at, c_kind (n := m) v1 o1 (by omega), oin_at]
  have e1 := h.kd r1 he (by omega)
  have q1 : cQn pp ee f σ1 D nm ν cd nf at' := hq.kf h r1
  have l1 : σ1.2.1 = σ.2.1 := by rw [z1]
  by_cases cr : aIs kk 219 (at' + 1) = true
  · rw [if_pos (show cK kk (.inr (at' + 1)) = 219 from of_decide_eq_true cr), oob_at v1.2.1, obn_at]
    obtain ⟨σ2, D2, at2, am2, bd2, nf2, ff2, nm2, fs, b1, b2, b3, b4, b5, b6, b7⟩ := HR σ1 D at' cd cn am bd nf ff nm ν e v1 o1 cr hcd q1 e1
    rw [b1, ocv_at]
    simp only [if_pos cr]
    refine ⟨σ2, D2, at2, am2, bd2, nf2, ff2, nm2, fs, rfl, b2, b3, (r1.fe e).tr b4, b5, ?_, b7⟩
    unfold cEx at b6 ⊢
    have q1 : σ1.2.2 = σ.2.2 := by rw [z1]
    rw [q1] at b6
    exact b6
  rw [if_neg (show ¬ cK kk (.inr (at' + 1)) = 219 from fun z => cr (decide_eq_true z)), oob_at v1.2.1, obn_at]
  simp only [if_neg cr]
  obtain ⟨σ2, D2, at2, bd2, nf2, b, q, b1, v2, o2, r2, ⟨b3, b4⟩, ⟨b5, b6⟩, ⟨b7, b8, b9, b10⟩, b11⟩ := c_tellQ (κ := κ) (T := T) (n := m) v1 o1 (fun i hi => by cases hi; exact q1.le (Nat.le_succ _)) (by omega) hT hwl
  rw [b1, orn_at]
  have e2 := v1.kd r2 e1 (by omega)
  have beq : b ≠ e := by omega
  obtain ⟨σ3, p3, v3, e3, f3, z3, k3, Q3⟩ := w_put (k := 10) (v := va_rf (some b)) v2 e2 rfl (by decide)
  rw [p3, obn_at, oob_at v3.2.1, obn_at]
  have c3 : σ3.1 b = some (.inr (6, cNa q)) := by rw [k3 b beq]; exact b4
  obtain ⟨σ4, at4, bd4, x1, v4, o4, r4, z4, k4, x5⟩ := c_expect (κ := κ) (T := T) (k := 61) (n := m) v3 o2 (by decide) (by omega)
  have x1' : oF κ T m 108 [va_rf (some (A 0)), .int 61] σ3 = some (none, σ4) := x1
  rw [x1', ocv_at, oob_at v4.2.1, obn_at]
  have e4 := v3.kd r4 e3 (by omega)
  have c4 := v3.kd r4 c3 (by omega)
  have g4 := fl_ms o4 (fun i hi => (o2.at hi).1) x5
  have N4 : ∀ i, aTo (aTo (.inr (at' + 1)) (aMs kk 1)) (aMs kk 61) = .inr i → cQn pp ee f σ4 D2 (nPut nm (at' + 1) b) (nTell f pp ee (at' + 1) ν) cd nf2 i ∧ cNc pp ee f σ4 b (at' + 1) ∧ wL pp ee (at' + 1) ≤ 2000 ∧ at' + 2 < i + 1 := fun i hi => by
    obtain ⟨i2, u, h2, m2⟩ := aTo_inr hi
    obtain ⟨i1, t, h1, c1⟩ := aTo_inr h2
    injection h1 with h1
    subst h1
    obtain ⟨d1, d2, d3⟩ := b11 _ rfl (aMs_inr c1).1
    have i2e := (aMs_inr c1).2
    have ie := (aMs_inr m2).2
    refine ⟨((Q3 _ _ _ (d1.le (by omega))).kf v3 r4), (d2.keep (fun a c ea hc => ?_)).keep (v3.ty r4), d3, by omega⟩
    rw [k3 a (fun z => by rw [z, e2] at ea; injection ea with ea; subst ea; rcases hc with ⟨x, hx⟩ | ⟨x, hx⟩ | ⟨x, hx⟩ <;> cases hx)]
    exact ea
  rw [show nI dp + 1 = nI (dp + 1) by rw [nI_1]]
  obtain ⟨σ5, D5, at5, am5, bd5, nf5, ff5, nm5, x, fx, y1, v5, o5, r5, ⟨y2, y3, y3b⟩, y4, y5⟩ := HE σ4 D2 at4 cd cn am bd4 nf2 ff _ (nPut nm (at' + 1) b) (nTell f pp ee (at' + 1) ν) v4 o4 (by omega) (fun i hi => (N4 i hi).1)
  rw [y1, orn_at]
  have e5 := v4.kd r5 e4 (by omega)
  have c5 := v4.kd r5 c4 (by omega)
  obtain ⟨σ6, p6, v6, e6, f6, z6, k6, Q6⟩ := w_put (k := 12) (v := va_rf (some x)) v5 e5 rfl (by decide)
  rw [p6, obn_at, oob_at v6.2.1, obn_at]
  have c6 : σ6.1 b = some (.inr (6, cNa q)) := by rw [k6 b beq]; exact c5
  obtain ⟨σ7, at7, bd7, w1, v7, o7, r7, z7, k7, w5⟩ := c_expL (κ := κ) (T := T) (k := 208) (n := m) v6 o5 (by decide) (by decide) (by omega)
  have w1' : oF κ T m 108 [va_rf (some (A 0)), .int 208] σ6 = some (none, σ7) := w1
  have e7 := v6.kd r7 e6 (by omega)
  have c7 := v6.kd r7 c6 (by omega)
  have g10 : ofd σ7 (some e) 7 10 = some (.ref b) := by rw [ofd_at e7]; rfl
  rw [w1', ocv_at, g10, ovr_rf, obn_at, oob_at v7.2.1, obn_at]
  have g7 := fl_ms o7 (fun i hi => (o5.at hi).1) w5
  obtain ⟨σ8, D8, s1, v8, s3, s4, s5, ⟨s6, s7⟩, s8⟩ := c_countQ (κ := κ) (T := T) (n := m) v7 c7 rfl (by omega) (by omega)
  rw [s1, ocv_at, oob_at v8.2.1, obn_at]
  have e8 := (s3 e (fun z => by rw [z, v7.2.1] at e7; cases e7) (fun z => by rw [z, v7.1.2.2.1] at e7; cases e7) (fun z => beq z.symm)).trans e7
  obtain ⟨ta, hta⟩ := aTr (aTo (aTo (.inr (at' + 1)) (aMs kk 1)) (aMs kk 61)) G
  have Q8 : ∀ i, aTo (aTo (aTo (aTo (.inr (at' + 1)) (aMs kk 1)) (aMs kk 61)) G) (aMs kk 208) = .inr i → cQn pp ee f σ8 D8 nm5 (nCnt (at' + 1) (nT f pp ee ta (nTell f pp ee (at' + 1) ν))) (cd + 1) nf5 i := fun i hi => by
    obtain ⟨i5, u, h5, m5⟩ := aTo_inr hi
    obtain ⟨i4, t, h4, d4⟩ := aTo_inr h5
    have B := y5 i4 t i5 h4 d4
    rw [hta i4 t i5 h4 d4] at B
    have M := N4 i4 h4
    have Q7 : cQn pp ee f σ7 D5 nm5 (nT f pp ee ta (nTell f pp ee (at' + 1) ν)) cd nf5 i := ((Q6 _ _ _ (B.2.1.le (by have := (aMs_inr m5).2; omega))).kf v6 r7)
    refine s8 _ _ _ _ Q7 (((M.2.1.keep (v4.ty r5)).keep (fun a c ea hc => ?_)).keep (v6.ty r7)) M.2.2.1 ?_ ?_
    · rw [k6 a (fun z => by rw [z, e5] at ea; injection ea with ea; subst ea; rcases hc with ⟨x, hx⟩ | ⟨x, hx⟩ | ⟨x, hx⟩ <;> cases hx)]
      exact ea
    · rw [B.2.2.1 (at' + 1) (by omega)]; exact nPut_eq
    · rw [(nT_12 _ _).2, (nTell_12 _ _).2]; simp
  obtain ⟨σ9, D9, at9, am9, bd9, nf9, ff9, nm9, y, fy, u1, v9, o9, r9, ⟨u2, u3, u3b⟩, u4, u5⟩ := HE σ8 D8 at7 (cd + 1) cn am5 bd7 nf5 ff5 _ nm5 (nCnt (at' + 1) (nT f pp ee ta (nTell f pp ee (at' + 1) ν))) v8 o7 (by omega) Q8
  rw [u1, orn_at]
  have e9 := v8.kd r9 e8 (by omega)
  have c9 := v8.kd r9 s5 (by omega)
  obtain ⟨σ10, p10, v10, e10, f10, z10, k10, Q10⟩ := w_put (k := 13) (v := va_rf (some y)) v9 e9 rfl (by decide)
  have c10 := (k10 b beq).trans c9
  rw [p10, obn_at, w_f12 v10, ovi_i, obn_at]
  obtain ⟨σF, pF, vF, rF, zF, kF⟩ := w_cd (cd2 := cd) (v := nI (cd + 1) - 1) v10 (nI_s1 cd) (by omega)
  rw [pF, obn_at]
  have eF := v10.kd rF e10 (by omega)
  have cF := v10.kd rF c10 (by omega)
  have F9 : cFe A e σ9 D9 σF D9 := f10.tr (rF.fe e)
  have F17 : cFe A e σ1 D σ7 D5 := (((((r2.fe e).tr f3).tr (r4.fe e)).tr (r5.fe e)).tr f6).tr (r7.fe e)
  have F1 : cFe A e σ1 D σF D9 := ((F17.ct s3 s4 s6 b3).tr (r9.fe e)).tr F9
  have l4 : e < σ4.2.1 := alt v4.1.1.1 e4
  have l4b : b < σ4.2.1 := alt v4.1.1.1 c4
  have l8 : e < σ8.2.1 := alt v8.1.1.1 e8
  have G5 : cKp κ A D5 σ4.2.1 σ5 D9 e σF := ((((cKp.fe v5 (f6.tr (r7.fe e)) e5 e7 l4 (Nat.le_refl _) v7.low).tr (cKp.ct v7 s3 s4 c7 s5 s6 l4b (Nat.le_refl _))).tr (cKp.fr v8 r9 (Nat.le_refl _) v9.low)).tr (cKp.fe v9 F9 e9 eF l4 (Nat.le_of_lt l4) vF.low))
  have hst := aLt_st kk G (tN 1 at' 0 0 s0 s0) at'
  refine ⟨σF, D9, at9, am9, bd9, nf9, ff9, nm9, _, rfl, vF, by rw [hst]; exact o9, (r1.fe e).tr F1, ⟨eF, rfl⟩, ?_, fun t j hF => ?_⟩
  · have S := sv_let kk G at'
    rw [hst] at S ⊢
    have t4 := y4
    have t9 := u4
    unfold cEx at t4 t9 ⊢
    have n1 := fl_to (aTo (.inr (at' + 1)) (aMs kk 1)) (aMs kk 61)
    have n2 := fl_to (aTo (aTo (.inr (at' + 1)) (aMs kk 1)) (aMs kk 61)) G
    have n3 := fl_to (aTo (aTo (aTo (.inr (at' + 1)) (aMs kk 1)) (aMs kk 61)) G) (aMs kk 208)
    have n4 := fl_to (aTo (aTo (aTo (aTo (.inr (at' + 1)) (aMs kk 1)) (aMs kk 61)) G) (aMs kk 208)) G
    have n5 := fl_le (aTo (aTo (aTo (aTo (aTo (.inr (at' + 1)) (aMs kk 1)) (aMs kk 61)) G) (aMs kk 208)) G)
    rw [show fl (.inr at') = 0 from rfl]
    have q1 : σ1.2.2 = σ.2.2 := by rw [z1]
    have q3 : σ4.2.2 = σ2.2.2 := by rw [z4, z3]
    have q7 : σ8.2.2 = σ5.2.2 := by rw [s4, z7, z6]
    have qF : σF.2.2 = σ9.2.2 := by rw [zF, z10]
    rw [q1] at b5 b6
    rw [q3] at t4
    rw [q7, s6] at t9
    rw [qF]
    omega
  · obtain ⟨_, i2, d1, hF⟩ := on_inr hF
    unfold aLt at hF
    obtain ⟨_, i4, d2, hF⟩ := on_inr hF
    obtain ⟨ta', i5, d3, hF⟩ := on_inr hF
    obtain ⟨_, i7, d4, hF⟩ := on_inr hF
    obtain ⟨tb, i8, d5, hF⟩ := on_inr hF
    injection hF with hF
    injection hF with hF1 hF2
    subst hF1
    subst hF2
    have S2 := aTo_eq (s := .inr (at' + 1)) rfl d1
    have S4 := aTo_eq S2 d2
    have S5 := aTo_eq S4 d3
    have S7 := aTo_eq S5 d4
    have M := N4 i4 S4
    have B2 := y5 i4 ta' i5 S4 d3
    have B3 := u5 i7 tb i8 S7 d5
    have ea := hta _ _ _ S4 d3
    subst ea
    obtain ⟨t1, t2, t3, t4, t5, t6⟩ := B2
    obtain ⟨w1, w2, w3, w4, w6, w7⟩ := B3
    have n12a := nT_12 (f := f) (pp := pp) (ee := ee) ta' (nTell f pp ee (at' + 1) ν)
    have n12t := nTell_12 (f := f) (pp := pp) (ee := ee) (at' + 1) ν
    have nE : (nCnt (at' + 1) (nT f pp ee ta' (nTell f pp ee (at' + 1) ν))).1 = ν.1 ++ [at' + 1] := by
      show (nT f pp ee ta' (nTell f pp ee (at' + 1) ν)).1 ++ _ = _
      rw [n12a.1, n12t.1]
    have i57 := (aMs_inr d4).2
    have g5 := (o5.at S5).1
    have g4' := (o4.at S4).1
    have y41 := y4.1
    rw [n12t.1] at t4
    rw [nE] at w1 w4
    rw [s6, t5, b8] at w1 w6
    refine ⟨?_, ?_, fun u hu => ?_, ?_, ?_, fun x hx => ?_⟩
    · refine ⟨⟨Nat.le_refl _, alt vF.1.1.1 eF, cMu.no vF eF (by omega)⟩, x, y, b, ?_, ⟨?_, ⟨by omega, alt vF.1.1.1 cF, cMu.no vF cF (by omega)⟩, q, ?_⟩, ?_, ?_⟩
      · rw [eF, hq.1.1]; rfl
      · rw [w3 (at' + 1) (by omega), t3 (at' + 1) (by omega)]; exact nPut_eq
      · rw [hq.1.1]; exact cF
      · have G := cTr.gk (fk := D2.1.2.2.2.2.2) (g := fun _ => none) (k := 0) (x := x) G5 t2.2.1 w3 (by omega) (by omega) (fun x hx => by rw [w7 x (by rw [s6]; exact hx), s7]) t1
        rw [n12t.1, b8] at G
        exact G
      · have G := cTr.go (lo := e) (fk := D.1.2.2.2.2.2 + nF ta') (g := fun _ => none) (k := 0) (x := y) (ν := nCnt (at' + 1) (nT f pp ee ta' (nTell f pp ee (at' + 1) ν))) v9 F9 e9 eF l8 (by omega) vF.low w2.2.1 (fun _ _ => rfl) (Nat.le_refl _) (by omega) (fun _ _ => rfl) (by rw [nE]; exact w1)
        rw [nE] at G
        exact G
    · have Q := Q10 _ _ _ w2
      exact Q.off (v10.ty rF) rfl
    · rw [w3 u (by omega), t3 u (by omega), nPut_lt (by omega)]
    · rw [w4, t4]
      rfl
    · rw [w6]
      show _ = _ + (0 + nF ta' + nF tb)
      omega
    · rw [w7 x (by rw [s6, t5, b8]; omega), s7, t6 x (by rw [b8]; exact hx), b7]
end CQV
