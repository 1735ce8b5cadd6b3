/-! the class's parser: let rec -/
section CQY
variable {κ : oKv} {sz T n m len cnt : Nat} {kk pp ee f : Nat → Int32} {A : Nat → Nat} {nq ni : Int32} {rt : Value} {lo e : Nat}
theorem aRc_st (kk : Nat → Int32) (G : Nat → aR tT) (i : Nat) : (aRc kk G i).st = aTo (aTo (aTo (aTo (pSt kk 3 (aTo (aTo (.inr (i + 2)) (aMs kk 1)) (aMs kk 1))) (aMs kk 61)) G) (aMs kk 208)) G := by
  unfold aRc
  rw [aTo_ok (i + 2)]
  cases aMs kk 1 (i + 2) with
  | inl k => rfl
  | inr p =>
    obtain ⟨t, i1⟩ := p
    simp only [aR.on, aR.st]
    rw [aTo_ok]
    unfold aMs
    by_cases c : aIs kk 1 i1 = true
    · rw [if_pos c, if_pos c]
      simp only [aR.st, pSt]
      rw [show aPs kk 4 i1 = aPs kk 3 (i1 + 1) + 1 by rw [aPs, if_pos c], show i1 + (aPs kk 3 (i1 + 1) + 1) = i1 + 1 + aPs kk 3 (i1 + 1) by omega]
      generalize i1 + 1 + aPs kk 3 (i1 + 1) = i2
      unfold aLt
      simp only [aTo]
      unfold aMs
      by_cases c2 : aIs kk 61 i2 = true
      · rw [if_pos c2]
        simp only [aR.on, aR.st]
        cases G (i2 + 1) with
        | inl k => rfl
        | inr p =>
          obtain ⟨t, i3⟩ := p
          simp only
          by_cases c3 : aIs kk 208 i3 = true
          · rw [if_pos c3]
            simp only
            cases G (i3 + 1) with
            | inl k => rfl
            | inr p => rfl
          · rw [if_neg c3]
      · rw [if_neg c2]
        rfl
    · rw [if_neg c, if_neg c]
      rfl
theorem pSt_inr {r : Nat} {s : Sum Nat Nat} {j : Nat} (h : pSt kk r s = .inr j) : ∃ i, s = .inr i ∧ j = i + aPs kk r i := by
  cases s with
  | inl k => cases h
  | inr i => injection h with h; exact ⟨i, rfl, h.symm⟩
theorem fl_pSt (r : Nat) (s : Sum Nat Nat) : fl (pSt kk r s) = fl s := by cases s <;> rfl
theorem sv_rec (kk : Nat → Int32) (G : Nat → aR tT) (i : Nat) : svR (aRc kk G i) + 1300 * fl (aRc kk G i).st ≤ 1300 + (svA (aTo (pSt kk 3 (aTo (aTo (.inr (i + 2)) (aMs kk 1)) (aMs kk 1))) (aMs kk 61)) G + svA (aTo (aTo (aTo (pSt kk 3 (aTo (aTo (.inr (i + 2)) (aMs kk 1)) (aMs kk 1))) (aMs kk 61)) G) (aMs kk 208)) G) := by
  cases hF : aRc kk G i with
  | inl k => show 0 + 1300 * 1 ≤ _; omega
  | inr p =>
    obtain ⟨t, j⟩ := p
    unfold aRc at hF
    obtain ⟨_, i3, h1, hF⟩ := on_inr hF
    have S4 := aTo_eq (s := .inr (i + 2)) rfl h1
    have i3e := (aMs_inr h1).2
    subst i3e
    split at hF
    · rename_i hn1
      have hn1 : aIs kk 1 (i + 3) = true := hn1
      have eM : aMs kk 1 (i + 3) = .inr ((), i + 4) := by unfold aMs; rw [if_pos hn1]
      have S7 := aTo_eq S4 eM
      have aP : aPs kk 4 (i + 2 + 1) = aPs kk 3 (i + 4) + 1 := by
        show aPs kk 4 (i + 3) = _
        rw [aPs, if_pos hn1]
      rw [aP] at hF
      unfold aLt at hF
      obtain ⟨_, ia, h2, hF⟩ := on_inr hF
      obtain ⟨ta', ic, h3, hF⟩ := on_inr hF
      obtain ⟨_, id, h4, hF⟩ := on_inr hF
      obtain ⟨tb, jf, h5, hF⟩ := on_inr hF
      injection hF with hF
      injection hF with hF1 hF2
      subst hF1
      subst hF2
      have S8 : pSt kk 3 (aTo (aTo (.inr (i + 2)) (aMs kk 1)) (aMs kk 1)) = .inr (i + 2 + 1 + (aPs kk 3 (i + 4) + 1)) := by rw [S7]; show Sum.inr (i + 4 + aPs kk 3 (i + 4)) = _; congr 1; omega
      have Sa := aTo_eq S8 h2
      have Sc := aTo_eq Sa h3
      have Sf := aTo_eq Sc h4
      rw [svA_eq Sa h3, svA_eq Sf h5]
      show 1300 + (sv ta' + sv tb) + 1300 * 0 ≤ 1300 + (sv ta' + sv tb)
      omega
    · cases hF
set_option maxHeartbeats 4000000 in
theorem c_rec {dp : Nat} {G : Nat → aR tT} (hm : 10 ≤ m) (hdp : dp ≤ 31) (hT : 2010 ≤ T) (hwl : ∀ j, j < cnt → wL pp ee j ≤ 10) (HE : cEc κ sz T len cnt kk pp ee f A nq ni rt 135 (dp + 1) (m + 1) G) : cRv κ sz T len cnt kk pp ee f A nq ni rt dp (m + 2) G := by
  intro σ D i cd cn am bd nf ff nm ν e h ho hi hcd hq he
  rw [oE_X7_readRec]
  unfold ob_X7_readRec
  have hle : e < σ.2.1 := alt h.1.1.1 he
  have hlt : i + 1 < cnt := by
    by_cases q : i + 1 < cnt
    · exact q
    · have : i + 1 = cnt := by have := ho.2.2; omega
      have g' : kk (i + 1) = nI 219 := of_decide_eq_true hi
      rw [this, h.1.2.2.2.2.2.1] at g'
      exact absurd g' (by decide)
  obtain ⟨σ0, p0, v0, e0, f0, z0, k0, Q0⟩ := w_put (k := 0) (v := .int 219) h he rfl (by decide)
  rw [p0, obn_at, oob_at v0.2.1, obn_at]
  obtain ⟨σ1, a1, v1, o1, r1, z1, k1⟩ := w_next (κ := κ) (T := T) (n := m + 1) v0 ho hlt (by omega)
  replace v1 : cV κ sz len cnt kk pp ee f A nq ni rt σ1 D (i + 2) cd cn am bd nf ff := v1
  replace o1 : cO pp cnt (i + 2) bd (.inr (i + 2)) := o1
  rw [a1, ocv_at, oob_at v1.2.1, obn_at]
  have e1 := v0.kd r1 e0 (by omega)
  have q1 : cQn pp ee f σ1 D nm ν cd nf i := (Q0 _ _ _ hq).kf v0 r1
  have l1 : σ1.2.1 = σ.2.1 := by rw [z1, z0]
  obtain ⟨σ2, D2, pa, b1, v2, ⟨b2, b2a, b2b⟩, ⟨b3, b3a⟩, ⟨e2, b5, b6, b7⟩, b8, ⟨b9, b10⟩⟩ := c_befun (κ := κ) (T := T) (m := m) v1 e1 rfl (by have := h.2.2.2.2.2; omega) (by omega)
  have f2 : cFe A e σ1 D σ2 D2 := b8
  rw [b1, ocv_at, oob_at v2.2.1, obn_at]
  have D2t : D2.1.2.2.2.2.1 = D.1.2.2.2.2.1 := by rw [b2]
  have D2f : D2.1.2.2.2.2.2 = D.1.2.2.2.2.2 + 1 := by rw [b2]
  have q2 : cQn pp ee f σ2 D2 nm ν cd nf i := q1.dd (v1.tyE e1 f2) b2a b2b D2t
  have A8 : A 8 < σ1.2.1 := v1.1.lt (by unfold cSt; simp)
  have A9 : A 9 < σ1.2.1 := v1.1.lt (by unfold cSt; simp)
  have l12 : σ1.2.1 ≤ σ2.2.1 := b8.1
  -- the function's NAME
  obtain ⟨σ4, D4, at4, bd4, nf4, b, q0, d1, v4, o4, r4, ⟨d3, d4⟩, ⟨d5, d6⟩, ⟨d7, d8, d9, d10⟩, d11⟩ := c_tellQ (κ := κ) (T := T) (n := m + 1) v2 o1 (fun i' hi' => by cases hi'; exact q2.le (by omega)) (by omega) hT hwl
  rw [d1, orn_at]
  have e4 := v2.kd r4 e2 (by omega)
  have beq : b ≠ e := by omega
  obtain ⟨σ5, p5, v5, e5, f5, z5, k5, Q5⟩ := w_put (k := 10) (v := va_rf (some b)) v4 e4 rfl (by decide)
  have g10 : ofd σ5 (some e) 7 10 = some (.ref b) := by rw [ofd_at e5]; rfl
  rw [p5, obn_at, g10, ovr_rf, obn_at, oob_at v5.2.1, obn_at]
  have c5 := (k5 b beq).trans d4
  obtain ⟨σ6, D6, s1, v6, s3, s4, s5, ⟨s6, s7⟩, s8⟩ := c_countQ (κ := κ) (T := T) (n := m + 1) v5 c5 rfl (by omega) (by omega)
  rw [s1, ocv_at]
  have e6 := (s3 e (fun z => by rw [z, v5.2.1] at e5; cases e5) (fun z => by rw [z, v5.1.2.2.1] at e5; cases e5) (fun z => beq z.symm)).trans e5
  have f6 : cFe A e σ1 D σ6 D6 := ((f2.tr (r4.fe e)).tr f5).ct s3 s4 s6 (by omega)
  have N6 : ∀ j, aTo (.inr (i + 2)) (aMs kk 1) = .inr j → cQn pp ee f σ6 D6 (nPut nm (i + 2) b) (nPar f pp ee 1 (i + 2) ν) (cd + 1) nf4 j ∧ j = i + 3 := fun j hj => by
    obtain ⟨i1, t, h1, y1⟩ := aTo_inr hj
    injection h1 with h1
    subst h1
    obtain ⟨w1, w2, w3⟩ := d11 _ rfl (aMs_inr y1).1
    have je := (aMs_inr y1).2
    refine ⟨s8 _ _ _ _ ((Q5 _ _ _ w1).le (by omega)) (w2.keep (fun a c ea hc => ?_)) w3 nPut_eq ?_, by omega⟩
    · rw [k5 a (fun z => by rw [z, e4] at ea; injection ea with ea; subst ea; rcases hc with ⟨x, hx⟩ | ⟨x, hx⟩ | ⟨x, hx⟩ <;> cases hx)]
      exact ea
    · rw [(nTell_12 _ _).2]; simp
  -- the list of its NAMES, still empty
  have b6n : @LE.le Nat _ σ1.2.1 pa := b6
  have b7n : @LT.lt Nat _ pa σ2.2.1 := b7
  have pae : @Ne Nat pa e := by omega
  have pab : @Ne Nat pa b := by omega
  have pa4 : σ4.1 pa = some (.inr (1, [.int 0, .ref κ.2.2.1, .int 0])) := (r4.2.1 pa b7 (cMu.n1 v2 b5 (by omega) (by omega))).trans b5
  have pa5 := (k5 pa pae).trans pa4
  have pa6 := (s3 pa (fun z => by rw [z, v5.2.1] at pa5; cases pa5) (fun z => by rw [z, v5.1.2.2.1] at pa5; cases pa5) pab).trans pa5
  have okp : cOk A D6 σ1.2.1 σ6 pa := ⟨b6, alt v6.1.1.1 pa6, cMu.n1 v6 pa6 (by omega) (by omega)⟩
  have lst : cLs κ σ6 pa κ.2.2.1 0 0 0 (fun _ => none) 6 := ⟨pa6, Or.inl ⟨rfl, rfl, rfl, v6.low⟩, fun j hj => by omega⟩
  -- its first NAME
  obtain ⟨T', hT'⟩ : ∃ T', T = T' + 1 := ⟨T - 1, by omega⟩
  have UN : ol_X7_readRec_34 T (oF κ T (m + 1)) κ T (some (A 0)) (some e) (nI dp) 0 σ6 = oj_X7_readRec_51 T (oF κ T (m + 1)) κ (ol_X7_readRec_34 T (oF κ T (m + 1)) κ T') (some (A 0)) (some e) (nI dp) 0 σ6 := by
    conv => lhs; arg 4; rw [hT']
    rw [ol_X7_readRec_34]
    rw [if_neg (show ¬ (4 : Int32) ≤ 0 by decide), if_pos rfl]
  rw [UN]
  unfold oj_X7_readRec_51
  obtain ⟨σ7, D7, at7, bd7, nf7, b', d', cap', g', c1, v7, o7, ⟨l7, ok7, ok7p, c4, c5', c6⟩, c7, ⟨c8, c9, qq, c10⟩, ⟨c11, c12⟩, ⟨c13, c14, c15, c16, c16b⟩, c17⟩ := c_tpar (κ := κ) (T := T) (m := m) (lo := σ1.2.1) (nm := nPut nm (i + 2) b) (ν := nPar f pp ee 1 (i + 2) ν) v6 o4 (fun j hj => (N6 j hj).1) e6 rfl v1.lo lst (Or.inr ⟨rfl, v6.low⟩) okp (by omega) (by omega) (by omega) (by omega) hT hwl
  rw [oob_at v6.2.1, obn_at, c1, ocv_at]
  have e7 := (c7.2.1 e (alt v6.1.1.1 e6) (cMu.no v6 e6 (by omega)) (by omega) (by have := ok7.1; omega)).trans e6
  have f7 : cFe A e σ1 D σ7 D7 := f6.tp c7 b6 ok7.1
  have b6c : σ7.1 b = some (.inr (6, (cNa q0).set 1 (.int (nI cd)))) := by
    rw [c7.2.1 b (alt v6.1.1.1 s5) (cMu.no v6 s5 (by omega)) (fun z => pab z.symm) (fun z => ?_)]
    · exact s5
    · rcases c16b with y | y
      · rw [z, y, v6.low] at s5; cases s5
      · have := alt v6.1.1.1 s5; omega
  have N7 : ∀ j, aTo (aTo (.inr (i + 2)) (aMs kk 1)) (aMs kk 1) = .inr j → cQn pp ee f σ7 D7 (nPut (nPut nm (i + 2) b) (i + 3) b') (nPar f pp ee 2 (i + 2) ν) (cd + 2) nf7 j ∧ j = i + 4 := fun j hj => by
    obtain ⟨i1, t, h1, y1⟩ := aTo_inr hj
    have i1e := (N6 i1 h1).2
    subst i1e
    have je := (aMs_inr y1).2
    exact ⟨(c17 _ h1 (aMs_inr y1).1).le (by omega), by omega⟩
  -- those behind it
  obtain ⟨σ8, D8, at8, bd8, nf8, nm8, d8', cap8, mc8, g8, q, w1, v8, o8, e8, ⟨w5, w6, w7, w8, w9⟩, ⟨w10, w11, w12, w13⟩, w14, ⟨w15, w16⟩, ⟨w17, w18, w19, w20⟩, w21⟩ := c_rlp (κ := κ) (T := T) (m := m) (lo := σ1.2.1) (x2 := nI dp) v1.lo (by omega) hT hwl rfl (show e < σ1.2.1 by omega) 3 1 T' σ7 D7 at7 (cd + 1 + 1) bd7 nf7 _ (nPut (nPut nm (i + 2) b) (i + 3) b') (nPar f pp ee 2 (i + 2) ν) d' cap' (0 + 1) g' (by omega) (by omega) (by omega) v7 o7 (fun j hj => (N7 j hj).1) e7 l7 (Or.inl ok7) ok7p c4 (by omega)
  rw [show (0 : Int32) + 1 = nI 1 from rfl, w1]
  have f8 : cFe A e σ1 D σ8 D8 := by
    obtain ⟨y1, y2, y3, y4⟩ := f7
    refine ⟨by omega, fun a ha hmu hne => ?_, ?_, ?_⟩
    · rw [w11 a ha (cMu.bk y3 y4 ha hmu)]; exact y2 a ha hmu hne
    · rcases w12 with z | z
      · rw [z]; exact y3
      · exact Or.inr (by omega)
    · rcases w13 with z | z
      · rw [z]; exact y4
      · exact Or.inr (by omega)
  have c8b := w14 b _ b6c
  have c8b' := w14 b' _ c10
  unfold oj_X7_readRec_62
  rw [oob_at v8.2.1, obn_at]
  obtain ⟨σa, ata, bda, x1, va, oa, ra, za, ka, x5⟩ := c_expect (κ := κ) (T := T) (k := 61) (n := m + 1) v8 o8 (by decide) (by omega)
  have x1' : oF κ T (m + 1) 108 [va_rf (some (A 0)), .int 61] σ8 = some (none, σa) := x1
  rw [x1', ocv_at, oob_at va.2.1, obn_at]
  have ea := v8.kd ra e8 (by omega)
  have ga := fl_ms oa (fun j hj => (o8.at hj).1) x5
  have Na : ∀ j, aTo (pSt kk 3 (aTo (aTo (.inr (i + 2)) (aMs kk 1)) (aMs kk 1))) (aMs kk 61) = .inr j → cQn pp ee f σa D8 nm8 (nPar f pp ee q (i + 4) (nPar f pp ee 2 (i + 2) ν)) (cd + 1 + 1 + q) nf8 j ∧ j = i + 5 + q := fun j hj => by
    obtain ⟨j8, t, h8, y8⟩ := aTo_inr hj
    obtain ⟨j7, h7, y7⟩ := pSt_inr h8
    have j7e := (N7 j7 h7).2
    subst j7e
    obtain ⟨u1, u2, u3, u4⟩ := w21 _ h7
    have je := (aMs_inr y8).2
    exact ⟨(u2.le (by omega)).kf v8 ra, by omega⟩
  rw [show nI dp + 1 = nI (dp + 1) by rw [nI_1]]
  obtain ⟨σb, Db, atb, amb, bdb, nfb, ffb, nmb, x, fx, y1, vb, ob, rb, ⟨y2, y3, y3b⟩, y4, y5⟩ := HE σa D8 ata (cd + 1 + 1 + q) cn am bda nf8 ff _ nm8 (nPar f pp ee q (i + 4) (nPar f pp ee 2 (i + 2) ν)) va oa (by omega) (fun j hj => (Na j hj).1)
  rw [y1, orn_at]
  have eb := va.kd rb ea (by omega)
  obtain ⟨σc, pc, vc, ec, fc, zc, kc, Qc⟩ := w_put (k := 12) (v := va_rf (some x)) vb eb rfl (by decide)
  rw [pc, obn_at, oob_at vc.2.1, obn_at]
  obtain ⟨σd, atd, bdd, t1, vd, od, rd, zd, kd, t5⟩ := c_expL (κ := κ) (T := T) (k := 208) (n := m + 1) vc ob (by decide) (by decide) (by omega)
  have t1' : oF κ T (m + 1) 108 [va_rf (some (A 0)), .int 208] σc = some (none, σd) := t1
  have ed := vc.kd rd ec (by omega)
  have gd := fl_ms od (fun j hj => (ob.at hj).1) t5
  have g11 : ofd σd (some e) 7 11 = some (.ref pa) := by rw [ofd_at ed]; rfl
  have Fd : cFe A e σ8 D8 σd Db := (((ra.fe e).tr (rb.fe e)).tr fc).tr (rd.fe e)
  have Gd : cKp κ A D8 σ1.2.1 σ8 Db σ1.2.1 σd := cKp.fe v8 Fd e8 ed (by omega) (Nat.le_refl _) vd.low
  have dk : σd.1 d8' = σ8.1 d8' := by
    rcases w6 with y | ⟨y, y'⟩
    · exact (Gd.1 _ y).1
    · rw [y', y]; exact vd.low
  have ld := w5.keep (σ' := σd) (Gd.1 pa w7).1 dk (fun a gs ea => Gd.2.1 a gs ea)
  obtain ⟨m0, hm0⟩ : ∃ m0, m + 1 = m0 + 1 := ⟨m, rfl⟩
  rw [t1', ocv_at, w_f12 vd, ovi_i, obn_at, g11, ovr_rf, obn_at, oob_at ld.1, obn_at, l_sz (n := m) ld, oin_at]
  obtain ⟨σe, pe, ve, re, ze, ke⟩ := w_cd (cd2 := cd + 1) (v := nI (cd + 1 + 1 + q) - nI (1 + q)) vd (by rw [nI_sub' (by omega)]; congr 1; omega) (by omega)
  rw [pe, obn_at, oob_at ve.2.1, obn_at]
  have ee' := vd.kd re ed (by omega)
  obtain ⟨ta, hta⟩ := aTr (aTo (pSt kk 3 (aTo (aTo (.inr (i + 2)) (aMs kk 1)) (aMs kk 1))) (aMs kk 61)) G
  have Ne : ∀ j, aTo (aTo (aTo (pSt kk 3 (aTo (aTo (.inr (i + 2)) (aMs kk 1)) (aMs kk 1))) (aMs kk 61)) G) (aMs kk 208) = .inr j → cQn pp ee f σe Db nmb (nOff (1 + q) (nT f pp ee ta (nPar f pp ee q (i + 4) (nPar f pp ee 2 (i + 2) ν)))) (cd + 1) nfb j := fun j hj => by
    obtain ⟨jc, u, hc, mc⟩ := aTo_inr hj
    obtain ⟨ja, t, ha, cc⟩ := aTo_inr hc
    have B := y5 ja t jc ha cc
    rw [hta ja t jc ha cc] at B
    exact ((Qc _ _ _ (B.2.1.le (by have := (aMs_inr mc).2; omega))).kf vc rd).off (vd.ty re) (by omega)
  obtain ⟨σf, Df, atf, amf, bdf, nff, fff, nmf, y, fy, u1, vf, of, rf, ⟨u2, u3, u3b⟩, u4, u5⟩ := HE σe Db atd (cd + 1) cn amb bdd nfb ffb _ nmb (nOff (1 + q) (nT f pp ee ta (nPar f pp ee q (i + 4) (nPar f pp ee 2 (i + 2) ν)))) ve od (by omega) Ne
  rw [u1, orn_at]
  have ef := ve.kd rf ee' (by omega)
  obtain ⟨σg, pg, vg, eg, fg, zg, kg, Qg⟩ := w_put (k := 13) (v := va_rf (some y)) vf ef rfl (by decide)
  rw [pg, obn_at, w_f12 vg, ovi_i, obn_at]
  obtain ⟨σF, pF, vF, rF, zF, kF⟩ := w_cd (cd2 := cd) (v := nI (cd + 1) - 1) vg (nI_s1 cd) (by omega)
  rw [pF, obn_at]
  have eF := vg.kd rF eg (by omega)
  have Ff : cFe A e σf Df σF Df := fg.tr (rF.fe e)
  have Fb : cFe A e σb Db σF Df := (((fc.tr (rd.fe e)).tr (re.fe e)).tr (rf.fe e)).tr Ff
  have F8 : cFe A e σ8 D8 σF Df := ((ra.fe e).tr (rb.fe e)).tr Fb
  have G8 : cKp κ A D8 σ1.2.1 σ8 Df e σF := cKp.fe v8 F8 e8 eF (by omega) (by omega) vF.low
  have la : e < σa.2.1 := alt va.1.1.1 ea
  have le' : e < σe.2.1 := alt ve.1.1.1 ee'
  have hst := aRc_st kk G i
  refine ⟨σF, Df, atf, amf, bdf, nff, fff, nmf, _, rfl, vF, by rw [hst]; exact of, ((f0.tr (r1.fe e)).tr f8).tr F8, ⟨eF, rfl⟩, ?_, fun t j hF => ?_⟩
  · have S := sv_rec kk G i
    rw [hst] at S ⊢
    have t4 := y4
    have t9 := u4
    unfold cEx at t4 t9 ⊢
    have n1 := fl_to (aTo (.inr (i + 2)) (aMs kk 1)) (aMs kk 1)
    have n2 := fl_to (pSt kk 3 (aTo (aTo (.inr (i + 2)) (aMs kk 1)) (aMs kk 1))) (aMs kk 61)
    have n3 := fl_to (aTo (pSt kk 3 (aTo (aTo (.inr (i + 2)) (aMs kk 1)) (aMs kk 1))) (aMs kk 61)) G
    have n4 := fl_to (aTo (aTo (pSt kk 3 (aTo (aTo (.inr (i + 2)) (aMs kk 1)) (aMs kk 1))) (aMs kk 61)) G) (aMs kk 208)
    have n5 := fl_to (aTo (aTo (aTo (pSt kk 3 (aTo (aTo (.inr (i + 2)) (aMs kk 1)) (aMs kk 1))) (aMs kk 61)) G) (aMs kk 208)) G
    have n6 := fl_le (aTo (aTo (aTo (aTo (pSt kk 3 (aTo (aTo (.inr (i + 2)) (aMs kk 1)) (aMs kk 1))) (aMs kk 61)) G) (aMs kk 208)) G)
    rw [fl_pSt] at n2
    rw [show fl (.inr i) = 0 from rfl]
    have q1 : σ1.2.2 = σ.2.2 := by rw [z1, z0]
    have q6 : σ6.2.2 = σ4.2.2 := by rw [s4, z5]
    have qa : σa.2.2 = σ8.2.2 := by rw [za]
    have qe : σe.2.2 = σb.2.2 := by rw [ze, zd, zc]
    have qF : σF.2.2 = σf.2.2 := by rw [zF, zg]
    have D61 : D6.1.2.2.1 = D4.1.2.2.1 := by rw [s6]
    have D62 : D6.1.2.2.2.1 = D4.1.2.2.2.1 := by rw [s6]
    rw [q1] at b9 b10
    rw [q6] at c11 c12
    rw [qa] at t4
    rw [qe] at t9
    rw [qF]
    omega
  · unfold aRc at hF
    obtain ⟨_, i3, h1, hF⟩ := on_inr hF
    have S4 := aTo_eq (s := .inr (i + 2)) rfl h1
    have i3e := (N6 i3 S4).2
    subst i3e
    split at hF
    · rename_i hn1
      have eM : aMs kk 1 (i + 3) = .inr ((), i + 4) := by unfold aMs; rw [if_pos hn1]
      have S7 := aTo_eq S4 eM
      obtain ⟨u21, u22, u23, u24⟩ := w21 _ S7
      have aP : aPs kk 4 (i + 3) = 1 + q := by rw [aPs, if_pos hn1]; have : aPs kk 3 (i + 3 + 1) = aPs kk 3 (i + 4) := rfl; omega
      rw [aP] at hF
      unfold aLt at hF
      obtain ⟨_, ia, h2, hF⟩ := on_inr hF
      obtain ⟨ta', ic, h3, hF⟩ := on_inr hF
      obtain ⟨_, id, h4, hF⟩ := on_inr hF
      obtain ⟨tb, jf, h5, hF⟩ := on_inr hF
      injection hF with hF
      injection hF with hF1 hF2
      subst hF1
      subst hF2
      have S8 : pSt kk 3 (aTo (aTo (.inr (i + 2)) (aMs kk 1)) (aMs kk 1)) = .inr (i + 3 + (1 + q)) := by rw [S7]; show Sum.inr (i + 4 + aPs kk 3 (i + 4)) = _; rw [← u21]; congr 1; omega
      have Sa := aTo_eq S8 h2
      have Sc := aTo_eq Sa h3
      have Sf := aTo_eq Sc h4
      obtain ⟨m1, m2, m3, m4, m5, m6⟩ := y5 ia ta' ic Sa h3
      obtain ⟨k1, k2, k3, k4, k5, k6⟩ := u5 id tb jf Sf h5
      have ea' := hta _ _ _ Sa h3
      subst ea'
      have iae := (Na ia Sa).2
      have ide := (aMs_inr h4).2
      have gc := (ob.at Sc).1
      have ga' := (oa.at Sa).1
      have y41 := y4.1
      have nP : (nPar f pp ee q (i + 4) (nPar f pp ee 2 (i + 2) ν)) = nPar f pp ee (1 + q) (i + 3) (nPar f pp ee 1 (i + 2) ν) := by
        rw [show 1 + q = q + 1 by omega]; rfl
      have nE : (nPar f pp ee q (i + 4) (nPar f pp ee 2 (i + 2) ν)).1 = ν.1 ++ ([i + 2] ++ List.range' (i + 3) (1 + q)) := by
        rw [nP, (nPar_12 _ _ _).1, (nPar_12 _ _ _).1, List.append_assoc]; rfl
      have n12a := nT_12 (f := f) (pp := pp) (ee := ee) ta' (nPar f pp ee q (i + 4) (nPar f pp ee 2 (i + 2) ν))
      have nO : (nOff (1 + q) (nT f pp ee ta' (nPar f pp ee q (i + 4) (nPar f pp ee 2 (i + 2) ν)))).1 = ν.1 ++ [i + 2] := nOff_1 (l := List.range' (i + 3) (1 + q)) (by rw [n12a.1, nE, List.append_assoc]) (List.length_range' ..)
      have D8f : D8.1.2.2.2.2.2 = D.1.2.2.2.2.2 + 1 := by rw [w18, c14, s6, d8, D2f]
      have D8g : D8.2.2.2 = D2.2.2.2 := by rw [w17, c13, s7, d7]
      have nmE : ∀ u, u < i + 5 + q → nmf u = nm8 u := fun u hu => by rw [k3 u (by omega), m3 u (by omega)]
      refine ⟨?_, ?_, fun u hu => ?_, ?_, ?_, fun x hx => ?_⟩
      · refine ⟨⟨Nat.le_refl _, alt vF.1.1.1 eF, cMu.no vF eF (by omega)⟩, x, y, b, pa, ?_, ?_, ?_, ?_, ?_, ?_⟩
        · rw [eF, hq.1.1]; rfl
        · rw [k6 _ (by omega), m6 _ (by omega), D8g]; exact b3a
        · refine cNx.kp (nm := nm8) G8 (nmE _ (by omega)) ⟨?_, ⟨by omega, alt v8.1.1.1 c8b, cMu.no v8 c8b (by omega)⟩, q0, ?_⟩
          · rw [u23 _ (by omega), nPut_lt (by omega)]; exact nPut_eq
          · rw [hq.1.1]; exact c8b
        · refine cNl.kp (nm := nm8) G8 (fun x hx => nmE _ (by have : x < 1 + q := hx; omega)) ⟨d8', cap8, mc8, g8, w5, w6, w7, fun x hx => ?_⟩
          cases x with
          | zero =>
            refine ⟨b', (w9 0 (by omega)).trans c6, (u23 _ (by omega)).trans nPut_eq, ⟨c9.1, alt v8.1.1.1 c8b', cMu.no v8 c8b' (by omega)⟩, qq, ?_⟩
            rw [hq.1.1]; exact c8b'
          | succ x =>
            have hx' : x + 1 < 1 + q := hx
            obtain ⟨b'', z1, z2⟩ := u24 x (by omega)
            refine ⟨b'', by rw [show x + 1 = 1 + x by omega]; exact z1, ?_⟩
            rw [hq.1.1, show i + 3 + (x + 1) = i + 4 + x by omega, show cd + 1 + (x + 1) = cd + 1 + 1 + x by omega]
            exact z2
        · have G' := cTr.go (lo := e) (fk := D8.1.2.2.2.2.2) (g := fun _ => none) (k := 0) (x := x) vb Fb eb eF la (by omega) vF.low m2.2.1 k3 (by omega) (by omega) k6 m1
          rw [nE, D8f] at G'
          exact G'
        · have G' := cTr.go (lo := e) (fk := Db.1.2.2.2.2.2) (g := fun _ => none) (k := 0) (x := y) vf Ff ef eF le' (by omega) vF.low k2.2.1 (fun _ _ => rfl) (Nat.le_refl _) (by omega) (fun _ _ => rfl) k1
          rw [nO, m5, D8f] at G'
          exact G'
      · have Q := Qg _ _ _ k2
        have Q2 := Q.off (cd := cd) (k := 1) (vg.ty rF) rfl
        rw [nP] at Q2
        exact Q2
      · rw [k3 u (by omega), m3 u (by omega), u23 u (by omega), nPut_lt (by omega), nPut_lt (by omega)]
      · rw [k4, nO, m4, nE]
        rfl
      · rw [k5, m5, D8f]
        show _ = _ + (1 + nF ta' + nF tb)
        omega
      · rw [k6 x (by omega), m6 x (by omega), D8g, b3 x hx]
    · cases hF
end CQY
