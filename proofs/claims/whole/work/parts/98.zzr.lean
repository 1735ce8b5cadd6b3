/-! the class's parser: match -/
section CRC
variable {κ : oKv} {sz T n m len cnt : Nat} {kk pp ee f : Nat → Int32} {A : Nat → Nat} {nq ni : Int32} {rt : Value} {σ σ' : oSt} {D D' : cDt} {at' cd : Nat} {cn am bd nf ff : Int32} {s : Sum Nat Nat} {nm nm' : Nat → Option Nat} {ν : nSt} {lo e i : Nat}
theorem ms_cs {α : Type} (k i : Nat) (F : Unit → Nat → aR α) : ((aMs kk k i).on F).st = match aMs kk k i with | .inl j => .inl j | .inr p => (F p.1 p.2).st := by
  cases aMs kk k i <;> rfl
theorem aMt_st (kk : Nat → Int32) (G : Nat → aR tT) (i : Nat) : (aMt kk G i).st = aTo (aTo (aTo (aTo (aTo (aTo (aTo (aTo (aTo (aTo (.inr (i + 1)) (aMs kk 1)) (aMs kk 225)) (aMs kk 216)) (aMs kk 304)) G) (aMs kk 59)) (aMs kk 1)) (aMs kk 1)) (aMs kk 304)) G := by
  unfold aMt
  simp only [aTo]
  cases aMs kk 1 (i + 1) with
  | inl k => rfl
  | inr p =>
  obtain ⟨t, i1⟩ := p
  simp only [aR.on, aR.st]
  cases aMs kk 225 i1 with
  | inl k => rfl
  | inr p =>
  obtain ⟨t, i2⟩ := p
  simp only
  cases aMs kk 216 i2 with
  | inl k => rfl
  | inr p =>
  obtain ⟨t, i3⟩ := p
  simp only
  cases aMs kk 304 i3 with
  | inl k => rfl
  | inr p =>
  obtain ⟨t, i4⟩ := p
  simp only
  cases G i4 with
  | inl k => rfl
  | inr p =>
  obtain ⟨t, i5⟩ := p
  simp only
  cases aMs kk 59 i5 with
  | inl k => rfl
  | inr p =>
  obtain ⟨t, i6⟩ := p
  simp only
  cases aMs kk 1 i6 with
  | inl k => rfl
  | inr p =>
  obtain ⟨t, i7⟩ := p
  simp only
  cases aMs kk 1 i7 with
  | inl k => rfl
  | inr p =>
  obtain ⟨t, i8⟩ := p
  simp only
  cases aMs kk 304 i8 with
  | inl k => rfl
  | inr p =>
  obtain ⟨t, i9⟩ := p
  simp only
  cases G i9 with
  | inl k => rfl
  | inr p => rfl
theorem sv_mt (kk : Nat → Int32) (G : Nat → aR tT) (i : Nat) : svR (aMt kk G i) + 900 * fl (aMt kk G i).st ≤ 900 + (svA (aTo (aTo (aTo (aTo (.inr (i + 1)) (aMs kk 1)) (aMs kk 225)) (aMs kk 216)) (aMs kk 304)) G + svA (aTo (aTo (aTo (aTo (aTo (aTo (aTo (aTo (aTo (.inr (i + 1)) (aMs kk 1)) (aMs kk 225)) (aMs kk 216)) (aMs kk 304)) G) (aMs kk 59)) (aMs kk 1)) (aMs kk 1)) (aMs kk 304)) G) := by
  cases hF : aMt kk G i with
  | inl k => show 0 + 900 * 1 ≤ _; omega
  | inr p =>
    obtain ⟨t, j⟩ := p
    unfold aMt at hF
    obtain ⟨_, i3, h1, hF⟩ := on_inr hF
    obtain ⟨_, i8, h2, hF⟩ := on_inr hF
    obtain ⟨_, i9, h3, hF⟩ := on_inr hF
    obtain ⟨_, ia, h4, hF⟩ := on_inr hF
    obtain ⟨tA', ib, h5, hF⟩ := on_inr hF
    obtain ⟨_, id, h6, hF⟩ := on_inr hF
    obtain ⟨_, ih, h7, hF⟩ := on_inr hF
    obtain ⟨_, ii, h8, hF⟩ := on_inr hF
    obtain ⟨_, ij, h9, hF⟩ := on_inr hF
    obtain ⟨tB, ik, h10, hF⟩ := on_inr hF
    injection hF with hF
    injection hF with hF1 hF2
    subst hF1
    subst hF2
    have T3 := aTo_eq (s := .inr (i + 1)) rfl h1
    have T8 := aTo_eq T3 h2
    have T9 := aTo_eq T8 h3
    have Ta := aTo_eq T9 h4
    have Tb := aTo_eq Ta h5
    have Td := aTo_eq Tb h6
    have Th := aTo_eq Td h7
    have Ti := aTo_eq Th h8
    have Tj := aTo_eq Ti h9
    rw [svA_eq Ta h5, svA_eq Tj h10]
    show 900 + (sv tA' + sv tB) + 900 * 0 ≤ 900 + (sv tA' + sv tB)
    omega
set_option maxHeartbeats 4000000 in
theorem c_match {dp : Nat} {G : Nat → aR tT} (hm : 13 ≤ m) (hdp : dp ≤ 31) (hT : 2010 ≤ T) (hwl : ∀ j, j < cnt → wL pp ee j ≤ 10) (HE : cEc κ sz T len cnt kk pp ee f A nq ni rt 135 (dp + 1) (m + 1) G) : cRc κ sz T len cnt kk pp ee f A nq ni rt 141 dp (m + 2) 214 (aMt kk G) := by
  intro σ D at' cd cn am bd nf ff nm ν e h ho hi hcd hq he
  rw [oE_X7_readMatch]
  unfold ob_X7_readMatch
  have hle : e < σ.2.1 := alt h.1.1.1 he
  obtain ⟨σ1, a1, v1, o1, r1, z1, k1⟩ := w_next (κ := κ) (T := T) (n := m + 1) h ho hi (by omega)
  rw [oob_at h.2.1, obn_at, a1, ocv_at, oob_at v1.2.1, obn_at, c_here (n := m + 1) v1 (by omega), oin_at]
  have e1 := h.kd r1 he (by omega)
  have l1 : σ1.2.1 = σ.2.1 := by rw [z1]
  have q1 : cQn pp ee f σ1 D nm ν cd nf (at' + 1) := (hq.kf h r1).le (Nat.le_succ _)
  obtain ⟨σ2, p2, v2, e2, f2, z2, k2, Q2⟩ := w_put (k := 4) (v := .int (pp (at' + 1))) v1 e1 rfl (by decide)
  rw [p2, obn_at, oob_at v2.2.1, obn_at]
  obtain ⟨σ3, at3, bd3, nf3, r, b1, v3, o3, r3, ⟨b5, b6⟩, ⟨b7, b7b⟩, b8, b9⟩ := c_useQ (κ := κ) (T := T) (n := m + 1) v2 o1 (fun i hi => by cases hi; exact Q2 _ _ _ q1) (by omega) hT hwl
  rw [b1, orn_va]
  have e3 := v2.kd r3 e2 (by omega)
  obtain ⟨σ4, p4, v4, e4, f4, z4, k4, Q4⟩ := w_put (k := 9) (v := va_rf r) v3 e3 rfl (by decide)
  have g9 : ofd σ4 (some e) 7 9 = some (va_rf r) := by rw [ofd_at e4]; rfl
  rw [p4, obn_at, g9, ovr_va, obn_at]
  have l4 : e < σ4.2.1 := alt v4.1.1.1 e4
  obtain ⟨σ5, na, ta, c1, v5, r5, A5, ⟨S5, c2, c3, c4, c5⟩, z5⟩ := c_of (κ := κ) (T := T) (m := m) (r := r) v4 (fun b hb => by
    obtain ⟨gs, eg⟩ := b9 b hb
    exact ⟨gs, (k4 b (fun z => by rw [z, e3] at eg; cases eg)).trans eg⟩) (by omega) hT
  have z51 : σ5.2.1 = σ4.2.1 + 3 := by rw [z5]
  have e5 := v4.kd r5 e4 (by omega)
  rw [c1, orn_at, oob_at v5.2.1, obn_at]
  obtain ⟨σ6, d1, v6, r6, d2, k6, z6⟩ := c_cpr (κ := κ) (T := T) (m := m) (su := some σ4.2.1) (rl := 300) v5 (by omega)
  have z61 : σ6.2.1 = σ5.2.1 + 1 := by rw [z6]
  have e6 := v5.kd r6 e5 (by omega)
  rw [d1, orn_at]
  obtain ⟨σ7, p7, v7, e7, f7, z7, k7, Q7⟩ := w_put (k := 14) (v := va_rf (some σ5.2.1)) v6 e6 rfl (by decide)
  rw [p7, obn_at, oob_at v7.2.1, obn_at]
  obtain ⟨σ8, at8, bd8, x1, v8, o8, r8, z8, k8, x5⟩ := c_expect (κ := κ) (T := T) (k := 225) (n := m + 1) v7 o3 (by decide) (by omega)
  have x1' : oF κ T (m + 1) 108 [va_rf (some (A 0)), .int 225] σ7 = some (none, σ8) := x1
  rw [x1', ocv_at, oob_at v8.2.1, obn_at]
  have g8 := fl_ms o8 (fun i hi => (o3.at hi).1) x5
  obtain ⟨σ9, at9, bd9, y1, v9, o9, r9, z9, k9, y5⟩ := c_expect (κ := κ) (T := T) (k := 216) (n := m + 1) v8 o8 (by decide) (by omega)
  have y1' : oF κ T (m + 1) 108 [va_rf (some (A 0)), .int 216] σ8 = some (none, σ9) := y1
  rw [y1', ocv_at, oob_at v9.2.1, obn_at]
  have g9' := fl_ms o9 (fun i hi => (o8.at hi).1) y5
  obtain ⟨σa, ata, bda, w1, va, oa, ra, za, ka, w5⟩ := c_expect (κ := κ) (T := T) (k := 304) (n := m + 1) v9 o9 (by decide) (by omega)
  have w1' : oF κ T (m + 1) 108 [va_rf (some (A 0)), .int 304] σ9 = some (none, σa) := w1
  rw [w1', ocv_at, oob_at va.2.1, obn_at]
  have ga := fl_ms oa (fun i hi => (o9.at hi).1) w5
  have R7a : cFr A σ7 D σa D := (r8.tr r9).tr ra
  have ea := v7.kd R7a e7 (by omega)
  have Na : ∀ i, aTo (aTo (aTo (aTo (.inr (at' + 1)) (aMs kk 1)) (aMs kk 225)) (aMs kk 216)) (aMs kk 304) = .inr i → cQn pp ee f σa D nm (nUse f pp ee (at' + 1) ν) cd nf3 i ∧ i = at' + 5 ∧ r = nRes f pp ee nm ν (at' + 1) := fun i hi => by
    obtain ⟨i9, u, h9, m9⟩ := aTo_inr hi
    obtain ⟨i8, u, h8, m8⟩ := aTo_inr h9
    obtain ⟨i3, u, h3, m3⟩ := aTo_inr h8
    obtain ⟨i1, t, h1, m1⟩ := aTo_inr h3
    injection h1 with h1
    subst h1
    obtain ⟨s1, s2⟩ := b8 _ rfl (aMs_inr m1).1
    have j1 := (aMs_inr m1).2
    have j2 := (aMs_inr m3).2
    have j3 := (aMs_inr m8).2
    have j4 := (aMs_inr m9).2
    exact ⟨((Q7 _ _ _ (((Q4 _ _ _ s2).kf v4 r5).kf v5 r6)).le (by omega)).kf v7 R7a, by omega, s1⟩
  rw [show nI dp + 1 = nI (dp + 1) by rw [nI_1]]
  obtain ⟨σb, Db, atb, amb, bdb, nfb, ffb, nmb, x, fx, t1, vb, ob, rb, ⟨t2, t3, t3b⟩, t4, t5⟩ := HE σa D ata cd cn am bda nf3 ff _ nm (nUse f pp ee (at' + 1) ν) va oa (by omega) (fun i hi => (Na i hi).1)
  rw [t1, orn_at]
  have eb := va.kd rb ea (by omega)
  obtain ⟨σc, pc, vc, ec, fc, zc, kc, Qc⟩ := w_put (k := 12) (v := va_rf (some x)) vb eb rfl (by decide)
  rw [pc, obn_at, oob_at vc.2.1, obn_at]
  obtain ⟨σd, atd, bdd, s1, vd, od, rd, zd, kd, s5⟩ := c_expL (κ := κ) (T := T) (k := 59) (n := m + 1) vc ob (by decide) (by decide) (by omega)
  have s1' : oF κ T (m + 1) 108 [va_rf (some (A 0)), .int 59] σc = some (none, σd) := s1
  rw [s1', ocv_at, olet_at, oq_1, obn_at]
  have ed := vc.kd rd ec (by omega)
  have gd := fl_ms od (fun i hi => (ob.at hi).1) s5
  have ld : e < σd.2.1 := alt vd.1.1.1 ed
  obtain ⟨tA, htA⟩ := aTr (aTo (aTo (aTo (aTo (.inr (at' + 1)) (aMs kk 1)) (aMs kk 225)) (aMs kk 216)) (aMs kk 304)) G
  have Nd : ∀ i, aTo (aTo (aTo (aTo (aTo (aTo (.inr (at' + 1)) (aMs kk 1)) (aMs kk 225)) (aMs kk 216)) (aMs kk 304)) G) (aMs kk 59) = .inr i → cQn pp ee f σd Db nmb (nT f pp ee tA (nUse f pp ee (at' + 1) ν)) cd nfb i := fun i hi => by
    obtain ⟨ib, u, hb, mb⟩ := aTo_inr hi
    obtain ⟨ia, t, ha, da⟩ := aTo_inr hb
    have B := t5 ia t ib ha da
    rw [htA ia t ib ha da] at B
    exact ((Qc _ _ _ (B.2.1.le (by have := (aMs_inr mb).2; omega))).kf vc rd)
  -- the list of NAMES
  have n14 : (onew σd (.inr (1, odef 1)) 3).1 σd.2.1 = some (.inr (1, odef 1)) := onew_eq _ _ _
  have k14 : ∀ a, a ≠ σd.2.1 → (onew σd (.inr (1, odef 1)) 3).1 a = σd.1 a := fun a ha => onew_ne ha
  have z14 : (onew σd (.inr (1, odef 1)) 3).2 = (σd.2.1 + 1, σd.2.2.1 + 1, σd.2.2.2 + 3) := rfl
  generalize onew σd (.inr (1, odef 1)) 3 = σ14 at n14 k14 z14 ⊢
  obtain ⟨m3, hm3⟩ : ∃ m3, m + 1 = m3 + 3 := ⟨m - 2, by omega⟩
  have LI := l_init (κ := κ) (T := T) (n := m3) n14
  rw [← hm3] at LI
  rw [LI, ocv_at]
  have n15 : (oput σ14 σd.2.1 (.inr (1, [.int 0, .ref κ.2.2.1, .int 0]))).1 σd.2.1 = some (.inr (1, [.int 0, .ref κ.2.2.1, .int 0])) := oput_eq _ _ _
  have k15 : ∀ a, a ≠ σd.2.1 → (oput σ14 σd.2.1 (.inr (1, [.int 0, .ref κ.2.2.1, .int 0]))).1 a = σd.1 a := fun a ha => by rw [oput_ne ha]; exact k14 a ha
  have z15 : (oput σ14 σd.2.1 (.inr (1, [.int 0, .ref κ.2.2.1, .int 0]))).2 = (σd.2.1 + 1, σd.2.2.1 + 1, σd.2.2.2 + 3) := z14
  generalize oput σ14 σd.2.1 (.inr (1, [.int 0, .ref κ.2.2.1, .int 0])) = σf at n15 k15 z15 ⊢
  have z151 : σf.2.1 = σd.2.1 + 1 := by rw [z15]
  obtain ⟨vf, rf⟩ := vd.ex (σ' := σf) (fun a ha => k15 a (by omega)) (fun q hq => by rw [k15 q (by omega)]; exact vd.1.1.1 q (by omega)) (by omega)
  have ef := (k15 e (by omega)).trans ed
  obtain ⟨σg, pg, vg, eg, fg, zg, kg, Qg⟩ := w_put (k := 11) (v := va_rf (some σd.2.1)) vf ef rfl (by decide)
  rw [pg, obn_at, oob_at vg.2.1, obn_at]
  have pag := (kg σd.2.1 (by omega)).trans n15
  have A8 : A 8 < σd.2.1 := vd.1.lt (by unfold cSt; simp)
  have A9 : A 9 < σd.2.1 := vd.1.lt (by unfold cSt; simp)
  have zg1 : σg.2.1 = σd.2.1 + 1 := by rw [zg, z151]
  have okp : cOk A Db σd.2.1 σg σd.2.1 := ⟨Nat.le_refl _, by omega, cMu.n1 vg pag (by omega) (by omega)⟩
  have lst : cLs κ σg σd.2.1 κ.2.2.1 0 0 0 (fun _ => none) 6 := ⟨pag, Or.inl ⟨rfl, rfl, rfl, vg.low⟩, fun j hj => by omega⟩
  have Ng : ∀ i, aTo (aTo (aTo (aTo (aTo (aTo (.inr (at' + 1)) (aMs kk 1)) (aMs kk 225)) (aMs kk 216)) (aMs kk 304)) G) (aMs kk 59) = .inr i → cQn pp ee f σg Db nmb (nT f pp ee tA (nUse f pp ee (at' + 1) ν)) cd nfb i := fun i hi => Qg _ _ _ ((Nd i hi).kf vd rf)
  have fdg : cFe A e σd Db σg Db := (rf.fe e).tr fg
  -- the first NAME
  obtain ⟨σh, Dh, ath, bdh, nfh, b, dh, caph, gh, c1', vh, oh, ⟨lh, okh, okhp, c4', c5', c6'⟩, c7', ⟨c8', c9', qh, c10'⟩, ⟨c11', c12'⟩, ⟨c13', c14', c15', c16', c17'⟩, c18'⟩ := c_tpar (κ := κ) (T := T) (m := m) (lo := σd.2.1) (nm := nmb) (ν := nT f pp ee tA (nUse f pp ee (at' + 1) ν)) vg od Ng eg rfl vd.lo lst (Or.inr ⟨rfl, vg.low⟩) okp (by omega) (by omega) (by omega) (by omega) hT hwl
  rw [c1', ocv_at, oob_at vh.2.1, obn_at]
  have eh := (c7'.2.1 e (by omega) (cMu.no vg eg (by omega)) (by omega) (by have := okh.1; omega)).trans eg
  have fdh : cFe A e σd Db σh Dh := fdg.tp c7' (Nat.le_refl _) okh.1
  have Nh : ∀ i, aTo (aTo (aTo (aTo (aTo (aTo (aTo (.inr (at' + 1)) (aMs kk 1)) (aMs kk 225)) (aMs kk 216)) (aMs kk 304)) G) (aMs kk 59)) (aMs kk 1) = .inr i → cQn pp ee f σh Dh (nPut nmb atd b) (nCnt atd (nTell f pp ee atd (nT f pp ee tA (nUse f pp ee (at' + 1) ν)))) (cd + 1) nfh i ∧ i = atd + 1 := fun i hi => by
    obtain ⟨i1, t, h1, m1⟩ := aTo_inr hi
    have w := (od.at h1).1
    subst w
    have je := (aMs_inr m1).2
    exact ⟨(c18' _ h1 (aMs_inr m1).1).le (by omega), je⟩
  -- the second NAME
  obtain ⟨σi, Di, ati, bdi, nfi, b', di, capi, gi, f1', vi, oi, ⟨li, oki, okip, f4', f5', f6'⟩, f7', ⟨f8', f9', qi, f10'⟩, ⟨f11', f12'⟩, ⟨f13', f14', f15', f16', f17'⟩, f18'⟩ := c_tpar (κ := κ) (T := T) (m := m) (lo := σd.2.1) (nm := nPut nmb atd b) (ν := nCnt atd (nTell f pp ee atd (nT f pp ee tA (nUse f pp ee (at' + 1) ν)))) vh oh (fun i hi => (Nh i hi).1) eh rfl vd.lo lh (Or.inl okh) okhp c4' (by omega) (by omega) (by omega) hT hwl
  rw [f1', ocv_at, oob_at vi.2.1, obn_at]
  have ei := (f7'.2.1 e (alt vh.1.1.1 eh) (cMu.no vh eh (by omega)) (by omega) (by have := oki.1; omega)).trans eh
  have fdi : cFe A e σd Db σi Di := fdh.tp f7' (Nat.le_refl _) oki.1
  have bi : σi.1 b = some (.inr (6, (cNa qh).set 1 (.int (nI cd)))) := by
    rw [f7'.2.1 b (alt vh.1.1.1 c10') (cMu.no vh c10' (by omega)) (fun z => by have w := lh.1; rw [← z, c10'] at w; cases w) (fun z => ?_)]
    · exact c10'
    · rcases f17' with y | y
      · rw [z, y] at c10'
        rcases lh.2.1 with ⟨-, -, -, w⟩ | ⟨w, -⟩
        · rw [w] at c10'; cases c10'
        · rw [w] at c10'; cases c10'
      · have := alt vh.1.1.1 c10'; omega
  have Ni : ∀ i, aTo (aTo (aTo (aTo (aTo (aTo (aTo (aTo (.inr (at' + 1)) (aMs kk 1)) (aMs kk 225)) (aMs kk 216)) (aMs kk 304)) G) (aMs kk 59)) (aMs kk 1)) (aMs kk 1) = .inr i → cQn pp ee f σi Di (nPut (nPut nmb atd b) (atd + 1) b') (nPar f pp ee 2 atd (nT f pp ee tA (nUse f pp ee (at' + 1) ν))) (cd + 2) nfi i ∧ i = atd + 2 := fun i hi => by
    obtain ⟨i1, t, h1, m1⟩ := aTo_inr hi
    have w := (Nh i1 h1).2
    subst w
    have je := (aMs_inr m1).2
    exact ⟨(f18' _ h1 (aMs_inr m1).1).le (by omega), by omega⟩
  obtain ⟨σj, atj, bdj, u1, vj, oj, rj, zj, kj, u5⟩ := c_expect (κ := κ) (T := T) (k := 304) (n := m + 1) vi oi (by decide) (by omega)
  have u1' : oF κ T (m + 1) 108 [va_rf (some (A 0)), .int 304] σi = some (none, σj) := u1
  rw [u1', ocv_at, oob_at vj.2.1, obn_at]
  have ej := vi.kd rj ei (by omega)
  have gj := fl_ms oj (fun i hi => (oi.at hi).1) u5
  have Nj : ∀ i, aTo (aTo (aTo (aTo (aTo (aTo (aTo (aTo (aTo (.inr (at' + 1)) (aMs kk 1)) (aMs kk 225)) (aMs kk 216)) (aMs kk 304)) G) (aMs kk 59)) (aMs kk 1)) (aMs kk 1)) (aMs kk 304) = .inr i → cQn pp ee f σj Di (nPut (nPut nmb atd b) (atd + 1) b') (nPar f pp ee 2 atd (nT f pp ee tA (nUse f pp ee (at' + 1) ν))) (cd + 2) nfi i ∧ i = atd + 3 := fun i hi => by
    obtain ⟨i1, t, h1, m1⟩ := aTo_inr hi
    obtain ⟨w1, w2⟩ := Ni i1 h1
    have je := (aMs_inr m1).2
    exact ⟨(w1.le (by omega)).kf vi rj, by omega⟩
  obtain ⟨σk, Dk, atk, amk, bdk, nfk, ffk, nmk, y, fy, v1', vk, ok, rk, ⟨v2', v3', v3b'⟩, v4', v5'⟩ := HE σj Di atj (cd + 2) cn amb bdj nfi ffb _ (nPut (nPut nmb atd b) (atd + 1) b') (nPar f pp ee 2 atd (nT f pp ee tA (nUse f pp ee (at' + 1) ν))) vj oj (by omega) (fun i hi => (Nj i hi).1)
  rw [v1', orn_at]
  have ek := vj.kd rk ej (by omega)
  obtain ⟨σl, pl, vl, el, fl', zl, kl, Ql⟩ := w_put (k := 13) (v := va_rf (some y)) vk ek rfl (by decide)
  have g11 : ofd σl (some e) 7 11 = some (.ref σd.2.1) := by rw [ofd_at el]; rfl
  have Fil : cFe A e σi Di σl Dk := ((rj.fe e).tr (rk.fe e)).tr fl'
  have Gil : cKp κ A Di σd.2.1 σi Dk σd.2.1 σl := cKp.fe vi Fil ei el ld (Nat.le_refl _) vl.low
  have ll := li.keep (σ' := σl) (Gil.1 _ okip).1 (Gil.1 _ oki).1 (fun a gs ea => Gil.2.1 a gs ea)
  rw [pl, obn_at, w_f12 vl, ovi_i, obn_at, g11, ovr_rf, obn_at, oob_at ll.1, obn_at, l_sz (n := m) ll, oin_at]
  obtain ⟨σF, pF, vF, rF, zF, kF⟩ := w_cd (cd2 := cd) (v := nI (cd + 2) - nI (0 + 1 + 1)) vl (by rw [nI_sub' (by omega)]; congr 1) (by omega)
  rw [pF, obn_at]
  have eF := vl.kd rF el (by omega)
  have Fk : cFe A e σk Dk σF Dk := fl'.tr (rF.fe e)
  have Fi : cFe A e σi Di σF Dk := Fil.tr (rF.fe e)
  have Fd : cFe A e σd Db σF Dk := fdi.tr Fi
  have Fb : cFe A e σb Db σF Dk := (fc.tr (rd.fe e)).tr Fd
  have F6 : cFe A e σ6 D σF Dk := ((f7.tr (R7a.fe e)).tr (rb.fe e)).tr Fb
  have F1 : cFe A e σ1 D σ6 D := (((f2.tr (r3.fe e)).tr f4).tr (r5.fe e)).tr (r6.fe e)
  have Gi : cKp κ A Di σd.2.1 σi Dk e σF := cKp.fe vi Fi ei eF ld (by omega) vF.low
  have G6 : cKp κ A D σ4.2.1 σ6 Dk e σF := cKp.fe v6 F6 e6 eF l4 (by omega) vF.low
  have la : e < σa.2.1 := alt va.1.1.1 ea
  have lj : e < σj.2.1 := alt vj.1.1.1 ej
  have hst := aMt_st kk G at'
  refine ⟨σF, Dk, atk, amk, bdk, nfk, ffk, nmk, _, rfl, vF, by rw [hst]; exact ok, ((r1.fe e).tr F1).tr F6, ⟨eF, rfl⟩, ?_, fun t j hF => ?_⟩
  · have S := sv_mt kk G at'
    rw [hst] at S ⊢
    have tb := t4
    have tk := v4'
    unfold cEx at tb tk ⊢
    have n1 := fl_to (aTo (.inr (at' + 1)) (aMs kk 1)) (aMs kk 225)
    have n2 := fl_to (aTo (aTo (.inr (at' + 1)) (aMs kk 1)) (aMs kk 225)) (aMs kk 216)
    have n3 := fl_to (aTo (aTo (aTo (.inr (at' + 1)) (aMs kk 1)) (aMs kk 225)) (aMs kk 216)) (aMs kk 304)
    have n4 := fl_to (aTo (aTo (aTo (aTo (.inr (at' + 1)) (aMs kk 1)) (aMs kk 225)) (aMs kk 216)) (aMs kk 304)) G
    have n5 := fl_to (aTo (aTo (aTo (aTo (aTo (.inr (at' + 1)) (aMs kk 1)) (aMs kk 225)) (aMs kk 216)) (aMs kk 304)) G) (aMs kk 59)
    have n6 := fl_to (aTo (aTo (aTo (aTo (aTo (aTo (.inr (at' + 1)) (aMs kk 1)) (aMs kk 225)) (aMs kk 216)) (aMs kk 304)) G) (aMs kk 59)) (aMs kk 1)
    have n7 := fl_to (aTo (aTo (aTo (aTo (aTo (aTo (aTo (.inr (at' + 1)) (aMs kk 1)) (aMs kk 225)) (aMs kk 216)) (aMs kk 304)) G) (aMs kk 59)) (aMs kk 1)) (aMs kk 1)
    have n8 := fl_to (aTo (aTo (aTo (aTo (aTo (aTo (aTo (aTo (.inr (at' + 1)) (aMs kk 1)) (aMs kk 225)) (aMs kk 216)) (aMs kk 304)) G) (aMs kk 59)) (aMs kk 1)) (aMs kk 1)) (aMs kk 304)
    have n9 := fl_to (aTo (aTo (aTo (aTo (aTo (aTo (aTo (aTo (aTo (.inr (at' + 1)) (aMs kk 1)) (aMs kk 225)) (aMs kk 216)) (aMs kk 304)) G) (aMs kk 59)) (aMs kk 1)) (aMs kk 1)) (aMs kk 304)) G
    have n10 := fl_le (aTo (aTo (aTo (aTo (aTo (aTo (aTo (aTo (aTo (aTo (.inr (at' + 1)) (aMs kk 1)) (aMs kk 225)) (aMs kk 216)) (aMs kk 304)) G) (aMs kk 59)) (aMs kk 1)) (aMs kk 1)) (aMs kk 304)) G)
    rw [show fl (.inr at') = 0 from rfl]
    have q1 : σ2.2.2 = σ.2.2 := by rw [z2, z1]
    have q4 : σ4.2.2 = σ3.2.2 := by rw [z4]
    have q5 : σ5.2.2.1 = σ4.2.2.1 + 3 := by rw [z5]
    have q5' : σ5.2.2.2 = σ4.2.2.2 + 8 := by rw [z5]
    have q6 : σ6.2.2.1 = σ5.2.2.1 + 1 := by rw [z6]
    have q6' : σ6.2.2.2 = σ5.2.2.2 + 21 := by rw [z6]
    have qa : σa.2.2 = σ6.2.2 := by rw [za, z9, z8, z7]
    have qd : σd.2.2 = σb.2.2 := by rw [zd, zc]
    have qg : σg.2.2.1 = σd.2.2.1 + 1 := by rw [zg, z15]
    have qg' : σg.2.2.2 = σd.2.2.2 + 3 := by rw [zg, z15]
    have qj : σj.2.2 = σi.2.2 := by rw [zj]
    have qF : σF.2.2 = σk.2.2 := by rw [zF, zl]
    rw [q1] at b5 b6
    rw [qa] at tb
    rw [qj] at tk
    rw [qd] at qg qg'
    rw [q4] at q5 q5'
    rw [qF]
    omega
  · unfold aMt at hF
    obtain ⟨_, i3, h1, hF⟩ := on_inr hF
    obtain ⟨_, i8, h2, hF⟩ := on_inr hF
    obtain ⟨_, i9, h3, hF⟩ := on_inr hF
    obtain ⟨_, ia, h4, hF⟩ := on_inr hF
    obtain ⟨tA', ib, h5, hF⟩ := on_inr hF
    obtain ⟨_, id, h6, hF⟩ := on_inr hF
    obtain ⟨_, ih, h7, hF⟩ := on_inr hF
    obtain ⟨_, ii, h8, hF⟩ := on_inr hF
    obtain ⟨_, ij, h9, hF⟩ := on_inr hF
    obtain ⟨tB, ik, h10, hF⟩ := on_inr hF
    injection hF with hF
    injection hF with hF1 hF2
    subst hF1
    subst hF2
    have T3 := aTo_eq (s := .inr (at' + 1)) rfl h1
    have T8 := aTo_eq T3 h2
    have T9 := aTo_eq T8 h3
    have Ta := aTo_eq T9 h4
    have Tb := aTo_eq Ta h5
    have Td := aTo_eq Tb h6
    have Th := aTo_eq Td h7
    have Ti := aTo_eq Th h8
    have Tj := aTo_eq Ti h9
    have hA' := htA _ _ _ Ta h5
    subst hA'
    obtain ⟨Na1, Na2, Na3⟩ := Na ia Ta
    have atde := (od.at Td).1
    subst atde
    have Nj2 := (Nj ij Tj).2
    obtain ⟨m1, m2, m3', m4, m5, m6⟩ := t5 ia tA' ib Ta h5
    obtain ⟨s1, s2, s3, s4, s6, s7⟩ := v5' ij tB ik Tj h10
    have ide := (aMs_inr h6).2
    have gb := (ob.at Tb).1
    have gA := (oa.at Ta).1
    have t41 := t4.1
    have nU := nUse_12 (f := f) (pp := pp) (ee := ee) (at' + 1) ν
    have n12a := nT_12 (f := f) (pp := pp) (ee := ee) tA' (nUse f pp ee (at' + 1) ν)
    have nE : (nPar f pp ee 2 atd (nT f pp ee tA' (nUse f pp ee (at' + 1) ν))).1 = ν.1 ++ [atd, atd + 1] := by
      rw [(nPar_12 _ _ _).1, n12a.1, nU.1]; rfl
    have envlt : ∀ u ∈ ν.1, u < at' := fun u hu => hq.2.1 u (Or.inl hu)
    have nmE : ∀ u, u < atd → nmk u = nmb u := fun u hu => by rw [s3 u (by omega), nPut_lt (by omega), nPut_lt (by omega)]
    have ER : nR f pp ee nmk ν.1 = nRes f pp ee nm ν := by rw [nRes_R]; exact nR_cg (fun u hu => by rw [nmE u (by have := envlt u hu; omega), m3' u (by have := envlt u hu; omega)])
    have Dif : Di.1.2.2.2.2.2 = Db.1.2.2.2.2.2 := by rw [f14', c14']
    have Dig : Di.2.2.2 = Db.2.2.2 := by rw [f13', c13']
    have okS : ∀ a, σ4.2.1 ≤ a → a < σ6.2.1 → cOk A D σ4.2.1 σ6 a := fun a w1 w2 => v4.new w1 w2
    refine ⟨?_, ?_, fun u hu => ?_, ?_, ?_, fun x hx => ?_⟩
    · unfold cTr
      rw [ER, hq.1.1]
      refine ⟨⟨Nat.le_refl _, alt vF.1.1.1 eF, cMu.no vF eF (by omega)⟩, x, y, σ5.2.1, σd.2.1, σ4.2.1, na, ta, ?_, cCq.kp G6 ⟨okS _ (by omega) (by omega), _, d2⟩, ⟨?_, (G6.1 _ (okS _ (Nat.le_refl _) (by omega))).2, (G6.1 _ (okS _ c2 (by omega))).2, (G6.1 _ (okS _ c4 (by omega))).2⟩, ?_, ?_, ?_⟩
      · rw [eF, Na3]; rfl
      · rw [← Na3]
        have S6 : cSm σ6 σ4.2.1 na ta 2 (sNo r 1 []) 0 := S5.keep (fun a ha => k6 a (by rcases ha with z | z | z <;> omega)) (fun a gs ea => ⟨gs, (k6 a (by have := alt v5.1.1.1 ea; omega)).trans ea⟩)
        exact S6.kp G6 (okS _ (Nat.le_refl _) (by omega)) (okS _ c2 (by omega)) (okS _ c4 (by omega))
      · refine cNl.kp (nm := nPut (nPut nmb atd b) (atd + 1) b') Gi (fun x hx => s3 _ (show atd + x < ij by omega)) ⟨di, capi, _, gi, li, Or.inl oki, okip, fun x hx => ?_⟩
        rcases (show x = 0 ∨ x = 1 by omega) with rfl | rfl
        · refine ⟨b, (f5' 0 (by omega)).trans c6', ?_, ⟨c9'.1, alt vi.1.1.1 bi, cMu.no vi bi (by omega)⟩, qh, bi⟩
          exact (nPut_lt (nm := nPut nmb atd b) (i := atd + 1) (b := b') (u := atd) (by omega)).trans nPut_eq
        · exact ⟨b', f6', nPut_eq, f9', qi, f10'⟩
      · have G' := cTr.go (lo := e) (fk := D.1.2.2.2.2.2) (g := fun _ => none) (k := 0) (x := x) vb Fb eb eF la (by omega) vF.low m2.2.1 nmE (by omega) (by omega) (fun x hx => by rw [s7 x (by omega), Dig]) m1
        rw [nU.1] at G'
        exact G'
      · have G' := cTr.go (lo := e) (fk := Di.1.2.2.2.2.2) (g := fun _ => none) (k := 0) (x := y) vk Fk ek eF lj (by omega) vF.low s2.2.1 (fun _ _ => rfl) (Nat.le_refl _) (by omega) (fun _ _ => rfl) s1
        rw [nE, Dif, m5] at G'
        exact G'
    · have Q := Ql _ _ _ s2
      exact Q.off (vl.ty rF) rfl
    · rw [nmE u (by omega), m3' u (by omega)]
    · rw [s4, nE, m4, nU.1]
      rfl
    · rw [s6, Dif, m5]
      show _ = _ + (0 + nF tA' + nF tB)
      omega
    · rw [s7 x (by omega), Dig, m6 x hx]
end CRC
