/-! the class's parser: new, cons, ( ) -/
section CRK
variable {κ : oKv} {sz T n m len cnt : Nat} {kk pp ee f : Nat → Int32} {A : Nat → Nat} {nq ni : Int32} {rt : Value} {σ σ' σ1 : oSt} {D D' : cDt} {at' cd : Nat} {cn am bd nf ff : Int32} {s : Sum Nat Nat} {nm nm' : Nat → Option Nat} {ν : nSt} {lo e i : Nat}
theorem c_new (hm : 12 ≤ m) (hT : 2010 ≤ T) (hwl : ∀ j, j < cnt → wL pp ee j ≤ 10) (h : cV κ sz len cnt kk pp ee f A nq ni rt σ D at' cd cn am bd nf ff) (v1 : cV κ sz len cnt kk pp ee f A nq ni rt σ1 D at' cd cn am bd nf ff) (r1 : cFr A σ D σ1 D) (n1 : σ1.1 σ.2.1 = some (.inr (7, cNd 215 (pp at') (nI cd)))) (z1 : σ1.2 = (σ.2.1 + 1, σ.2.2.1 + 1, σ.2.2.2 + 21)) (ho : cO pp cnt at' bd (.inr at')) (hi : at' < cnt) (hq : cQn pp ee f σ D nm ν cd nf at') : ∃ σ' D' at2 am2 bd2 nf2 ff2 nm' e fs, (
      ocv (oF κ T m 105 [va_rf (some (A 0))] σ1) fun s101 =>
      obn (oob s101 (some (A 0)) 9) fun a104 =>
      orn (oF κ T m 121 [va_rf (some (A 0))] s101) fun r108 s106 =>
      obn (opf s106 (some σ.2.1) 7 15 (va_rf r108)) fun s109 =>
      obn (ovr (ofd s109 (some σ.2.1) 7 15)) fun v111 =>
      obn (ovr (ofd s109 v111 7 19)) fun v113 =>
      obn (oob s109 (some (A 0)) 9) fun a115 =>
      orn (oF κ T m 123 [va_rf (some (A 0)), va_rf v113, .int 301] s109) fun r119 s117 =>
      obn (opf s117 (some σ.2.1) 7 17 (va_rf r119)) fun s120 =>
      some (some (va_rf (some σ.2.1)), s120)) = some (some (va_rf (some e)), σ') ∧ cV κ sz len cnt kk pp ee f A nq ni rt σ' D' at2 cd cn am2 bd2 nf2 ff2 ∧ cL kk pp cnt at2 bd2 (((aSm kk T (at' + 1)).on fun s i1 => .inr (tN 7 at' 0 0 s s0 tZ tZ, i1) : aR tT)).st ∧ cFr A σ D σ' D' ∧ (σ.2.1 ≤ e ∧ σ'.1 e = some (.inr (7, fs)) ∧ fs.length = 21) ∧ cEx 0 0 0 σ D at' (.inr at') σ' D' at2 (((aSm kk T (at' + 1)).on fun s i1 => .inr (tN 7 at' 0 0 s s0 tZ tZ, i1) : aR tT)).st ∧ (∀ t j, ((aSm kk T (at' + 1)).on fun s i1 => .inr (tN 7 at' 0 0 s s0 tZ tZ, i1) : aR tT) = .inr (t, j) → cPo κ T kk pp ee f A σ.2.1 D cd cn ff nm ν σ' D' nf2 ff2 nm' e at' t j) := by
  obtain ⟨σ2, a2, v2, o2, r2, z2, k2⟩ := w_next (κ := κ) (T := T) (n := m) v1 ho hi (by omega)
  rw [a2, ocv_at, oob_at v2.2.1, obn_at]
  have n2 := v1.kd r2 n1 (by omega)
  have Q2 := ((hq.kf h r1).kf v1 r2).le (Nat.le_succ _)
  have z21 : σ2.2.1 = σ.2.1 + 1 := by rw [z2, z1]
  obtain ⟨σ3, at3, bd3, nf3, fs3, su, na, ta, cap, L, pl, b1, v3, o3, r3, ⟨b2, b3, b4, b4b⟩, -, ⟨b10, b11⟩, ⟨b12, b13⟩, b14⟩ := c_sumQ (κ := κ) (T := T) (m := m) (nm := nm) (ν := ν) v2 o2 (fun i hi => by cases hi; exact Q2) (by omega) hT hwl
  rw [b1, orn_at]
  have n3 := v2.kd r3 n2 (by omega)
  obtain ⟨σ4, p4, v4, e4, f4, z4, k4, Q4⟩ := w_put (k := 15) (v := va_rf (some σ2.2.1)) v3 n3 rfl (by decide)
  have g15 : ofd σ4 (some σ.2.1) 7 15 = some (.ref σ2.2.1) := by rw [ofd_at e4]; rfl
  have l4 := (k4 σ2.2.1 (by omega)).trans b2
  have g19 : ofd σ4 (some σ2.2.1) 7 19 = some (.ref su) := by rw [ofd_at l4]; exact b4
  rw [p4, obn_at, g15, ovr_rf, obn_at, g19, ovr_rf, obn_at, oob_at v4.2.1, obn_at]
  obtain ⟨m1, hm1⟩ : ∃ m1, m = m1 + 1 := ⟨m - 1, by omega⟩
  obtain ⟨σ5, t1, v5, r5, t2, k5, z5⟩ := c_cpr (κ := κ) (T := T) (m := m1) (su := some su) (rl := 301) v4 (by omega)
  rw [← hm1] at t1
  rw [t1, orn_at]
  have e5 := v4.kd r5 e4 (by omega)
  have l45 : σ.2.1 < σ4.2.1 := alt v4.1.1.1 e4
  obtain ⟨σF, pF, vF, eF, fF, zF, kF, QF⟩ := w_put (k := 17) (v := va_rf (some σ4.2.1)) v5 e5 rfl (by decide)
  rw [pF, obn_at]
  have F3 : cFe A σ.2.1 σ3 D σF D := (f4.tr (r5.fe _)).tr fF
  have st : ((aSm kk T (at' + 1)).on fun s i1 => .inr (tN 7 at' 0 0 s s0 tZ tZ, i1) : aR tT).st = aTo (.inr (at' + 1)) (aSm kk T) := by
    rw [aTo_ok]
    cases aSm kk T (at' + 1) <;> rfl
  refine ⟨σF, D, at3, am, bd3, nf3, ff, nm, σ.2.1, _, rfl, vF, by rw [st]; exact Or.inl o3, ((((r1.tr r2).tr r3).fe _).tr F3).fr (Nat.le_refl _), ⟨Nat.le_refl _, eF, rfl⟩, ?_, fun t j ht => ?_⟩
  · rw [st]
    unfold cEx
    rw [show fl (.inr at') = 0 from rfl]
    have w1 : σ2.2.2.1 = σ.2.2.1 + 1 := by rw [z2, z1]
    have w2 : σ2.2.2.2 = σ.2.2.2 + 21 := by rw [z2, z1]
    have w3 : σF.2.2.1 = σ3.2.2.1 + 1 := by rw [zF, z5]; show σ4.2.2.1 + 1 = _; rw [z4]
    have w4 : σF.2.2.2 = σ3.2.2.2 + 21 := by rw [zF, z5]; show σ4.2.2.2 + 21 = _; rw [z4]
    have w5 := fl_le (aTo (.inr (at' + 1)) (aSm kk T))
    omega
  · obtain ⟨S, i1, h1, ht⟩ := on_inr ht
    injection ht with ht
    injection ht with ht1 ht2
    subst ht1
    subst ht2
    obtain ⟨B1, B2, B3, B4⟩ := b14 _ S i1 rfl h1
    have K3 : cKp κ A D σ2.2.1 σ3 D σ.2.1 σF := cKp.fe v3 F3 n3 eF (by omega) (by omega) vF.low
    have xF := (kF σ4.2.1 (by omega)).trans t2
    refine ⟨?_, ?_, fun _ _ => rfl, rfl, rfl, fun _ _ => rfl⟩
    · unfold cTr
      rw [← nRes_R, hq.1.1]
      exact ⟨⟨Nat.le_refl _, alt vF.1.1.1 eF, cMu.no vF eF (by omega)⟩, σ2.2.1, σ4.2.1, su, eF, B3.kp K3, ⟨⟨by omega, alt vF.1.1.1 xF, cMu.no vF xF (by omega)⟩, _, xF⟩⟩
    · exact QF _ _ _ ((Q4 _ _ _ B4).kf v4 r5)
theorem c_cons (hm : 12 ≤ m) (hT : 2010 ≤ T) (hwl : ∀ j, j < cnt → wL pp ee j ≤ 10) (h : cV κ sz len cnt kk pp ee f A nq ni rt σ D at' cd cn am bd nf ff) (v1 : cV κ sz len cnt kk pp ee f A nq ni rt σ1 D at' cd cn am bd nf ff) (r1 : cFr A σ D σ1 D) (n1 : σ1.1 σ.2.1 = some (.inr (7, cNd 203 (pp at') (nI cd)))) (z1 : σ1.2 = (σ.2.1 + 1, σ.2.2.1 + 1, σ.2.2.2 + 21)) (ho : cO pp cnt at' bd (.inr at')) (hi : at' < cnt) (hq : cQn pp ee f σ D nm ν cd nf at') : ∃ σ' D' at2 am2 bd2 nf2 ff2 nm' e fs, (
      ocv (oF κ T m 105 [va_rf (some (A 0))] σ1) fun s44 =>
      obn (oob s44 (some (A 0)) 9) fun a47 =>
      orn (oF κ T m 121 [va_rf (some (A 0))] s44) fun r51 s49 =>
      obn (opf s49 (some σ.2.1) 7 15 (va_rf r51)) fun s52 =>
      obn (oob s52 (some (A 0)) 9) fun a54 =>
      oin (oF κ T m 106 [va_rf (some (A 0))] s52) fun r58 s56 =>
      obn (opf s56 (some σ.2.1) 7 4 (.int r58)) fun s59 =>
      obn (oob s59 (some (A 0)) 9) fun a61 =>
      orn (oF κ T m 119 [va_rf (some (A 0))] s59) fun r65 s63 =>
      obn (opf s63 (some σ.2.1) 7 9 (va_rf r65)) fun s66 =>
      some (some (va_rf (some σ.2.1)), s66)) = some (some (va_rf (some e)), σ') ∧ cV κ sz len cnt kk pp ee f A nq ni rt σ' D' at2 cd cn am2 bd2 nf2 ff2 ∧ cL kk pp cnt at2 bd2 (((aSm kk T (at' + 1)).on fun s i1 => (aMs kk 1 i1).on fun _ i2 => .inr (tN 18 at' i1 0 s s0 tZ tZ, i2) : aR tT)).st ∧ cFr A σ D σ' D' ∧ (σ.2.1 ≤ e ∧ σ'.1 e = some (.inr (7, fs)) ∧ fs.length = 21) ∧ cEx 0 0 0 σ D at' (.inr at') σ' D' at2 (((aSm kk T (at' + 1)).on fun s i1 => (aMs kk 1 i1).on fun _ i2 => .inr (tN 18 at' i1 0 s s0 tZ tZ, i2) : aR tT)).st ∧ (∀ t j, ((aSm kk T (at' + 1)).on fun s i1 => (aMs kk 1 i1).on fun _ i2 => .inr (tN 18 at' i1 0 s s0 tZ tZ, i2) : aR tT) = .inr (t, j) → cPo κ T kk pp ee f A σ.2.1 D cd cn ff nm ν σ' D' nf2 ff2 nm' e at' t j) := by
  obtain ⟨σ2, a2, v2, o2, r2, z2, k2⟩ := w_next (κ := κ) (T := T) (n := m) v1 ho hi (by omega)
  rw [a2, ocv_at, oob_at v2.2.1, obn_at]
  have n2 := v1.kd r2 n1 (by omega)
  have Q2 := ((hq.kf h r1).kf v1 r2).le (Nat.le_succ _)
  have z21 : σ2.2.1 = σ.2.1 + 1 := by rw [z2, z1]
  obtain ⟨σ3, at3, bd3, nf3, fs3, su, na, ta, cap, L, pl, b1, v3, o3, r3, ⟨b2, b3, b4, b4b⟩, -, ⟨b10, b11⟩, ⟨b12, b13⟩, b14⟩ := c_sumQ (κ := κ) (T := T) (m := m) (nm := nm) (ν := ν) v2 o2 (fun i hi => by cases hi; exact Q2) (by omega) hT hwl
  rw [b1, orn_at]
  have n3 := v2.kd r3 n2 (by omega)
  obtain ⟨σ4, p4, v4, e4, f4, z4, k4, Q4⟩ := w_put (k := 15) (v := va_rf (some σ2.2.1)) v3 n3 rfl (by decide)
  rw [p4, obn_at, oob_at v4.2.1, obn_at, c_here (n := m) v4 (by omega), oin_at]
  obtain ⟨σ5, p5, v5, e5, f5, z5, k5, Q5⟩ := w_put (k := 4) (v := .int (pp at3)) v4 e4 rfl (by decide)
  rw [p5, obn_at, oob_at v5.2.1, obn_at]
  obtain ⟨S0, hS0⟩ := aTrS (.inr (at' + 1)) (aSm kk T)
  have N5 : ∀ i, aTo (.inr (at' + 1)) (aSm kk T) = .inr i → cQn pp ee f σ5 D nm (nPs f pp ee S0.2 ν) cd nf3 i := fun i hi => by
    obtain ⟨i1, t, h1, d1⟩ := aTo_inr hi
    obtain ⟨w1, w2, w3, w4⟩ := b14 i1 t i h1 d1
    rw [hS0 _ _ _ h1 d1] at w4
    exact Q5 _ _ _ (Q4 _ _ _ w4)
  obtain ⟨σ6, at6, bd6, nf6, r, c1, v6, o6, r6, ⟨c5, c6⟩, ⟨c7, c7b⟩, c8, c9⟩ := c_useQ (κ := κ) (T := T) (n := m) v5 o3 N5 (by omega) hT hwl
  rw [c1, orn_va]
  have e6 := v5.kd r6 e5 (by omega)
  obtain ⟨σF, pF, vF, eF, fF, zF, kF, QF⟩ := w_put (k := 9) (v := va_rf r) v6 e6 rfl (by decide)
  rw [pF, obn_at]
  have F3 : cFe A σ.2.1 σ3 D σF D := ((f4.tr f5).tr (r6.fe _)).tr fF
  have st : ((aSm kk T (at' + 1)).on fun s i1 => (aMs kk 1 i1).on fun _ i2 => .inr (tN 18 at' i1 0 s s0 tZ tZ, i2) : aR tT).st = aTo (aTo (.inr (at' + 1)) (aSm kk T)) (aMs kk 1) := by
    simp only [aTo]
    cases aSm kk T (at' + 1) with
    | inl k => rfl
    | inr p =>
      obtain ⟨t, i1⟩ := p
      simp only [aR.on, aR.st]
      cases aMs kk 1 i1 <;> rfl
  refine ⟨σF, D, at6, am, bd6, nf6, ff, nm, σ.2.1, _, rfl, vF, by rw [st]; exact Or.inl o6, ((((r1.tr r2).tr r3).fe _).tr F3).fr (Nat.le_refl _), ⟨Nat.le_refl _, eF, rfl⟩, ?_, fun t j ht => ?_⟩
  · rw [st]
    unfold cEx
    rw [show fl (.inr at') = 0 from rfl]
    have w1 : σ2.2.2.1 = σ.2.2.1 + 1 := by rw [z2, z1]
    have w2 : σ2.2.2.2 = σ.2.2.2 + 21 := by rw [z2, z1]
    have w3 : σ5.2.2 = σ3.2.2 := by rw [z5, z4]
    have w4 : σF.2.2 = σ6.2.2 := by rw [zF]
    have w5 := fl_to (aTo (.inr (at' + 1)) (aSm kk T)) (aMs kk 1)
    have w6 := fl_le (aTo (aTo (.inr (at' + 1)) (aSm kk T)) (aMs kk 1))
    rw [w3] at c5 c6
    rw [w4]
    omega
  · obtain ⟨S, i1, h1, ht⟩ := on_inr ht
    obtain ⟨_, i2, h2, ht⟩ := on_inr ht
    injection ht with ht
    injection ht with ht1 ht2
    subst ht1
    subst ht2
    obtain ⟨B1, B2, B3, B4⟩ := b14 _ S i1 rfl h1
    have eS := hS0 _ _ _ rfl h1
    subst eS
    have S3 := aTo_eq (s := .inr (at' + 1)) rfl h1
    have ae := (o3.at S3).1
    subst ae
    obtain ⟨u1, u2⟩ := c8 _ S3 (aMs_inr h2).1
    have je := (aMs_inr h2).2
    subst je
    rw [nRes_ps] at u1
    have K3 : cKp κ A D σ2.2.1 σ3 D σ.2.1 σF := cKp.fe v3 F3 n3 eF (by omega) (by omega) vF.low
    refine ⟨?_, QF _ _ _ u2, fun _ _ => rfl, rfl, rfl, fun _ _ => rfl⟩
    unfold cTr
    rw [← nRes_R, hq.1.1]
    refine ⟨⟨Nat.le_refl _, alt vF.1.1.1 eF, cMu.no vF eF (by omega)⟩, σ2.2.1, su, ?_, B3.kp K3⟩
    rw [eF, u1]; rfl
theorem sv_par (kk : Nat → Int32) (G : Nat → aR tT) (i : Nat) : svR ((G (i + 1)).on fun a i1 => (aMs kk 41 i1).on fun _ i2 => .inr (tN 16 i 0 0 s0 s0 a tZ, i2)) + 455 * fl ((G (i + 1)).on fun a i1 => (aMs kk 41 i1).on fun _ i2 => (.inr (tN 16 i 0 0 s0 s0 a tZ, i2) : aR tT)).st ≤ 455 + svA (.inr (i + 1)) G := by
  cases hF : ((G (i + 1)).on fun a i1 => (aMs kk 41 i1).on fun _ i2 => (.inr (tN 16 i 0 0 s0 s0 a tZ, i2) : aR tT)) with
  | inl k => show 0 + 455 * 1 ≤ _; omega
  | inr p =>
    obtain ⟨t, j⟩ := p
    obtain ⟨e, i3, h1, hF⟩ := on_inr hF
    obtain ⟨_, i4, h2, hF⟩ := on_inr hF
    injection hF with hF
    injection hF with hF1 hF2
    subst hF1
    subst hF2
    rw [svA_eq rfl h1]
    show 455 + (sv e + 0) + 455 * 0 ≤ 455 + sv e
    omega
theorem c_par {dp : Nat} {G : Nat → aR tT} (hm : 12 ≤ m) (HE : cEc κ sz T len cnt kk pp ee f A nq ni rt 135 (dp + 1) m G) (hcd : cd ≤ 12 + 6 * dp) (h : cV κ sz len cnt kk pp ee f A nq ni rt σ D at' cd cn am bd nf ff) (v1 : cV κ sz len cnt kk pp ee f A nq ni rt σ1 D at' cd cn am bd nf ff) (r1 : cFr A σ D σ1 D) (n1 : σ1.1 σ.2.1 = some (.inr (7, cNd 40 (pp at') (nI cd)))) (z1 : σ1.2 = (σ.2.1 + 1, σ.2.2.1 + 1, σ.2.2.2 + 21)) (ho : cO pp cnt at' bd (.inr at')) (hi : at' < cnt) (hq : cQn pp ee f σ D nm ν cd nf at') : ∃ σ' D' at2 am2 bd2 nf2 ff2 nm' e fs, (
      ocv (oF κ T m 105 [va_rf (some (A 0))] σ1) fun s20 =>
      obn (oob s20 (some (A 0)) 9) fun a23 =>
      orn (oF κ T m 135 [va_rf (some (A 0)), .int (nI dp + 1)] s20) fun r27 s25 =>
      obn (opf s25 (some σ.2.1) 7 12 (va_rf r27)) fun s28 =>
      obn (oob s28 (some (A 0)) 9) fun a30 =>
      ocv (oF κ T m 108 [va_rf (some (A 0)), .int 41] s28) fun s32 =>
      some (some (va_rf (some σ.2.1)), s32)) = some (some (va_rf (some e)), σ') ∧ cV κ sz len cnt kk pp ee f A nq ni rt σ' D' at2 cd cn am2 bd2 nf2 ff2 ∧ cL kk pp cnt at2 bd2 (((G (at' + 1)).on fun a i1 => (aMs kk 41 i1).on fun _ i2 => .inr (tN 16 at' 0 0 s0 s0 a tZ, i2) : aR tT)).st ∧ cFr A σ D σ' D' ∧ (σ.2.1 ≤ e ∧ σ'.1 e = some (.inr (7, fs)) ∧ fs.length = 21) ∧ cEx 0 0 (svR ((G (at' + 1)).on fun a i1 => (aMs kk 41 i1).on fun _ i2 => .inr (tN 16 at' 0 0 s0 s0 a tZ, i2))) σ D at' (.inr at') σ' D' at2 (((G (at' + 1)).on fun a i1 => (aMs kk 41 i1).on fun _ i2 => .inr (tN 16 at' 0 0 s0 s0 a tZ, i2) : aR tT)).st ∧ (∀ t j, ((G (at' + 1)).on fun a i1 => (aMs kk 41 i1).on fun _ i2 => .inr (tN 16 at' 0 0 s0 s0 a tZ, i2) : aR tT) = .inr (t, j) → cPo κ T kk pp ee f A σ.2.1 D cd cn ff nm ν σ' D' nf2 ff2 nm' e at' t j) := by
  obtain ⟨σ2, a2, v2, o2, r2, z2, k2⟩ := w_next (κ := κ) (T := T) (n := m) v1 ho hi (by omega)
  rw [a2, ocv_at, oob_at v2.2.1, obn_at, show nI dp + 1 = nI (dp + 1) by rw [nI_1]]
  have n2 := v1.kd r2 n1 (by omega)
  have Q2 := ((hq.kf h r1).kf v1 r2).le (Nat.le_succ _)
  have z21 : σ2.2.1 = σ.2.1 + 1 := by rw [z2, z1]
  obtain ⟨σ3, D3, at3, am3, bd3, nf3, ff3, nm3, x, fx, y1, v3, o3, r3, ⟨y2, y3, y3b⟩, y4, y5⟩ := HE σ2 D (at' + 1) cd cn am bd nf ff (.inr (at' + 1)) nm ν v2 o2 (by omega) (fun i hi => by cases hi; exact Q2)
  rw [y1, orn_at]
  have n3 := v2.kd r3 n2 (by omega)
  obtain ⟨σ4, p4, v4, e4, f4, z4, k4, Q4⟩ := w_put (k := 12) (v := va_rf (some x)) v3 n3 rfl (by decide)
  rw [p4, obn_at, oob_at v4.2.1, obn_at]
  obtain ⟨σF, atF, bdF, x1, vF, oF', rF, zF, kF, x5⟩ := c_expL (κ := κ) (T := T) (k := 41) (n := m) v4 o3 (by decide) (by decide) (by omega)
  have x1' : oF κ T m 108 [va_rf (some (A 0)), .int 41] σ4 = some (none, σF) := x1
  rw [x1', ocv_at]
  have eF := v4.kd rF e4 (by omega)
  have gF := fl_ms oF' (fun i hi => (o3.at hi).1) x5
  have F3 : cFe A σ.2.1 σ3 D3 σF D3 := f4.tr (rF.fe _)
  have st : ((G (at' + 1)).on fun a i1 => (aMs kk 41 i1).on fun _ i2 => .inr (tN 16 at' 0 0 s0 s0 a tZ, i2) : aR tT).st = aTo (aTo (.inr (at' + 1)) G) (aMs kk 41) := by
    simp only [aTo]
    cases G (at' + 1) with
    | inl k => rfl
    | inr p =>
      obtain ⟨t, i1⟩ := p
      simp only [aR.on, aR.st]
      cases aMs kk 41 i1 <;> rfl
  refine ⟨σF, D3, atF, am3, bdF, nf3, ff3, nm3, σ.2.1, _, rfl, vF, by rw [st]; exact Or.inl oF', ((((r1.tr r2).tr r3).fe _).tr F3).fr (Nat.le_refl _), ⟨Nat.le_refl _, eF, rfl⟩, ?_, fun t j ht => ?_⟩
  · have S := sv_par kk G at'
    rw [st] at S ⊢
    have t4 := y4
    unfold cEx at t4 ⊢
    rw [show fl (.inr at') = 0 from rfl]
    rw [show fl (.inr (at' + 1)) = 0 from rfl] at t4
    have w1 : σ2.2.2.1 = σ.2.2.1 + 1 := by rw [z2, z1]
    have w2 : σ2.2.2.2 = σ.2.2.2 + 21 := by rw [z2, z1]
    have w3 : σF.2.2 = σ3.2.2 := by rw [zF, z4]
    have w5 := fl_to (aTo (.inr (at' + 1)) G) (aMs kk 41)
    have w6 := fl_le (aTo (aTo (.inr (at' + 1)) G) (aMs kk 41))
    rw [w3]
    omega
  · obtain ⟨a, i1, h1, ht⟩ := on_inr ht
    obtain ⟨_, i2, h2, ht⟩ := on_inr ht
    injection ht with ht
    injection ht with ht1 ht2
    subst ht1
    subst ht2
    obtain ⟨t1, t2, t3, t4, t5, t6⟩ := y5 _ a i1 rfl h1
    have je := (aMs_inr h2).2
    refine ⟨⟨⟨Nat.le_refl _, alt vF.1.1.1 eF, cMu.no vF eF (by omega)⟩, x, ?_, ?_⟩, ?_, fun u hu => t3 u (by omega), t4, ?_, t6⟩
    · rw [hq.1.1]; exact eF
    · exact cTr.go (lo := σ.2.1) v3 F3 n3 eF (by omega) (by omega) vF.low t2.2.1 (fun _ _ => rfl) (Nat.le_refl _) (by omega) (fun _ _ => rfl) t1
    · exact ((Q4 _ _ _ t2).kf v4 rF).le (by omega)
    · rw [t5, show nF (tN 16 at' 0 0 s0 s0 a tZ) = 0 + nF a + 0 from rfl]; omega
end CRK
