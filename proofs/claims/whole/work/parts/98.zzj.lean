/-! the class's parser: assert; what keeps a tree's cells over count -/
section CQU
variable {κ : oKv} {sz T n m len cnt : Nat} {kk pp ee f : Nat → Int32} {A : Nat → Nat} {nq ni : Int32} {rt : Value} {σ σ' : oSt} {D D' : cDt} {at' cd : Nat} {cn am bd nf ff : Int32} {s : Sum Nat Nat} {nm nm' : Nat → Option Nat} {ν : nSt} {lo lo' e i : Nat}
theorem cKp.ct {b : Nat} {fs fs' : List Value} (h : cV κ sz len cnt kk pp ee f A nq ni rt σ D at' cd cn am bd nf ff) (hk : ∀ a, a ≠ A 0 → a ≠ A 7 → a ≠ b → σ'.1 a = σ.1 a) (hz : σ'.2 = σ.2) (hb : σ.1 b = some (.inr (6, fs))) (hb' : σ'.1 b = some (.inr (6, fs'))) (hD : D'.1 = D.1) (hl : b < lo) (hl' : lo' ≤ lo) : cKp κ A D lo σ D' lo' σ' := by
  have mE : ∀ a, cMu A D' a → cMu A D a := fun a z => by unfold cMu at z ⊢; rw [hD] at z; exact z
  have K : ∀ a ci gs, σ.1 a = some (.inr (ci, gs)) → ci = 6 ∨ ci = 7 → ∃ gs', σ'.1 a = some (.inr (ci, gs')) := fun a ci gs ea hc => by
    by_cases z : a = b
    · rw [z] at ea ⊢
      rw [hb] at ea
      injection ea with ea; injection ea with ea; injection ea with e1 e2
      rw [← e1]; exact ⟨fs', hb'⟩
    · exact ⟨gs, by rw [hk a (fun w => by rw [w, h.2.1] at ea; injection ea with ea; injection ea with ea; injection ea with ea; omega) (fun w => by rw [w, h.1.2.2.1] at ea; cases ea) z]; exact ea⟩
  refine ⟨fun a ha => ⟨hk a (fun z => ha.2.2 (Or.inl z)) (fun z => ha.2.2 (Or.inr (Or.inl z))) (by have := ha.1; omega), by have := ha.1; omega, by rw [hz]; exact ha.2.1, fun z => ha.2.2 (mE a z)⟩, fun a gs ea => K a 6 gs ea (by omega), fun a gs ea => K a 7 gs ea (by omega), ?_⟩
  have hlow := h.1.1.2.1 _ h.1.1.2.2.2
  rw [hk κ.2.2.1 (fun z => by rw [z, h.2.1] at hlow; cases hlow) (fun z => by rw [z, h.1.2.2.1] at hlow; cases hlow) (fun z => by rw [z, hb] at hlow; cases hlow)]
  exact hlow
theorem cFe.ct {b : Nat} {σ7 σ8 : oSt} {D7 D8 : cDt} (h : cFe A e σ D σ7 D7) (hk : ∀ a, a ≠ A 0 → a ≠ A 7 → a ≠ b → σ8.1 a = σ7.1 a) (hz : σ8.2 = σ7.2) (hD : D8.1 = D7.1) (hb : σ.2.1 ≤ b) : cFe A e σ D σ8 D8 :=
  ⟨by rw [hz]; exact h.1, fun a ha hm hne => by rw [hk a (fun z => hm (Or.inl z)) (fun z => hm (Or.inr (Or.inl z))) (by omega)]; exact h.2.1 a ha hm hne, by rw [hD]; exact h.2.2.1, by rw [hD]; exact h.2.2.2⟩
theorem cTr.gk {t : tT} {lo5 fk j j' k x : Nat} {g : Nat → Option Nat} (G : cKp κ A D lo5 σ D' lo σ') (Q : nLt (nT f pp ee t ν) j) (hnm : ∀ u, u < j' → nm' u = nm u) (hj : j ≤ j') (hfk : fk + nF t ≤ D.1.2.2.2.2.2) (hfun : ∀ x, x < D.1.2.2.2.2.2 → D'.2.2.2 x = D.2.2.2 x) (h0 : cTr κ T kk pp ee f A D lo5 σ nm t ν.1 fk g k x) : cTr κ T kk pp ee f A D' lo σ' nm' t ν.1 fk g k x := by
  obtain ⟨n1, n2⟩ := nT_12 (f := f) (pp := pp) (ee := ee) t ν
  refine cTr.kp G (P := fun u => u < j') hnm t ν.1 fk g k x (fun u hu => ?_) (fun u hu => ?_) (fun x hx => hfun x (by omega)) h0
  · have := Q u (Or.inl (by rw [n1]; exact hu)); omega
  · have := Q u (Or.inr (by rw [n2]; exact List.mem_append.mpr (Or.inr hu))); omega
theorem aAt_st (kk : Nat → Int32) (T : Nat) (G H : Nat → aR tT) (i : Nat) : (aAt kk T G H i).st = aTo (aTo (aTo (.inr (i + 1)) (aEi kk T H)) (aMs kk 59)) G := by
  unfold aAt
  simp only [aTo]
  cases aEi kk T H (i + 1) with
  | inl k => rfl
  | inr p =>
    obtain ⟨t, i1⟩ := p
    simp only [aR.on, aR.st]
    cases aMs kk 59 i1 with
    | inl k => rfl
    | inr p =>
      obtain ⟨t, i2⟩ := p
      simp only
      cases G i2 with
      | inl k => rfl
      | inr p => rfl
theorem sv_at (kk : Nat → Int32) (T : Nat) (G H : Nat → aR tT) (i : Nat) : svR (aAt kk T G H i) + 230 * fl (aAt kk T G H i).st ≤ 230 + svA (aTo (aTo (.inr (i + 1)) (aEi kk T H)) (aMs kk 59)) G := by
  cases hF : aAt kk T G H i with
  | inl k => show 0 + 230 * 1 ≤ _; omega
  | inr p =>
    obtain ⟨t, j⟩ := p
    unfold aAt at hF
    obtain ⟨tc', i2, c1, hF⟩ := on_inr hF
    obtain ⟨_, i4, c2, hF⟩ := on_inr hF
    obtain ⟨ta', i5, c3, hF⟩ := on_inr hF
    injection hF with hF
    injection hF with hF1 hF2
    subst hF1
    subst hF2
    have S2 := aTo_eq (s := .inr (i + 1)) rfl c1
    have S4 := aTo_eq S2 c2
    rw [svA_eq S4 c3]
    show 230 + (0 + sv ta') + 230 * 0 ≤ 230 + sv ta'
    omega
set_option maxHeartbeats 1000000 in
theorem c_assert {dp : Nat} {G H : Nat → aR tT} (hm : 9 ≤ m) (HG : ∀ D cd cn nm, cCc κ sz T len cnt kk pp ee f A nq ni rt D cd cn nm 127 dp m (aEi kk T H) 22 190) (HE : cEc κ sz T len cnt kk pp ee f A nq ni rt 135 (dp + 1) (m + 1) G) : cRc κ sz T len cnt kk pp ee f A nq ni rt 136 dp (m + 2) 201 (aAt kk T G H) := by
  intro σ D at' cd cn am bd nf ff nm ν e h ho hi hcd hq he
  rw [oE_X7_readAssert]
  unfold ob_X7_readAssert
  have hle : e < σ.2.1 := alt h.1.1.1 he
  obtain ⟨σ1, a1, v1, o1, r1, z1, k1⟩ := w_next (κ := κ) (T := T) (n := m + 1) h ho hi (by omega)
  rw [oob_at h.2.1, obn_at, a1, ocv_at, w_f13 v1, ovi_i, obn_at, oob_at v1.2.1, obn_at]
  have e1 := h.kd r1 he (by omega)
  have q1 : cQn pp ee f σ1 D nm ν cd nf at' := hq.kf h r1
  obtain ⟨σ2, at2, cn2, am2, bd2, nf2, ff2, c, pl, b1, v2, o2, r2, ⟨-, b3⟩, ⟨b4, b5⟩, b6, b7⟩ := c_test (κ := κ) (T := T) (HG D cd cn nm) (by omega) v1 o1 (fun _ _ => q1.1)
  rw [b1, orn_at]
  have e2 := v1.kd r2 e1 (by omega)
  obtain ⟨σ2a, p2a, v2a, e2a, f2a, z2a, k2a, Q2a⟩ := w_put (k := 14) (v := va_rf (some c)) v2 e2 rfl (by decide)
  have g14 : ofd σ2a (some e) 7 14 = some (.ref c) := by rw [ofd_at e2a]; rfl
  rw [p2a, obn_at, g14, ovr_rf, obn_at]
  obtain ⟨σ3, p3, v3, e3, f3, z3, k3, Q3⟩ := w_put (k := 17) (v := va_rf (some c)) v2a e2a rfl (by decide)
  rw [p3, obn_at, oob_at v3.2.1, obn_at]
  obtain ⟨σ4, at4, bd4, x1, v4, o4, r4, z4, k4, x5⟩ := c_expect (κ := κ) (T := T) (k := 59) (n := m + 1) v3 o2 (by decide) (by omega)
  have x1' : oF κ T (m + 1) 108 [va_rf (some (A 0)), .int 59] σ3 = some (none, σ4) := x1
  rw [x1', ocv_at, oob_at v4.2.1, obn_at]
  have e4 := v3.kd r4 e3 (by omega)
  have g4 := fl_ms o4 (fun i hi => (o2.at hi).1) x5
  obtain ⟨tc, htc⟩ := aTr (.inr (at' + 1)) (aEi kk T H)
  have Q4 : ∀ i, aTo (aTo (.inr (at' + 1)) (aEi kk T H)) (aMs kk 59) = .inr i → cQn pp ee f σ4 D nm (nCt f pp ee tc ν) cd nf2 i := fun i hi => by
    obtain ⟨i2, u, h2, m2⟩ := aTo_inr hi
    obtain ⟨i1, t, h1, c1⟩ := aTo_inr h2
    have B := b7 i1 t i2 h1 c1
    rw [htc i1 t i2 h1 c1] at B
    have w := q1.nn B.2.2.1 (nCt_1 f pp ee tc ν) (nCt_2 tc ν)
    exact ((Q3 _ _ _ (Q2a _ _ _ (w.le (by have := (o4.at hi).1; omega)))).kf v3 r4)
  rw [show nI dp + 1 = nI (dp + 1) by rw [nI_1]]
  obtain ⟨σ5, D5, at5, am5, bd5, nf5, ff5, nm5, x, fx, y1, v5, o5, r5, ⟨y2, y3, y3b⟩, y4, y5⟩ := HE σ4 D at4 cd cn2 am2 bd4 nf2 ff2 _ nm (nCt f pp ee tc ν) v4 o4 (by omega) Q4
  rw [y1, orn_at]
  have e5 := v4.kd r5 e4 (by omega)
  obtain ⟨σ6, p6, v6, e6, f6, z6, k6, Q6⟩ := w_put (k := 12) (v := va_rf (some x)) v5 e5 rfl (by decide)
  rw [p6, obn_at]
  obtain ⟨σF, pF, vF, rF, zF, kF⟩ := w_cn (v := cn) v6
  rw [pF, obn_at]
  have eF := v6.kd rF e6 (by omega)
  have F5 : cFe A e σ5 D5 σF D5 := f6.tr (rF.fe e)
  have F2 : cFe A e σ2 D σF D5 := ((((f2a.tr f3).tr (r4.fe e)).tr (r5.fe e)).tr F5)
  have l2 : σ1.2.1 = σ.2.1 := by rw [z1]
  have l4 : e < σ4.2.1 := alt v4.1.1.1 e4
  have hst := aAt_st kk T G H at'
  refine ⟨σF, D5, at5, am5, bd5, nf5, ff5, nm5, _, rfl, vF, by rw [hst]; exact o5, ((r1.fe e).tr (r2.fe e)).tr F2, ⟨eF, rfl⟩, ?_, fun t j hF => ?_⟩
  · have S := sv_at kk T G H at'
    rw [hst] at S ⊢
    have t4 := y4
    unfold cEx at t4 ⊢
    have n1 := fl_to (aTo (.inr (at' + 1)) (aEi kk T H)) (aMs kk 59)
    have n2 := fl_to (aTo (aTo (.inr (at' + 1)) (aEi kk T H)) (aMs kk 59)) G
    have n5 := fl_le (aTo (aTo (.inr (at' + 1)) (aEi kk T H)) (aMs kk 59))
    rw [show fl (.inr at') = 0 from rfl]
    have q1 : σ1.2.2 = σ.2.2 := by rw [z1]
    have q3 : σ4.2.2 = σ2.2.2 := by rw [z4, z3, z2a]
    have qF : σF.2.2 = σ5.2.2 := by rw [zF, z6]
    rw [q1] at b4 b5
    rw [q3] at t4
    rw [qF]
    omega
  · unfold aAt at hF
    obtain ⟨tc', i2, c1, hF⟩ := on_inr hF
    obtain ⟨_, i4, c2, hF⟩ := on_inr hF
    obtain ⟨ta', i5, c3, hF⟩ := on_inr hF
    injection hF with hF
    injection hF with hF1 hF2
    subst hF1
    subst hF2
    have S2 := aTo_eq (s := .inr (at' + 1)) rfl c1
    have S4 := aTo_eq S2 c2
    have B1 := b7 _ _ _ rfl c1
    have B2 := y5 i4 ta' i5 S4 c3
    have ec := htc _ _ _ rfl c1
    subst ec
    obtain ⟨m1, m2, m3, m4, m5⟩ := B1
    obtain ⟨t1, t2, t3, t4, t5, t6⟩ := B2
    have n12a := nT_12 (f := f) (pp := pp) (ee := ee) ta' (nCt f pp ee tc' ν)
    have n1c := nCt_1 f pp ee tc' ν
    have i24 := (aMs_inr c2).2
    have w4 := (o4.at S4).1
    have w2 := (o2.at S2).1
    have y41 := y4.1
    have envlt : ∀ u ∈ ν.1, u < at' := fun u hu => hq.2.1 u (Or.inl hu)
    refine ⟨?_, ?_, fun u hu => ?_, ?_, ?_, fun x hx => ?_⟩
    · refine ⟨⟨Nat.le_refl _, alt vF.1.1.1 eF, cMu.no vF eF (by omega)⟩, c, x, ?_, ?_, ?_⟩
      · rw [eF, hq.1.1]; rfl
      · rw [hq.1.1]
        exact cCt.go v2 F2 e2 eF (by omega) (by omega) vF.low (fun u hu => by rw [t3 u (by have := envlt u hu; omega)]) m1
      · have G := cTr.go (lo := e) v5 F5 e5 eF l4 (by omega) vF.low t2.2.1 (fun _ _ => rfl) (Nat.le_refl _) (by omega) (fun _ _ => rfl) t1
        rw [n1c] at G
        exact G
    · exact ((Q6 _ _ _ t2).kf v6 rF)
    · rw [t3 u (by omega)]
    · rw [t4, n1c, m5, m4.2, hq.fc]
      rfl
    · rw [t5]
      show _ = _ + (0 + 0 + nF ta')
      omega
    · rw [t6 x hx]
end CQU
