/-! the class's parser: if -/
theorem aTr (s : Sum Nat Nat) (G : Nat → aR tT) : ∃ ta, ∀ i t j, s = .inr i → G i = .inr (t, j) → t = ta := by
  cases s with
  | inl k => exact ⟨tZ, fun i t j h _ => by cases h⟩
  | inr i =>
    cases e : G i with
    | inl k => exact ⟨tZ, fun i' t j h h' => by cases h; rw [e] at h'; cases h'⟩
    | inr p => obtain ⟨t, j⟩ := p; exact ⟨t, fun i' t' j' h h' => by cases h; rw [e] at h'; injection h' with h'; injection h' with h1 h2; exact h1.symm⟩
section CQT
variable {κ : oKv} {sz T n m len cnt : Nat} {kk pp ee f : Nat → Int32} {A : Nat → Nat} {nq ni : Int32} {rt : Value} {σ σ' : oSt} {D D' : cDt} {at' cd : Nat} {cn am bd nf ff : Int32} {s : Sum Nat Nat} {nm nm' : Nat → Option Nat} {ν : nSt} {lo e i : Nat}
theorem cO.at (h : cO pp cnt at' bd s) (hs : s = .inr i) : at' = i ∧ i ≤ cnt := by subst hs; exact h.2
theorem cL.at (h : cL kk pp cnt at' bd s) (hs : s = .inr i) : at' = i ∧ i ≤ cnt := by subst hs; exact h.o.2
theorem fl_ms {k : Nat} {at2 : Nat} {bd2 : Int32} (h : cO pp cnt at2 bd2 (aTo s (aMs kk k))) (h0 : ∀ i, s = .inr i → at' = i) (hl : at' ≤ at2) : at' + 1 ≤ at2 + fl (aTo s (aMs kk k)) := by
  cases s with
  | inl j => exact Nat.succ_le_succ hl
  | inr i =>
    have := h0 i rfl
    rw [aTo_ok] at h ⊢
    unfold aMs at h ⊢
    by_cases c : aIs kk k i = true
    · rw [if_pos c] at h ⊢
      have := h.2.1
      omega
    · rw [if_neg c]; exact Nat.succ_le_succ hl
theorem aIf_st (kk : Nat → Int32) (T : Nat) (G H : Nat → aR tT) (i : Nat) : (aIf kk T G H i).st = aTo (aTo (aTo (aTo (aTo (.inr (i + 1)) (aEi kk T H)) (aMs kk 222)) G) (aMs kk 204)) G := by
  unfold aIf
  simp only [aTo]
  cases aEi kk T H (i + 1) with
  | inl k => rfl
  | inr p =>
    obtain ⟨t, i1⟩ := p
    simp only [aR.on, aR.st]
    cases aMs kk 222 i1 with
    | inl k => rfl
    | inr p =>
      obtain ⟨t, i2⟩ := p
      simp only
      cases G i2 with
      | inl k => rfl
      | inr p =>
        obtain ⟨t, i3⟩ := p
        simp only
        cases aMs kk 204 i3 with
        | inl k => rfl
        | inr p =>
          obtain ⟨t, i4⟩ := p
          simp only
          cases G i4 with
          | inl k => rfl
          | inr p => rfl
theorem sv_if (kk : Nat → Int32) (T : Nat) (G H : Nat → aR tT) (i : Nat) : svR (aIf kk T G H i) + 450 * fl (aIf kk T G H i).st ≤ 450 + (svA (aTo (aTo (.inr (i + 1)) (aEi kk T H)) (aMs kk 222)) G + svA (aTo (aTo (aTo (aTo (.inr (i + 1)) (aEi kk T H)) (aMs kk 222)) G) (aMs kk 204)) G) := by
  cases hF : aIf kk T G H i with
  | inl k => show 0 + 450 * 1 ≤ _; omega
  | inr p =>
    obtain ⟨t, j⟩ := p
    unfold aIf at hF
    obtain ⟨tc', i2, c1, hF⟩ := on_inr hF
    obtain ⟨_, i4, c2, hF⟩ := on_inr hF
    obtain ⟨ta', i5, c3, hF⟩ := on_inr hF
    obtain ⟨_, i7, c4, hF⟩ := on_inr hF
    obtain ⟨tb, i8, c5, hF⟩ := on_inr hF
    injection hF with hF
    injection hF with hF1 hF2
    subst hF1
    subst hF2
    have S2 := aTo_eq (s := .inr (i + 1)) rfl c1
    have S4 := aTo_eq S2 c2
    have S5 := aTo_eq S4 c3
    have S7 := aTo_eq S5 c4
    rw [svA_eq S4 c3, svA_eq S7 c5]
    show 450 + (0 + (0 + (sv ta' + sv tb))) + 450 * 0 ≤ 450 + (sv ta' + sv tb)
    omega
set_option maxHeartbeats 1000000 in
theorem c_if {dp : Nat} {G H : Nat → aR tT} (hm : 9 ≤ m) (HG : ∀ D cd cn nm, cCc κ sz T len cnt kk pp ee f A nq ni rt D cd cn nm 127 dp m (aEi kk T H) 22 190) (HE : cEc κ sz T len cnt kk pp ee f A nq ni rt 135 (dp + 1) (m + 1) G) : cRc κ sz T len cnt kk pp ee f A nq ni rt 139 dp (m + 2) 207 (aIf kk T G H) := by
  intro σ D at' cd cn am bd nf ff nm ν e h ho hi hcd hq he
  rw [oE_X7_readIf]
  unfold ob_X7_readIf
  have hle : e < σ.2.1 := alt h.1.1.1 he
  obtain ⟨σ1, a1, v1, o1, r1, z1, k1⟩ := w_next (κ := κ) (T := T) (n := m + 1) h ho hi (by omega)
  rw [oob_at h.2.1, obn_at, a1, ocv_at, w_f13 v1, ovi_i, obn_at, oob_at v1.2.1, obn_at]
  have e1 := h.kd r1 he (by omega)
  have q1 : cQn pp ee f σ1 D nm ν cd nf at' := hq.kf h r1
  obtain ⟨σ2, at2, cn2, am2, bd2, nf2, ff2, c, pl, b1, v2, o2, r2, ⟨-, b3⟩, ⟨b4, b5⟩, b6, b7⟩ := c_test (κ := κ) (T := T) (HG D cd cn nm) (by omega) v1 o1 (fun _ _ => q1.1)
  rw [b1, orn_at]
  have e2 := v1.kd r2 e1 (by omega)
  obtain ⟨σ3, p3, v3, e3, f3, z3, k3, Q3⟩ := w_put (k := 14) (v := va_rf (some c)) v2 e2 rfl (by decide)
  rw [p3, obn_at, oob_at v3.2.1, obn_at]
  obtain ⟨σ4, at4, bd4, x1, v4, o4, r4, z4, k4, x5⟩ := c_expect (κ := κ) (T := T) (k := 222) (n := m + 1) v3 o2 (by decide) (by omega)
  have x1' : oF κ T (m + 1) 108 [va_rf (some (A 0)), .int 222] σ3 = some (none, σ4) := x1
  rw [x1', ocv_at, oob_at v4.2.1, obn_at]
  have e4 := v3.kd r4 e3 (by omega)
  have g4 := fl_ms o4 (fun i hi => (o2.at hi).1) x5
  obtain ⟨tc, htc⟩ := aTr (.inr (at' + 1)) (aEi kk T H)
  have Q4 : ∀ i, aTo (aTo (.inr (at' + 1)) (aEi kk T H)) (aMs kk 222) = .inr i → cQn pp ee f σ4 D nm (nCt f pp ee tc ν) cd nf2 i := fun i hi => by
    obtain ⟨i2, u, h2, m2⟩ := aTo_inr hi
    obtain ⟨i1, t, h1, c1⟩ := aTo_inr h2
    have B := b7 i1 t i2 h1 c1
    rw [htc i1 t i2 h1 c1] at B
    have w := q1.nn B.2.2.1 (nCt_1 f pp ee tc ν) (nCt_2 tc ν)
    exact ((Q3 _ _ _ (w.le (by have := (o4.at hi).1; omega))).kf v3 r4)
  rw [show nI dp + 1 = nI (dp + 1) by rw [nI_1]]
  obtain ⟨σ5, D5, at5, am5, bd5, nf5, ff5, nm5, x, fx, y1, v5, o5, r5, ⟨y2, y3, y3b⟩, y4, y5⟩ := HE σ4 D at4 cd cn2 am2 bd4 nf2 ff2 _ nm (nCt f pp ee tc ν) v4 o4 (by omega) Q4
  rw [y1, orn_at]
  have e5 := v4.kd r5 e4 (by omega)
  obtain ⟨σ6, p6, v6, e6, f6, z6, k6, Q6⟩ := w_put (k := 12) (v := va_rf (some x)) v5 e5 rfl (by decide)
  rw [p6, obn_at, oob_at v6.2.1, obn_at]
  obtain ⟨σ7, at7, bd7, w1, v7, o7, r7, z7, k7, w5⟩ := c_expL (κ := κ) (T := T) (k := 204) (n := m + 1) v6 o5 (by decide) (by decide) (by omega)
  have w1' : oF κ T (m + 1) 108 [va_rf (some (A 0)), .int 204] σ6 = some (none, σ7) := w1
  rw [w1', ocv_at, oob_at v7.2.1, obn_at]
  have e7 := v6.kd r7 e6 (by omega)
  have g7 := fl_ms o7 (fun i hi => (o5.at hi).1) w5
  obtain ⟨ta, hta⟩ := aTr (aTo (aTo (.inr (at' + 1)) (aEi kk T H)) (aMs kk 222)) G
  have Q7 : ∀ i, aTo (aTo (aTo (aTo (.inr (at' + 1)) (aEi kk T H)) (aMs kk 222)) G) (aMs kk 204) = .inr i → cQn pp ee f σ7 D5 nm5 (nT f pp ee ta (nCt f pp ee tc ν)) cd nf5 i := fun i hi => by
    obtain ⟨i5, u, h5, m5⟩ := aTo_inr hi
    obtain ⟨i4, t, h4, c4⟩ := aTo_inr h5
    have B := y5 i4 t i5 h4 c4
    rw [hta i4 t i5 h4 c4] at B
    exact ((Q6 _ _ _ (B.2.1.le (by have := (aMs_inr m5).2; omega))).kf v6 r7)
  obtain ⟨σ8, D8, at8, am8, bd8, nf8, ff8, nm8, y, fy, u1, v8, o8, r8, ⟨u2, u3, u3b⟩, u4, u5⟩ := HE σ7 D5 at7 cd cn2 am5 bd7 nf5 ff5 _ nm5 (nT f pp ee ta (nCt f pp ee tc ν)) v7 o7 (by omega) Q7
  rw [u1, orn_at]
  have e8 := v7.kd r8 e7 (by omega)
  obtain ⟨σ9, p9, v9, e9, f9, z9, k9, Q9⟩ := w_put (k := 13) (v := va_rf (some y)) v8 e8 rfl (by decide)
  rw [p9, obn_at]
  obtain ⟨σF, pF, vF, rF, zF, kF⟩ := w_cn (v := cn) v9
  rw [pF, obn_at]
  have eF := v9.kd rF e9 (by omega)
  -- the frames
  have F8 : cFe A e σ8 D8 σF D8 := f9.tr (rF.fe e)
  have F5 : cFe A e σ5 D5 σF D8 := ((f6.tr (r7.fe e)).tr (r8.fe e)).tr F8
  have F2 : cFe A e σ2 D σF D8 := ((f3.tr (r4.fe e)).tr (r5.fe e)).tr F5
  have l2 : σ1.2.1 = σ.2.1 := by rw [z1]
  have l4 : e < σ4.2.1 := alt v4.1.1.1 e4
  have l7 : e < σ7.2.1 := alt v7.1.1.1 e7
  have hst := aIf_st kk T G H at'
  refine ⟨σF, D8, at8, am8, bd8, nf8, ff8, nm8, _, rfl, vF, by rw [hst]; exact o8, ((r1.fe e).tr (r2.fe e)).tr F2, ⟨eF, rfl⟩, ?_, fun t j hF => ?_⟩
  · have S := sv_if kk T G H at'
    rw [hst] at S ⊢
    have t4 := y4
    have t8 := u4
    unfold cEx at t4 t8 ⊢
    have n1 := fl_to (aTo (.inr (at' + 1)) (aEi kk T H)) (aMs kk 222)
    have n2 := fl_to (aTo (aTo (.inr (at' + 1)) (aEi kk T H)) (aMs kk 222)) G
    have n3 := fl_to (aTo (aTo (aTo (.inr (at' + 1)) (aEi kk T H)) (aMs kk 222)) G) (aMs kk 204)
    have n4 := fl_to (aTo (aTo (aTo (aTo (.inr (at' + 1)) (aEi kk T H)) (aMs kk 222)) G) (aMs kk 204)) G
    generalize fl (aTo (aTo (aTo (aTo (aTo (.inr (at' + 1)) (aEi kk T H)) (aMs kk 222)) G) (aMs kk 204)) G) = n9 at *
    have n5 := fl_le (aTo (aTo (aTo (aTo (.inr (at' + 1)) (aEi kk T H)) (aMs kk 222)) G) (aMs kk 204))
    rw [show fl (.inr at') = 0 from rfl]
    have q1 : σ1.2.2 = σ.2.2 := by rw [z1]
    have q3 : σ4.2.2 = σ2.2.2 := by rw [z4, z3]
    have q7 : σ7.2.2 = σ5.2.2 := by rw [z7, z6]
    have qF : σF.2.2 = σ8.2.2 := by rw [zF, z9]
    rw [q1] at b4 b5
    rw [q3] at t4
    rw [q7] at t8
    rw [qF]
    omega
  · unfold aIf at hF
    obtain ⟨tc', i2, c1, hF⟩ := on_inr hF
    obtain ⟨_, i4, c2, hF⟩ := on_inr hF
    obtain ⟨ta', i5, c3, hF⟩ := on_inr hF
    obtain ⟨_, i7, c4, hF⟩ := on_inr hF
    obtain ⟨tb, i8, c5, hF⟩ := on_inr hF
    injection hF with hF
    injection hF with hF1 hF2
    subst hF1
    subst hF2
    have S2 := aTo_eq (s := .inr (at' + 1)) rfl c1
    have S4 := aTo_eq S2 c2
    have S5 := aTo_eq S4 c3
    have S7 := aTo_eq S5 c4
    have B1 := b7 _ _ _ rfl c1
    have B2 := y5 i4 ta' i5 S4 c3
    have B3 := u5 i7 tb i8 S7 c5
    have ec := htc _ _ _ rfl c1
    have ea := hta _ _ _ S4 c3
    subst ec
    subst ea
    obtain ⟨m1, m2, m3, m4, m5⟩ := B1
    obtain ⟨t1, t2, t3, t4, t5, t6⟩ := B2
    obtain ⟨s1, s2, s3, s4, s5, s6⟩ := B3
    have n12 := nT_12 (f := f) (pp := pp) (ee := ee) tb (nT f pp ee ta' (nCt f pp ee tc' ν))
    have n12a := nT_12 (f := f) (pp := pp) (ee := ee) ta' (nCt f pp ee tc' ν)
    have n1c := nCt_1 f pp ee tc' ν
    have i24 := (aMs_inr c2).2
    have i57 := (aMs_inr c4).2
    have w4 := (o4.at S4).1
    have w7 := (o7.at S7).1
    have w2 := (o2.at S2).1
    have y41 := y4.1
    have u41 := u4.1
    have envlt : ∀ u ∈ ν.1, u < at' := fun u hu => hq.2.1 u (Or.inl hu)
    refine ⟨?_, ?_, fun u hu => ?_, ?_, ?_, fun x hx => ?_⟩
    · refine ⟨⟨Nat.le_refl _, alt vF.1.1.1 eF, cMu.no vF eF (by omega)⟩, c, x, y, ?_, ?_, ?_⟩
      · rw [eF, hq.1.1]; rfl
      · rw [hq.1.1]
        exact cCt.go v2 F2 e2 eF (by omega) (by omega) vF.low (fun u hu => by rw [s3 u (by have := envlt u hu; omega), t3 u (by have := envlt u hu; omega)]) m1
      · refine ⟨x, rfl, ?_, ?_⟩
        · rw [← n1c]
          exact cTr.go v5 F5 e5 eF l4 (by omega) vF.low t2.2.1 s3 (by omega) (by omega) s6 t1
        · have G := cTr.go (lo := e) v8 F8 e8 eF l7 (by omega) vF.low s2.2.1 (fun _ _ => rfl) (Nat.le_refl _) (by omega) (fun _ _ => rfl) s1
          rw [n12a.1, n1c, t5] at G
          exact G
    · exact ((Q9 _ _ _ s2).kf v9 rF)
    · rw [s3 u (by omega), t3 u (by omega)]
    · rw [s4, t4, n12a.1, n1c, m5, m4.2, hq.fc]
      rfl
    · rw [s5, t5]
      show _ = _ + (0 + 0 + (0 + nF ta' + nF tb))
      omega
    · rw [s6 x (by omega), t6 x hx]
end CQT
