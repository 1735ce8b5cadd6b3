/-! the class's parser: set -/
section CRB
variable {κ : oKv} {sz T n m len cnt : Nat} {kk pp ee f : Nat → Int32} {A : Nat → Nat} {nq ni : Int32} {rt : Value} {σ σ' : oSt} {D D' : cDt} {at' cd : Nat} {cn am bd nf ff : Int32} {s : Sum Nat Nat} {nm nm' : Nat → Option Nat} {ν : nSt} {lo e i : Nat}
theorem aSe_st (kk : Nat → Int32) (T : Nat) (G : Nat → aR tT) (i : Nat) : (aSe kk T G i).st = aTo (aTo (aTo (aTo (aIx kk T (i + 1)).st (aMs kk 61)) (aSm kk T)) (aMs kk 59)) G := by
  unfold aSe aIx
  simp only [aTo]
  cases aMs kk 1 (i + 1) with
  | inl k => rfl
  | inr p =>
    obtain ⟨t, i1⟩ := p
    simp only [aR.on, aR.st]
    cases aMs kk 91 i1 with
    | inl k => rfl
    | inr p =>
      obtain ⟨t, i2⟩ := p
      simp only
      cases aSm kk T i2 with
      | inl k => rfl
      | inr p =>
        obtain ⟨t, i3⟩ := p
        simp only
        cases aMs kk 93 i3 with
        | inl k => rfl
        | inr p =>
          obtain ⟨t, i4⟩ := p
          simp only
          cases aMs kk 61 i4 with
          | inl k => rfl
          | inr p =>
            obtain ⟨t, i5⟩ := p
            simp only
            cases aSm kk T i5 with
            | inl k => rfl
            | inr p =>
              obtain ⟨t, i6⟩ := p
              simp only
              cases aMs kk 59 i6 with
              | inl k => rfl
              | inr p =>
                obtain ⟨t, i7⟩ := p
                simp only
                cases G i7 with
                | inl k => rfl
                | inr p => rfl
theorem aSe_eq {G : Nat → aR tT} {t : tT} {j : Nat} (h : aSe kk T G i = .inr (t, j)) : ∃ S i2 i3 S' i4 i6 ta, aIx kk T (i + 1) = .inr (S, i2) ∧ aMs kk 61 i2 = .inr ((), i3) ∧ aSm kk T i3 = .inr (S', i4) ∧ aMs kk 59 i4 = .inr ((), i6) ∧ G i6 = .inr (ta, j) ∧ t = tN 6 i 0 0 S S' ta tZ := by
  unfold aSe at h
  obtain ⟨_, i1, h1, h⟩ := on_inr h
  obtain ⟨_, i2, h2, h⟩ := on_inr h
  obtain ⟨S, i3, h3, h⟩ := on_inr h
  obtain ⟨_, i4, h4, h⟩ := on_inr h
  obtain ⟨_, i5, h5, h⟩ := on_inr h
  obtain ⟨S', i6, h6, h⟩ := on_inr h
  obtain ⟨_, i7, h7, h⟩ := on_inr h
  obtain ⟨ta, i8, h8, h⟩ := on_inr h
  injection h with h
  injection h with hh1 hh2
  subst hh1
  subst hh2
  refine ⟨S, i4, i5, S', i6, i7, ta, ?_, h5, h6, h7, h8, rfl⟩
  unfold aIx
  rw [h1]; show ((aMs kk 91 i1).on _) = _
  rw [h2]; show ((aSm kk T i2).on _) = _
  rw [h3]; show ((aMs kk 93 i3).on _) = _
  rw [h4]; rfl
theorem aTrI (r : aR tS) : ∃ S : tS, ∀ t j, r = .inr (t, j) → t = S := by
  cases r with
  | inl k => exact ⟨s0, fun t j h => by cases h⟩
  | inr p => obtain ⟨t, j⟩ := p; exact ⟨t, fun t' j' h => by injection h with h; injection h with h1 h2; exact h1.symm⟩
theorem aTrS (s : Sum Nat Nat) (G : Nat → aR tS) : ∃ ta : tS, ∀ i t j, s = .inr i → G i = .inr (t, j) → t = ta := by
  cases s with
  | inl k => exact ⟨s0, fun i t j h _ => by cases h⟩
  | inr i =>
    obtain ⟨S, h⟩ := aTrI (G i)
    exact ⟨S, fun i' t j h1 h2 => by cases h1; exact h t j h2⟩
theorem st_inr {α : Type} {r : aR α} {j : Nat} (h : r.st = .inr j) : ∃ t, r = .inr (t, j) := by
  cases r with
  | inl k => cases h
  | inr p => obtain ⟨t, k⟩ := p; injection h with h; exact ⟨t, by rw [← h]⟩
theorem fl_sm {at2 : Nat} {bd2 : Int32} (h : cO pp cnt at2 bd2 (aTo s (aSm kk T))) (h0 : ∀ i, s = .inr i → at' = i) (hl : at' ≤ at2) : at' + 1 ≤ at2 + fl (aTo s (aSm kk T)) := by
  cases s with
  | inl j => exact Nat.succ_le_succ hl
  | inr i =>
    have := h0 i rfl
    cases e : aSm kk T i with
    | inl k => rw [aTo_ok, e]; exact Nat.succ_le_succ hl
    | inr p =>
      obtain ⟨t, j⟩ := p
      rw [aTo_eq rfl e] at h ⊢
      have := (aSm_1 e).2
      have := h.2.1
      omega
theorem sv_se (kk : Nat → Int32) (T : Nat) (G : Nat → aR tT) (i : Nat) : svR (aSe kk T G i) ≤ svA (aTo (aTo (aTo ((aIx kk T (i + 1)).st) (aMs kk 61)) (aSm kk T)) (aMs kk 59)) G := by
  cases hF : aSe kk T G i with
  | inl k => exact Nat.zero_le _
  | inr p =>
    obtain ⟨t, j⟩ := p
    obtain ⟨S', i2, i3, S2', i4, i6, ta', d1, d2, d3, d4, d5, rfl⟩ := aSe_eq hF
    have T2 : (aIx kk T (i + 1)).st = .inr i2 := by rw [d1]; rfl
    have T3 := aTo_eq T2 d2
    have T4 := aTo_eq T3 d3
    have T6 := aTo_eq T4 d4
    rw [svA_eq T6 d5]
    show 0 + (sv ta' + 0) ≤ sv ta'
    omega
set_option maxHeartbeats 2000000 in
theorem c_set {dp : Nat} {G : Nat → aR tT} (hm : 13 ≤ m) (hT : 2010 ≤ T) (hwl : ∀ j, j < cnt → wL pp ee j ≤ 10) (HE : cEc κ sz T len cnt kk pp ee f A nq ni rt 135 (dp + 1) m G) : cRc κ sz T len cnt kk pp ee f A nq ni rt 144 dp (m + 1) 220 (aSe kk T G) := by
  intro σ D at' cd cn am bd nf ff nm ν e h ho hi hcd hq he
  rw [oE_X7_readSet]
  unfold ob_X7_readSet
  have hle : e < σ.2.1 := alt h.1.1.1 he
  obtain ⟨σ1, a1, v1, o1, r1, z1, k1⟩ := w_next (κ := κ) (T := T) (n := m) h ho hi (by omega)
  rw [oob_at h.2.1, obn_at, a1, ocv_at, oob_at v1.2.1, obn_at]
  have e1 := h.kd r1 he (by omega)
  have l1 : σ1.2.1 = σ.2.1 := by rw [z1]
  have q1 : cQn pp ee f σ1 D nm ν cd nf (at' + 1) := (hq.kf h r1).le (Nat.le_succ _)
  obtain ⟨m1, hm1⟩ : ∃ m1, m = m1 + 1 := ⟨m - 1, by omega⟩
  obtain ⟨σ2, at2, bd2, nf2, r, mk, l, nd, b1, v2, o2, f2, e2, ⟨b5, b6⟩, ⟨b7, b7b, -⟩, b8⟩ := c_idx (κ := κ) (T := T) (m := m1) v1 o1 q1 e1 rfl (Or.inl (by omega)) (by omega) hT hwl
  rw [← hm1] at b1
  rw [b1, ocv_at, oob_at v2.2.1, obn_at]
  obtain ⟨σ3, at3, bd3, x1, v3, o3, r3, z3, k3, x5⟩ := c_expect (κ := κ) (T := T) (k := 61) (n := m) v2 o2 (by decide) (by omega)
  have x1' : oF κ T m 108 [va_rf (some (A 0)), .int 61] σ2 = some (none, σ3) := x1
  rw [x1', ocv_at, oob_at v3.2.1, obn_at]
  have e3 := v2.kd r3 e2 (by omega)
  have g3 := fl_ms o3 (fun i hi => (o2.at hi).1) x5
  obtain ⟨S, hS⟩ := aTrI (aIx kk T (at' + 1))
  have N3 : ∀ i, aTo ((aIx kk T (at' + 1)).st) (aMs kk 61) = .inr i → cQn pp ee f σ3 D nm (nPs f pp ee S.2 (nUse f pp ee (at' + 1) ν)) cd nf2 i := fun i hi => by
    obtain ⟨i2, u, h2, m2⟩ := aTo_inr hi
    obtain ⟨S', hS'⟩ := st_inr h2
    obtain ⟨su, w1, w2, w3, w4, w5, w6⟩ := b8 S' i2 hS'
    rw [hS _ _ hS'] at w5
    exact (w5.le (by have := (aMs_inr m2).2; omega)).kf v2 r3
  obtain ⟨σ4, at4, bd4, nf4, fl4, su4, na4, ta4, cap4, L4, pl4, c1, v4, o4, r4, ⟨c2, c3, c4, c4b⟩, -, ⟨c10, c11⟩, ⟨c12, c13⟩, c14⟩ := c_sumQ (κ := κ) (T := T) (m := m) (nm := nm) (ν := nPs f pp ee S.2 (nUse f pp ee (at' + 1) ν)) v3 o3 N3 (by omega) hT hwl
  rw [c1, orn_at]
  have e4 := v3.kd r4 e3 (by omega)
  obtain ⟨σ5, p5, v5, e5, f5, z5, k5, Q5⟩ := w_put (k := 16) (v := va_rf (some σ3.2.1)) v4 e4 rfl (by decide)
  rw [p5, obn_at, oob_at v5.2.1, obn_at]
  obtain ⟨σ6, at6, bd6, y1, v6, o6, r6, z6, k6, y5⟩ := c_expect (κ := κ) (T := T) (k := 59) (n := m) v5 o4 (by decide) (by omega)
  have y1' : oF κ T m 108 [va_rf (some (A 0)), .int 59] σ5 = some (none, σ6) := y1
  rw [y1', ocv_at, oob_at v6.2.1, obn_at]
  have e6 := v5.kd r6 e5 (by omega)
  have g6 := fl_ms o6 (fun i hi => (o4.at hi).1) y5
  obtain ⟨S2, hS2⟩ := aTrS (aTo ((aIx kk T (at' + 1)).st) (aMs kk 61)) (aSm kk T)
  have N6 : ∀ i, aTo (aTo (aTo ((aIx kk T (at' + 1)).st) (aMs kk 61)) (aSm kk T)) (aMs kk 59) = .inr i → cQn pp ee f σ6 D nm (nPs f pp ee S2.2 (nPs f pp ee S.2 (nUse f pp ee (at' + 1) ν))) cd nf4 i := fun i hi => by
    obtain ⟨i4, u, h4, m4⟩ := aTo_inr hi
    obtain ⟨i3, t, h3, d3⟩ := aTo_inr h4
    obtain ⟨w1, w2, w3, w4⟩ := c14 i3 t i4 h3 d3
    rw [hS2 _ _ _ h3 d3] at w4
    exact ((Q5 _ _ _ w4).le (by have := (aMs_inr m4).2; omega)).kf v5 r6
  rw [show nI dp + 1 = nI (dp + 1) by rw [nI_1]]
  obtain ⟨σ7, D7, at7, am7, bd7, nf7, ff7, nm7, x, fx, y1, v7, o7, r7, ⟨y2, y3, y3b⟩, y4, y5'⟩ := HE σ6 D at6 cd cn am bd6 nf4 ff _ nm (nPs f pp ee S2.2 (nPs f pp ee S.2 (nUse f pp ee (at' + 1) ν))) v6 o6 (by omega) N6
  rw [y1, orn_at]
  have e7 := v6.kd r7 e6 (by omega)
  obtain ⟨σF, pF, vF, eF, fF, zF, kF, QF⟩ := w_put (k := 12) (v := va_rf (some x)) v7 e7 rfl (by decide)
  rw [pF, obn_at]
  have F4 : cFe A e σ4 D σF D7 := ((f5.tr (r6.fe e)).tr (r7.fe e)).tr fF
  have F2 : cFe A e σ2 D σF D7 := ((r3.fe e).tr (r4.fe e)).tr F4
  have l6 : e < σ6.2.1 := alt v6.1.1.1 e6
  have l3 : e < σ3.2.1 := alt v3.1.1.1 e3
  have hst := aSe_st kk T G at'
  refine ⟨σF, D7, at7, am7, bd7, nf7, ff7, nm7, _, rfl, vF, by rw [hst]; exact o7, ((r1.fe e).tr f2).tr F2, ⟨eF, rfl⟩, ?_, fun t j hF => ?_⟩
  · have S := sv_se kk T G at'
    rw [hst]
    have t4 := y4
    unfold cEx at t4 ⊢
    have n1 := fl_to ((aIx kk T (at' + 1)).st) (aMs kk 61)
    have n2 := fl_to (aTo ((aIx kk T (at' + 1)).st) (aMs kk 61)) (aSm kk T)
    have n3 := fl_to (aTo (aTo ((aIx kk T (at' + 1)).st) (aMs kk 61)) (aSm kk T)) (aMs kk 59)
    have n4 := fl_to (aTo (aTo (aTo ((aIx kk T (at' + 1)).st) (aMs kk 61)) (aSm kk T)) (aMs kk 59)) G
    have n5 := fl_le (aTo (aTo (aTo (aTo ((aIx kk T (at' + 1)).st) (aMs kk 61)) (aSm kk T)) (aMs kk 59)) G)
    rw [show fl (.inr at') = 0 from rfl]
    have q1 : σ1.2.2 = σ.2.2 := by rw [z1]
    have q3 : σ3.2.2 = σ2.2.2 := by rw [z3]
    have q6 : σ6.2.2 = σ4.2.2 := by rw [z6, z5]
    have qF : σF.2.2 = σ7.2.2 := by rw [zF]
    rw [q1] at b5 b6
    rw [q3] at c10 c11
    rw [q6] at t4
    rw [qF]
    omega
  · obtain ⟨S', i2, i3, S2', i4, i6, ta', d1, d2, d3, d4, d5, rfl⟩ := aSe_eq hF
    have hS' := hS _ _ d1
    subst hS'
    have T2 : (aIx kk T (at' + 1)).st = .inr i2 := by rw [d1]; rfl
    have T3 := aTo_eq T2 d2
    have T4 := aTo_eq T3 d3
    have T6 := aTo_eq T4 d4
    have hS2' := hS2 _ _ _ T3 d3
    subst hS2'
    obtain ⟨su, w1, w2, w3, w4, w5, w6⟩ := b8 S' i2 d1
    obtain ⟨B1, B2, B3, B4⟩ := c14 i3 S2' i4 T3 d3
    obtain ⟨t1, t2, t3, t4, t5, t6⟩ := y5' i6 ta' j T6 d5
    have E1 : nRes f pp ee nm (nPs f pp ee S'.2 (nUse f pp ee (at' + 1) ν)) = nRes f pp ee nm ν := by rw [nRes_ps, nRes_use]
    rw [E1] at B3
    have n1 : (nPs f pp ee S2'.2 (nPs f pp ee S'.2 (nUse f pp ee (at' + 1) ν))).1 = ν.1 := by rw [(nPs_12 _ _).1, (nPs_12 _ _).1, (nUse_12 _ _).1]
    have i3e := (aMs_inr d2).2
    have i6e := (aMs_inr d4).2
    have i4e := (aSm_1 d3).2
    have envlt : ∀ u ∈ ν.1, u < at' := fun u hu => hq.2.1 u (Or.inl hu)
    have ER : nR f pp ee nm7 ν.1 = nRes f pp ee nm ν := by rw [nRes_R]; exact nR_cg (fun u hu => t3 u (by have := envlt u hu; omega))
    have y41 := y4.1
    have K2 : cKp κ A D σ1.2.1 σ2 D7 e σF := cKp.fe v2 F2 e2 eF (by omega) (by omega) vF.low
    have K4 : cKp κ A D σ3.2.1 σ4 D7 e σF := cKp.fe v4 F4 e4 eF l3 (by omega) vF.low
    refine ⟨?_, QF _ _ _ t2, fun u hu => t3 u (by omega), ?_, ?_, fun x hx => t6 x hx⟩
    · unfold cTr
      rw [ER, hq.1.1]
      refine ⟨⟨Nat.le_refl _, alt vF.1.1.1 eF, cMu.no vF eF (by omega)⟩, x, l, σ3.2.1, nd, su, su4, ?_, w3.kp K2, B3.kp K4, w4.kp K2, ?_⟩
      · rw [eF, w1, w2]; rfl
      · have G' := cTr.go (lo := e) (fk := D.1.2.2.2.2.2) (g := fun _ => none) (k := 0) (x := x) v7 fF e7 eF l6 (by omega) vF.low t2.2.1 (fun _ _ => rfl) (Nat.le_refl _) (by omega) (fun _ _ => rfl) t1
        rw [n1] at G'
        exact G'
    · rw [t4, n1]
      rfl
    · rw [t5]
      show _ = _ + (0 + nF ta' + nF tZ)
      rw [show nF tZ = 0 from rfl]
      omega
/-- Sum.of(name, 1, 0) -/
theorem c_of {r : Option Nat} (h : cV κ sz len cnt kk pp ee f A nq ni rt σ D at' cd cn am bd nf ff) (hr : ∀ b, r = some b → ∃ fs, σ.1 b = some (.inr (6, fs))) (hm : 6 ≤ m) (hT : 2010 ≤ T) : ∃ σ' na ta, oF κ T (m + 1) 11 [va_rf r, .int 1, .long 0] σ = some (some (va_rf (some σ.2.1)), σ') ∧ cV κ sz len cnt kk pp ee f A nq ni rt σ' D at' cd cn am bd nf ff ∧ cFr A σ D σ' D ∧ (∀ a, a < σ.2.1 → σ'.1 a = σ.1 a) ∧ (cSm σ' σ.2.1 na ta 2 (sNo r 1 []) 0 ∧ σ.2.1 ≤ na ∧ na < σ'.2.1 ∧ σ.2.1 ≤ ta ∧ ta < σ'.2.1) ∧ σ'.2 = (σ.2.1 + 3, σ.2.2.1 + 3, σ.2.2.2 + 8) := by
  obtain ⟨m1, hm1⟩ : ∃ m1, m = m1 + 4 := ⟨m - 4, by omega⟩
  have fr := h.1.1.1
  rw [oE_X9_of]
  unfold ob_X9_of
  rw [oq_11, olet_at, obn_at]
  have e0 : (onew σ (.inr (11, odef 11)) 4).1 σ.2.1 = some (.inr (11, odef 11)) := onew_eq _ _ _
  have k0 : ∀ a, a ≠ σ.2.1 → (onew σ (.inr (11, odef 11)) 4).1 a = σ.1 a := fun a ha => onew_ne ha
  have z0 : (onew σ (.inr (11, odef 11)) 4).2 = (σ.2.1 + 1, σ.2.2.1 + 1, σ.2.2.2 + 4) := rfl
  generalize onew σ (.inr (11, odef 11)) 4 = σ0 at e0 k0 z0 ⊢
  have z01 : σ0.2.1 = σ.2.1 + 1 := by rw [z0]
  have fr0 : ∀ q, σ0.2.1 ≤ q → σ0.1 q = none := fun q hq => by rw [k0 q (by omega)]; exact fr q (by omega)
  obtain ⟨σ1, x1, x2, x3, x4, x5⟩ := x_init (κ := κ) (T := T) (n := m1 + 3) e0 fr0
  rw [show m1 + 3 + 1 = m by omega] at x1
  rw [z01] at x2 x3 x4
  have z1 : σ1.2 = (σ.2.1 + 3, σ.2.2.1 + 3, σ.2.2.2 + 8) := by rw [x5, z0]
  have z11 : σ1.2.1 = σ.2.1 + 3 := by rw [z1]
  have A1 : ∀ a, a < σ.2.1 → σ1.1 a = σ.1 a := fun a ha => by rw [x3 a (by omega) (by omega), k0 a (by omega)]
  rw [x1, ocv_at, if_neg (by decide)]
  unfold oj_X9_of_20
  have SM : ∃ σ2, oF κ T m 10 [va_rf (some σ.2.1), va_rf r, .int 1] σ1 = some (none, σ2) ∧ cSm σ2 σ.2.1 (σ.2.1 + 1) (σ.2.1 + 1 + 1) 2 (sNo r 1 []) 0 ∧ (∀ a, a < σ.2.1 → σ2.1 a = σ.1 a) ∧ (∀ q, σ2.2.1 ≤ q → σ2.1 q = none) ∧ σ2.2 = σ1.2 := by
    cases r with
    | none =>
      refine ⟨σ1, ?_, x2, A1, fun q hq => x4 q (by omega), rfl⟩
      rw [show m = (m1 + 3) + 1 by omega]
      exact x_add0
    | some b =>
      obtain ⟨fs, eb⟩ := hr b rfl
      have eb1 : σ1.1 b = some (.inr (6, fs)) := by rw [A1 b (alt fr eb)]; exact eb
      obtain ⟨σ2, na2, ta2, cap2, u1, u2, u3, u4, u5⟩ := x_add (κ := κ) (T := T) (n := m1 + 1) (v := 1) x2 (Nat.zero_le _) eb1 (fun q hq => x4 q (by omega)) hT
      rw [show m1 + 1 + 3 = m by omega] at u1
      rcases u5 with ⟨t1, t2, t3, t4⟩ | ⟨t1, t2, t3, t4, t5⟩
      · subst t1
        subst t2
        subst t3
        exact ⟨σ2, u1, u2, fun a ha => by rw [u3 a (by omega) (by omega) (by omega) (by omega)]; exact A1 a ha, u4, t4⟩
      · exact absurd t3 (by decide)
  obtain ⟨σ2, y1, y2, y3, y4, y5⟩ := SM
  have w1 : ∃ fs, σ1.1 σ.2.1 = some (.inr (11, fs)) := by obtain ⟨_, _, w, -⟩ := x2; exact ⟨_, w⟩
  obtain ⟨fs1, w1⟩ := w1
  have w2 : ∃ L, σ2.1 σ.2.1 = some (.inr (11, [.ref (σ.2.1 + 1), .ref (σ.2.1 + 1 + 1), .int L, .long 0])) := by obtain ⟨_, _, w, -⟩ := y2; exact ⟨_, w⟩
  obtain ⟨L, w2⟩ := w2
  have pe : opf σ2 (some σ.2.1) 11 3 (.long 0) = some (oput σ2 σ.2.1 (.inr (11, [.ref (σ.2.1 + 1), .ref (σ.2.1 + 1 + 1), .int L, .long 0]))) := opf_at w2 (show 3 < 4 by decide)
  rw [oob_at w1, obn_at, y1, ocv_at, pe, obn_at]
  have same : ∀ a, (oput σ2 σ.2.1 (.inr (11, [.ref (σ.2.1 + 1), .ref (σ.2.1 + 1 + 1), .int L, .long 0]))).1 a = σ2.1 a := fun a => by
    by_cases c : a = σ.2.1
    · rw [c, oput_eq, w2]
    · exact oput_ne c
  have z2 : σ2.2.1 = σ.2.1 + 3 := by rw [y5, z1]
  have lt2 : (oput σ2 σ.2.1 (.inr (11, [.ref (σ.2.1 + 1), .ref (σ.2.1 + 1 + 1), .int L, .long 0]))).2 = (σ.2.1 + 3, σ.2.2.1 + 3, σ.2.2.2 + 8) := (show _ = σ2.2 from rfl).trans (y5.trans z1)
  generalize oput σ2 σ.2.1 (.inr (11, [.ref (σ.2.1 + 1), .ref (σ.2.1 + 1 + 1), .int L, .long 0])) = σ3 at same lt2 ⊢
  have z3 : σ3.2.1 = σ.2.1 + 3 := by rw [lt2]
  obtain ⟨v3, r3⟩ := h.ex (σ' := σ3) (fun a ha => (same a).trans (y3 a ha)) (fun q hq => (same q).trans (y4 q (by omega))) (by omega)
  exact ⟨σ3, σ.2.1 + 1, σ.2.1 + 1 + 1, rfl, v3, r3, fun a ha => (same a).trans (y3 a ha), ⟨y2.keep (fun a _ => same a) (fun a fs ea => ⟨fs, (same a).trans ea⟩), by omega, by omega, by omega, by omega⟩, lt2⟩
end CRB
