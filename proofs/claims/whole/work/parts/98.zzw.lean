/-! the class's parser: an E that no keyword begins -/
/-- a reader of an E beside whose node another was made -/
def cOc (κ : oKv) (sz T len cnt : Nat) (kk pp ee f : Nat → Int32) (A : Nat → Nat) (nq ni : Int32) (rt : Value) (mi dp m : Nat) (F : Nat → aR tT) : Prop := ∀ (σ : oSt) (D : cDt) (at' cd : Nat) (cn am bd nf ff : Int32) (s : Sum Nat Nat) (nm : Nat → Option Nat) (ν : nSt), cV κ sz len cnt kk pp ee f A nq ni rt σ D at' cd cn am bd nf ff → cO pp cnt at' bd s → cd ≤ 12 + 6 * dp → (∀ i, s = .inr i → cQn pp ee f σ D nm ν cd nf i) → ∃ σ' D' at2 am2 bd2 nf2 ff2 nm' e fs, oF κ T m mi [va_rf (some (A 0)), .int (nI dp)] σ = some (some (va_rf (some e)), σ') ∧ cV κ sz len cnt kk pp ee f A nq ni rt σ' D' at2 cd cn am2 bd2 nf2 ff2 ∧ cL kk pp cnt at2 bd2 (aTo s F) ∧ cFr A σ D σ' D' ∧ (σ.2.1 ≤ e ∧ σ'.1 e = some (.inr (7, fs)) ∧ fs.length = 21) ∧ cEx 1 21 (svA s F) σ D at' s σ' D' at2 (aTo s F) ∧ (∀ i t j, s = .inr i → F i = .inr (t, j) → cPo κ T kk pp ee f A σ.2.1 D cd cn ff nm ν σ' D' nf2 ff2 nm' e i t j)
section CRH
variable {κ : oKv} {sz T n m len cnt : Nat} {kk pp ee f : Nat → Int32} {A : Nat → Nat} {nq ni : Int32} {rt : Value} {σ σ' : oSt} {D D' : cDt} {at' cd : Nat} {cn am bd nf ff : Int32} {s : Sum Nat Nat} {nm nm' : Nat → Option Nat} {ν : nSt} {lo e i : Nat}
set_option maxHeartbeats 4000000 in
/-- an S, or two with a sign -/
theorem c_oq (hm : 12 ≤ m) (hT : 2010 ≤ T) (hwl : ∀ j, j < cnt → wL pp ee j ≤ 10) (h : cV κ sz len cnt kk pp ee f A nq ni rt σ D at' cd cn am bd nf ff) (ho : cO pp cnt at' bd s) (hq : ∀ i, s = .inr i → cQn pp ee f σ D nm ν cd nf i) : ∃ σ' at2 bd2 nf2 e fs, (obn (oob σ (some (A 0)) 9) fun a6 =>
      orn (oF κ T m 121 [va_rf (some (A 0))] σ) fun r10 s8 =>
      obn (oob s8 (some (A 0)) 9) fun a11 =>
      oin (oF κ T m 104 [va_rf (some (A 0))] s8) fun r15 s13 =>
      if r15 = 42 then
        oj_X7_readOpen_94 T (oF κ T m) κ (some (A 0)) r10 s13
      else
        obn (oob s13 (some (A 0)) 9) fun a17 =>
        oin (oF κ T m 104 [va_rf (some (A 0))] s13) fun r21 s19 =>
        if r21 = 47 then
          oj_X7_readOpen_94 T (oF κ T m) κ (some (A 0)) r10 s19
        else
          obn (oob s19 (some (A 0)) 9) fun a23 =>
          oin (oF κ T m 104 [va_rf (some (A 0))] s19) fun r27 s25 =>
          if r27 = 37 then
            oj_X7_readOpen_94 T (oF κ T m) κ (some (A 0)) r10 s25
          else
            some (some (va_rf r10), s25)) = some (some (va_rf (some e)), σ') ∧ cV κ sz len cnt kk pp ee f A nq ni rt σ' D at2 cd cn am bd2 nf2 ff ∧ cO pp cnt at2 bd2 (aTo s (aOq kk T)) ∧ cFr A σ D σ' D ∧ (σ.2.1 ≤ e ∧ σ'.1 e = some (.inr (7, fs)) ∧ fs.length = 21) ∧ cEx 1 21 (svA s (aOq kk T)) σ D at' s σ' D at2 (aTo s (aOq kk T)) ∧ (∀ i t j, s = .inr i → aOq kk T i = .inr (t, j) → cPo κ T kk pp ee f A σ.2.1 D cd cn ff nm ν σ' D nf2 ff nm e i t j) := by
  obtain ⟨σ1, at1, bd1, nf1, fs1, su, na, ta, cap, L, pl, b1, v1, o1, r1, ⟨b2, b3, b4, b4b⟩, -, ⟨b10, b11⟩, ⟨b12, b13⟩, b14⟩ := c_sumQ (κ := κ) (T := T) (m := m) (nm := nm) (ν := ν) h ho hq (by omega) hT hwl
  rw [oob_at h.2.1, obn_at, b1, orn_at, oob_at v1.2.1, obn_at, c_kind (n := m) v1 o1 (by omega), oin_at]
  have lw : ∀ j t, s = .inr j → ∀ k, aSm kk T j = .inr (t, k) → at' = j ∧ at1 = k := fun j t hs k hk => ⟨(ho.at hs).1, (o1.at (aTo_eq hs hk)).1⟩
  -- with a sign
  have SGN : ∀ (k g : Nat) (i1 : Nat), ((k = 42 ∧ g = 11) ∨ (k = 47 ∧ g = 12) ∨ (k = 37 ∧ g = 13)) → aTo s (aSm kk T) = .inr i1 → kk i1 = nI k → (∀ i S, s = .inr i → aSm kk T i = .inr (S, i1) → aOq kk T i = (aSm kk T (i1 + 1)).on fun s' j' => .inr (tN g i i1 0 S s' tZ tZ, j')) → ∃ σ' at2 bd2 nf2 e fs, oj_X7_readOpen_94 T (oF κ T m) κ (some (A 0)) (some σ.2.1) σ1 = some (some (va_rf (some e)), σ') ∧ cV κ sz len cnt kk pp ee f A nq ni rt σ' D at2 cd cn am bd2 nf2 ff ∧ cO pp cnt at2 bd2 (aTo s (aOq kk T)) ∧ cFr A σ D σ' D ∧ (σ.2.1 ≤ e ∧ σ'.1 e = some (.inr (7, fs)) ∧ fs.length = 21) ∧ cEx 1 21 (svA s (aOq kk T)) σ D at' s σ' D at2 (aTo s (aOq kk T)) ∧ (∀ i t j, s = .inr i → aOq kk T i = .inr (t, j) → cPo κ T kk pp ee f A σ.2.1 D cd cn ff nm ν σ' D nf2 ff nm e i t j) := fun k g i1 hkg hs1 hkk hOq => by
    have at1e := (o1.at hs1).1
    subst at1e
    obtain ⟨i0, S, hs0, hS⟩ := aTo_inr hs1
    subst hs0
    have at0 := (ho.at rfl).1
    subst at0
    have eO := hOq _ S rfl hS
    rw [hs1] at o1 b13
    have hlt : at1 < cnt := by
      by_cases q : at1 < cnt
      · exact q
      · have : at1 = cnt := by have := o1.2.2; omega
        rw [this, v1.1.2.2.2.2.2.1] at hkk
        have := nI_inj' (a := 0) (by omega) (by omega) hkk
        omega
    unfold oj_X7_readOpen_94
    rw [olet_at, oq_7]
    obtain ⟨v2, r2⟩ := v1.nw (.inr (7, odef 7)) 21
    have n2 : (onew σ1 (.inr (7, odef 7)) 21).1 σ1.2.1 = some (.inr (7, odef 7)) := onew_eq _ _ _
    have k2 : ∀ a, a ≠ σ1.2.1 → (onew σ1 (.inr (7, odef 7)) 21).1 a = σ1.1 a := fun a ha => onew_ne ha
    have z2 : (onew σ1 (.inr (7, odef 7)) 21).2 = (σ1.2.1 + 1, σ1.2.2.1 + 1, σ1.2.2.2 + 21) := rfl
    generalize onew σ1 (.inr (7, odef 7)) 21 = σ2 at v2 r2 n2 k2 z2 ⊢
    have z21 : σ2.2.1 = σ1.2.1 + 1 := by rw [z2]
    have ll : σ.2.1 < σ1.2.1 := alt v1.1.1.1 b2
    have l2 := (k2 σ.2.1 (by omega)).trans b2
    have f1 : ofd σ2 (some σ.2.1) 7 1 = some (.int (pp at')) := by rw [ofd_at l2]; exact b4b
    obtain ⟨m1, hm1⟩ : ∃ m1, m = m1 + 1 := ⟨m - 1, by omega⟩
    have NI := n_init (κ := κ) (T := T) (n := m1) (k := kk at1) (pl := pp at') (c := nI cd) n2
    rw [← hm1] at NI
    rw [oob_at v2.2.1, obn_at, c_kind (n := m) v2 o1 (by omega), oin_at, f1, ovi_i, obn_at, w_f12 v2, ovi_i, obn_at, obn_at, show cK kk (.inr at1) = kk at1 from rfl, NI, ocv_at]
    have v3 := v2.fl (fs' := cNd (kk at1) (pp at') (nI cd)) n2 (by omega)
    have n3 : (oput σ2 σ1.2.1 (.inr (7, cNd (kk at1) (pp at') (nI cd)))).1 σ1.2.1 = some (.inr (7, cNd (kk at1) (pp at') (nI cd))) := oput_eq _ _ _
    have f3 : cFe A σ1.2.1 σ2 D (oput σ2 σ1.2.1 (.inr (7, cNd (kk at1) (pp at') (nI cd)))) D := cFe.put
    have z3 : (oput σ2 σ1.2.1 (.inr (7, cNd (kk at1) (pp at') (nI cd)))).2 = (σ1.2.1 + 1, σ1.2.2.1 + 1, σ1.2.2.2 + 21) := z2
    generalize oput σ2 σ1.2.1 (.inr (7, cNd (kk at1) (pp at') (nI cd))) = σ3 at v3 n3 f3 z3 ⊢
    rw [oob_at v3.2.1, obn_at, c_here (n := m) v3 (by omega), oin_at]
    obtain ⟨σ4, p4, v4, e4, f4, z4, k4, Q4⟩ := w_put (k := 3) (v := .int (pp at1)) v3 n3 rfl (by decide)
    rw [p4, obn_at, oob_at v4.2.1, obn_at]
    obtain ⟨σ5, a5, v5, o5, r5, z5, k5⟩ := w_next (κ := κ) (T := T) (n := m) v4 o1 hlt (by omega)
    have e5 := v4.kd r5 e4 (by omega)
    obtain ⟨σ6, p6, v6, e6, f6, z6, k6, Q6⟩ := w_put (k := 15) (v := va_rf (some σ.2.1)) v5 e5 rfl (by decide)
    rw [a5, ocv_at, p6, obn_at, oob_at v6.2.1, obn_at]
    obtain ⟨B1, B2, B3, B4⟩ := b14 _ S at1 rfl hS
    have F16 : cFe A σ1.2.1 σ1 D σ6 D := ((((r2.fe _).tr f3).tr f4).tr (r5.fe _)).tr f6
    have Q6' : cQn pp ee f σ6 D nm (nPs f pp ee S.2 ν) cd nf1 (at1 + 1) := (B4.kf v1 (F16.fr (Nat.le_refl _))).le (Nat.le_succ _)
    obtain ⟨σ7, at7, bd7, nf7, fs7, su7, na7, ta7, cap7, L7, pl7, c1, v7, o7, r7, ⟨c2, c3, c4, c4b⟩, -, ⟨c10, c11⟩, ⟨c12, c13⟩, c14⟩ := c_sumQ (κ := κ) (T := T) (m := m) (nm := nm) (ν := nPs f pp ee S.2 ν) v6 o5 (fun i hi => by cases hi; exact Q6') (by omega) hT hwl
    have e7 := v6.kd r7 e6 (by omega)
    have l6 : σ1.2.1 < σ6.2.1 := alt v6.1.1.1 e6
    obtain ⟨σ8, p8, v8, e8, f8, z8, k8, Q8⟩ := w_put (k := 16) (v := va_rf (some σ6.2.1)) v7 e7 rfl (by decide)
    have g0 : ofd σ8 (some σ1.2.1) 7 0 = some (.int (kk at1)) := by rw [ofd_at e8]; rfl
    rw [c1, orn_at, p8, obn_at, g0, ovi_i, obn_at]
    have st : aTo (.inr at') (aOq kk T) = aTo (.inr (at1 + 1)) (aSm kk T) := by
      rw [aTo_ok, aTo_ok, eO]
      cases aSm kk T (at1 + 1) <;> rfl
    have F18 : cFe A σ1.2.1 σ1 D σ8 D := (F16.tr (r7.fe _)).tr f8
    have q1 : σ6.2.2.1 = σ1.2.2.1 + 1 := by rw [z6, z5, z4, z3]
    have q1' : σ6.2.2.2 = σ1.2.2.2 + 21 := by rw [z6, z5, z4, z3]
    have q8 : σ8.2.2 = σ7.2.2 := by rw [z8]
    have ltS := (aSm_1 hS).2
    -- the end of both
    have FIN : ∀ (σF : oSt) (c : Option Nat), cV κ sz len cnt kk pp ee f A nq ni rt σF D at7 cd cn am bd7 nf7 ff → σF.1 σ1.2.1 = some (.inr (7, (((((cNd (kk at1) (pp at') (nI cd)).set 3 (.int (pp at1))).set 15 (va_rf (some σ.2.1))).set 16 (va_rf (some σ6.2.1))).set 17 (va_rf c)))) → cFe A σ1.2.1 σ8 D σF D → (σF.2.2.1 ≤ σ8.2.2.1 + 1 ∧ σF.2.2.2 ≤ σ8.2.2.2 + 21) → ((g = 11 ∧ c = none) ∨ (g ≠ 11 ∧ ∃ c', c = some c' ∧ ∃ pl, σF.1 c' = some (.inr (7, cEf pl (nI cd) 35 (.ref su7))) ∧ σ.2.1 ≤ c')) → ∃ σ' at2 bd2 nf2 e fs, (some (some (va_rf (some σ1.2.1)), σF) : oRs) = some (some (va_rf (some e)), σ') ∧ cV κ sz len cnt kk pp ee f A nq ni rt σ' D at2 cd cn am bd2 nf2 ff ∧ cO pp cnt at2 bd2 (aTo (.inr at') (aOq kk T)) ∧ cFr A σ D σ' D ∧ (σ.2.1 ≤ e ∧ σ'.1 e = some (.inr (7, fs)) ∧ fs.length = 21) ∧ cEx 1 21 (svA (.inr at') (aOq kk T)) σ D at' (.inr at') σ' D at2 (aTo (.inr at') (aOq kk T)) ∧ (∀ i t j, (Sum.inr at' : Sum Nat Nat) = .inr i → aOq kk T i = .inr (t, j) → cPo κ T kk pp ee f A σ.2.1 D cd cn ff nm ν σ' D nf2 ff nm e i t j) := fun σF c vF eF fF cF hc => by
      refine ⟨σF, at7, bd7, nf7, σ1.2.1, _, rfl, vF, by rw [st]; exact o7, r1.tr ((F18.tr fF).fr (Nat.le_refl _)), ⟨by omega, eF, rfl⟩, ?_, fun i t j hi ht => ?_⟩
      · have S : svA (.inr at') (aOq kk T) = 0 := svA_0 (fun i t j hi ht => by
          injection hi with hi
          subst hi
          rw [eO] at ht
          obtain ⟨s', j', h1, ht⟩ := on_inr ht
          injection ht with ht
          injection ht with ht1 ht2
          rw [← ht1]
          rcases hkg with ⟨-, rfl⟩ | ⟨-, rfl⟩ | ⟨-, rfl⟩ <;> rfl)
        rw [st]
        unfold cEx
        rw [show fl (.inr at') = 0 from rfl]
        have w1 := cF.1
        have w2 := cF.2
        rw [q8] at w1 w2
        omega
      · injection hi with hi
        subst hi
        rw [eO] at ht
        obtain ⟨S', j1, h1, ht⟩ := on_inr ht
        injection ht with ht
        injection ht with ht1 ht2
        subst ht1
        subst ht2
        obtain ⟨C1, C2, C3, C4⟩ := c14 (at1 + 1) S' j1 rfl h1
        rw [nRes_ps] at C3
        have K1 : cKp κ A D σ.2.1 σ1 D σ.2.1 σF := cKp.fr v1 ((F18.tr fF).fr (Nat.le_refl _)) (Nat.le_refl _) vF.low
        have K7 : cKp κ A D σ6.2.1 σ7 D σ.2.1 σF := cKp.fe v7 (f8.tr fF) e7 eF l6 (by omega) vF.low
        have SL := B3.kp K1
        have SR := C3.kp K7
        have ok : cOk A D σ.2.1 σF σ1.2.1 := ⟨by omega, alt vF.1.1.1 eF, cMu.no vF eF (by omega)⟩
        have QF : cQn pp ee f σF D nm (nPs f pp ee S'.2 (nPs f pp ee S.2 ν)) cd nf7 j1 := ⟨C4.1.gn (v7.tyE e7 (f8.tr fF)), C4.2⟩
        have hl := (hq _ rfl).1.1
        rw [nRes_R] at SL SR
        refine ⟨?_, ?_, fun _ _ => rfl, ?_, ?_, fun _ _ => rfl⟩
        · rcases hkg with ⟨rfl, rfl⟩ | ⟨rfl, rfl⟩ | ⟨rfl, rfl⟩
          · rcases hc with ⟨-, rfl⟩ | ⟨w, -⟩
            · refine ⟨ok, σ.2.1, σ6.2.1, su, su7, ?_, ?_, ?_⟩
              · rw [eF, hkk, hl]; rfl
              · rw [hl]; exact SL
              · rw [hl]; exact SR
            · exact absurd rfl w
          · rcases hc with ⟨w, -⟩ | ⟨-, c', rfl, pl, w1, w2⟩
            · exact absurd w (by decide)
            · refine ⟨ok, σ.2.1, σ6.2.1, c', su, su7, ?_, ?_, ?_, ⟨w2, alt vF.1.1.1 w1, cMu.no vF w1 (by omega)⟩, pl, ?_⟩
              · rw [eF, hkk, hl]; rfl
              · rw [hl]; exact SL
              · rw [hl]; exact SR
              · rw [hl]; exact w1
          · rcases hc with ⟨w, -⟩ | ⟨-, c', rfl, pl, w1, w2⟩
            · exact absurd w (by decide)
            · refine ⟨ok, σ.2.1, σ6.2.1, c', su, su7, ?_, ?_, ?_, ⟨w2, alt vF.1.1.1 w1, cMu.no vF w1 (by omega)⟩, pl, ?_⟩
              · rw [eF, hkk, hl]; rfl
              · rw [hl]; exact SL
              · rw [hl]; exact SR
              · rw [hl]; exact w1
        · rcases hkg with ⟨rfl, rfl⟩ | ⟨rfl, rfl⟩ | ⟨rfl, rfl⟩ <;> exact QF
        · rcases hkg with ⟨rfl, rfl⟩ | ⟨rfl, rfl⟩ | ⟨rfl, rfl⟩ <;> rfl
        · rcases hkg with ⟨rfl, rfl⟩ | ⟨rfl, rfl⟩ | ⟨rfl, rfl⟩ <;> rfl
    by_cases ck : kk at1 = 42
    · rw [if_pos ck]
      unfold oj_X7_readOpen_173
      obtain ⟨σ9, p9, v9, e9, f9, z9, k9, Q9⟩ := w_put (k := 17) (v := va_rf none) v8 e8 rfl (by decide)
      rw [p9, obn_at]
      refine FIN σ9 none v9 e9 f9 ⟨by rw [z9]; omega, by rw [z9]; omega⟩ (Or.inl ⟨?_, rfl⟩)
      rcases hkg with ⟨rfl, rfl⟩ | ⟨rfl, rfl⟩ | ⟨rfl, rfl⟩
      · rfl
      · rw [ck] at hkk; exact absurd hkk (by decide)
      · rw [ck] at hkk; exact absurd hkk (by decide)
    · rw [if_neg ck]
      have g16 : ofd σ8 (some σ1.2.1) 7 16 = some (.ref σ6.2.1) := by rw [ofd_at e8]; rfl
      have l8 := (k8 σ6.2.1 (by omega)).trans c2
      have g19 : ofd σ8 (some σ6.2.1) 7 19 = some (.ref su7) := by rw [ofd_at l8]; exact c4
      rw [g16, ovr_rf, obn_at, g19, ovr_rf, obn_at, oob_at v8.2.1, obn_at]
      obtain ⟨σ9, t1, v9, r9, t2, k9, z9⟩ := c_cpr (κ := κ) (T := T) (m := m1) (su := some su7) (rl := 35) v8 (by omega)
      rw [← hm1] at t1
      rw [t1, orn_at]
      unfold oj_X7_readOpen_173
      have e9 := v8.kd r9 e8 (by omega)
      have l89 : σ1.2.1 < σ8.2.1 := alt v8.1.1.1 e8
      obtain ⟨σ10, p10, v10, e10, f10, z10, k10, Q10⟩ := w_put (k := 17) (v := va_rf (some σ8.2.1)) v9 e9 rfl (by decide)
      rw [p10, obn_at]
      have z91 : σ9.2.2.1 = σ8.2.2.1 + 1 := by rw [z9]
      have z92 : σ9.2.2.2 = σ8.2.2.2 + 21 := by rw [z9]
      refine FIN σ10 (some σ8.2.1) v10 e10 ((r9.fe _).tr f10) ⟨by rw [z10]; omega, by rw [z10]; omega⟩ (Or.inr ⟨?_, σ8.2.1, rfl, _, (k10 _ (by omega)).trans t2, by omega⟩)
      rcases hkg with ⟨rfl, rfl⟩ | ⟨rfl, rfl⟩ | ⟨rfl, rfl⟩
      · exact absurd hkk ck
      · decide
      · decide
  by_cases c42 : cK kk (aTo s (aSm kk T)) = 42
  · rw [if_pos c42]
    obtain ⟨i1, hs1⟩ : ∃ i1, aTo s (aSm kk T) = .inr i1 := by
      cases e : aTo s (aSm kk T) with
      | inl j => rw [e] at c42; exact absurd (show (0 : Int32) = 42 from c42) (by decide)
      | inr i1 => exact ⟨i1, rfl⟩
    rw [hs1] at c42
    have c' : kk i1 = nI 42 := c42
    have c'' : aIs kk 42 i1 = true := decide_eq_true c'
    refine SGN 42 11 i1 (Or.inl ⟨rfl, rfl⟩) hs1 c' (fun i S hi hS => ?_)
    unfold aOq
    rw [hS]
    show (if aIs kk 42 i1 = true then _ else _) = _
    rw [if_pos c'']
  rw [if_neg c42, oob_at v1.2.1, obn_at, c_kind (n := m) v1 o1 (by omega), oin_at]
  have n42 : ∀ i1, aTo s (aSm kk T) = .inr i1 → ¬ aIs kk 42 i1 = true := fun i1 hs1 z => by
    rw [hs1] at c42; exact c42 (of_decide_eq_true z)
  by_cases c47 : cK kk (aTo s (aSm kk T)) = 47
  · rw [if_pos c47]
    obtain ⟨i1, hs1⟩ : ∃ i1, aTo s (aSm kk T) = .inr i1 := by
      cases e : aTo s (aSm kk T) with
      | inl j => rw [e] at c47; exact absurd (show (0 : Int32) = 47 from c47) (by decide)
      | inr i1 => exact ⟨i1, rfl⟩
    rw [hs1] at c47
    have c' : kk i1 = nI 47 := c47
    have c'' : aIs kk 47 i1 = true := decide_eq_true c'
    refine SGN 47 12 i1 (Or.inr (Or.inl ⟨rfl, rfl⟩)) hs1 c' (fun i S hi hS => ?_)
    unfold aOq
    rw [hS]
    show (if aIs kk 42 i1 = true then _ else if aIs kk 47 i1 = true then _ else _) = _
    rw [if_neg (n42 i1 hs1), if_pos c'']
  rw [if_neg c47, oob_at v1.2.1, obn_at, c_kind (n := m) v1 o1 (by omega), oin_at]
  have n47 : ∀ i1, aTo s (aSm kk T) = .inr i1 → ¬ aIs kk 47 i1 = true := fun i1 hs1 z => by
    rw [hs1] at c47; exact c47 (of_decide_eq_true z)
  by_cases c37 : cK kk (aTo s (aSm kk T)) = 37
  · rw [if_pos c37]
    obtain ⟨i1, hs1⟩ : ∃ i1, aTo s (aSm kk T) = .inr i1 := by
      cases e : aTo s (aSm kk T) with
      | inl j => rw [e] at c37; exact absurd (show (0 : Int32) = 37 from c37) (by decide)
      | inr i1 => exact ⟨i1, rfl⟩
    rw [hs1] at c37
    have c' : kk i1 = nI 37 := c37
    have c'' : aIs kk 37 i1 = true := decide_eq_true c'
    refine SGN 37 13 i1 (Or.inr (Or.inr ⟨rfl, rfl⟩)) hs1 c' (fun i S hi hS => ?_)
    unfold aOq
    rw [hS]
    show (if aIs kk 42 i1 = true then _ else if aIs kk 47 i1 = true then _ else if aIs kk 37 i1 = true then _ else _) = _
    rw [if_neg (n42 i1 hs1), if_neg (n47 i1 hs1), if_pos c'']
  rw [if_neg c37]
  have n37 : ∀ i1, aTo s (aSm kk T) = .inr i1 → ¬ aIs kk 37 i1 = true := fun i1 hs1 z => by
    rw [hs1] at c37; exact c37 (of_decide_eq_true z)
  -- an S alone
  have eO : ∀ i S i1, s = .inr i → aSm kk T i = .inr (S, i1) → aOq kk T i = .inr (tN 10 i 0 0 S s0 tZ tZ, i1) := fun i S i1 hi hS => by
    have hs1 := aTo_eq hi hS
    unfold aOq
    rw [hS]
    show (if aIs kk 42 i1 = true then _ else if aIs kk 47 i1 = true then _ else if aIs kk 37 i1 = true then _ else _) = _
    rw [if_neg (n42 i1 hs1), if_neg (n47 i1 hs1), if_neg (n37 i1 hs1)]
  have st : aTo s (aOq kk T) = aTo s (aSm kk T) := by
    cases s with
    | inl j => rfl
    | inr i =>
      cases e : aSm kk T i with
      | inl k => rw [aTo_ok, aTo_ok]; unfold aOq; rw [e]; rfl
      | inr p => obtain ⟨S, i1⟩ := p; rw [aTo_ok, aTo_ok, eO i S i1 rfl e, e]; rfl
  refine ⟨σ1, at1, bd1, nf1, σ.2.1, fs1, rfl, v1, by rw [st]; exact o1, r1, ⟨Nat.le_refl _, b2, b3⟩, ?_, fun i t j hi ht => ?_⟩
  · have S : svA s (aOq kk T) + 70 * fl (aTo s (aSm kk T)) ≤ 70 := by
      cases s with
      | inl j => show 0 + 70 * 1 ≤ 70; omega
      | inr i =>
        cases e : aSm kk T i with
        | inl k =>
          have e0 : aOq kk T i = .inl k := by unfold aOq; rw [e]; rfl
          rw [svA_ok, aTo_ok, e0, e]
          show 0 + 70 * 1 ≤ 70
          omega
        | inr p =>
          obtain ⟨S, i1⟩ := p
          rw [svA_ok, aTo_ok, eO i S i1 rfl e, e]
          show 70 + (0 + 0) + 70 * 0 ≤ 70
          omega
    rw [st]
    unfold cEx
    have w1 := fl_le s
    have w2 := fl_to s (aSm kk T)
    have w3 := fl_le (aTo s (aSm kk T))
    omega
  · obtain ⟨S, i1, hS⟩ : ∃ S i1, aSm kk T i = .inr (S, i1) := by
      cases e : aSm kk T i with
      | inl k => unfold aOq at ht; rw [e] at ht; cases ht
      | inr p => exact ⟨p.1, p.2, rfl⟩
    rw [eO i S i1 hi hS] at ht
    injection ht with ht
    injection ht with ht1 ht2
    subst ht1
    subst ht2
    obtain ⟨B1, B2, B3, B4⟩ := b14 i S i1 hi hS
    refine ⟨⟨su, ?_⟩, B4, fun _ _ => rfl, rfl, rfl, fun _ _ => rfl⟩
    rw [(hq i hi).1.1]
    exact B3
end CRH
