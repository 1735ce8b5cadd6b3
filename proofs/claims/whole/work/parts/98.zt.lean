/-! the class's parser: those behind the first && and || -/
section CQG
variable {κ : oKv} {sz T n m len cnt : Nat} {kk pp ee f : Nat → Int32} {A : Nat → Nat} {nq ni : Int32} {rt : Value} {D : cDt} {cd : Nat} {cn : Int32} {nm : Nat → Option Nat}
set_option maxHeartbeats 4000000 in
theorem c_both_lp {dp e pa lo : Nat} {pl : Int32} {F : Nat → aR tT} (hA : ∀ k, 1 ≤ k → k ≤ 6 → A k < lo) (hm : 6 ≤ m) (HG : cCc κ sz T len cnt kk pp ee f A nq ni rt D cd cn nm 128 dp m F 22 165) (hF : ∀ i t j, F i = .inr (t, j) → i < j) (hpe : e ≠ pa) : ∀ (t x4 : Nat) (σ : oSt) (at' : Nat) (am bd nf ff : Int32) (s : Sum Nat Nat) (ν : nSt) (q d cap : Nat) (mc : Int32) (g : Nat → Option Nat), cV κ sz len cnt kk pp ee f A nq ni rt σ D at' cd cn am bd nf ff → cO pp cnt at' bd s → (∀ i, s = .inr i → cNm pp ee f σ D nm ν cd nf) → σ.1 e = some (.inr (7, cLf 302 pl (nI cd) pa)) → cLs κ σ pa d cap q mc g 7 → (cOk A D lo σ d ∨ (d = κ.2.2.1 ∧ σ.1 d = none)) → cOk A D lo σ pa → cap ≤ 10 + 2 * q → (q ≤ at' + 1 ∧ x4 ≤ at') → (∀ i, s = .inr i → cnt < i + t) → 1 ≤ t → ∃ σ' at2 am2 bd2 nf2 ff2 d' cap' mc' g' q', ol_X7_both_60 T (oF κ T m) κ t (some (A 0)) (nI dp) (some e) (nI x4) σ = some (some (va_rf (some e)), σ') ∧ cV κ sz len cnt kk pp ee f A nq ni rt σ' D at2 cd cn am2 bd2 nf2 ff2 ∧ cO pp cnt at2 bd2 (aTo s (aCL kk 302 F t)) ∧ (σ.2.1 ≤ σ'.2.1 ∧ ∀ a, a < σ.2.1 → ¬ cMu A D a → a ≠ pa → a ≠ d → σ'.1 a = σ.1 a) ∧ (cLs κ σ' pa d' cap' q' mc' g' 7 ∧ (cOk A D lo σ' d' ∨ (d' = κ.2.2.1 ∧ σ'.1 d' = none)) ∧ cOk A D lo σ' pa ∧ cap' ≤ 10 + 2 * q' ∧ q ≤ q' ∧ ∀ k, k < q → g' k = g k) ∧ (σ'.2.2.1 + 30 * at' + 7 * q' ≤ σ.2.2.1 + 30 * at2 + 7 * q ∧ σ'.2.2.2 + 4 * cap + 240 * at' + 75 * q' ≤ σ.2.2.2 + 4 * cap' + 240 * at2 + 75 * q) ∧ (at' ≤ at2 ∧ ∀ i, s = .inr i → aIs kk 302 i = true → q < q') ∧ (∀ i tt j, s = .inr i → aCL kk 302 F t i = .inr (tt, j) → cCt κ T kk pp ee f A D lo σ' cd (nRes f pp ee nm ν) tt g' q q' ∧ cNm pp ee f σ' D nm (nCt f pp ee tt ν) cd nf2 ∧ am2 = am + nI (tAt tt) ∧ ff2 = fCt pp (nRes f pp ee nm ν) tt ff) := by
  intro t
  induction t with
  | zero => intro x4 σ at' am bd nf ff s ν q d cap mc g h ho hn he hl hd hp hc hx ht h1; omega
  | succ t IH =>
    intro x4 σ at' am bd nf ff s ν q d cap mc g h ho hn he hl hd hp hc hx ht h1
    have lowσ : κ.2.2.1 < sz := h.1.1.2.2.2
    have hcn : cnt ≤ 2000 := by have := h.1.2.1.2.2.2.2.2; have := h.1.2.1.2.2.2.2.1; omega
    have hatc : at' ≤ cnt := h.2.2.1
    have f0 : ofd σ (some (A 0)) 9 0 = some (.ref (A 1)) := by rw [ofd_at h.2.1]; rfl
    have f4 : ofd σ (some (A 1)) 13 4 = some (.int (nI cnt)) := by rw [ofd_at h.1.2.1.1]; rfl
    rw [ol_X7_both_60, f0, ovr_rf, obn_at, f4, ovi_in, obn_at, oob_at h.2.1, obn_at, c_kind (n := m) h ho (by omega), oin_at]
    -- it ends here
    have STOP : (∀ i, s = .inr i → ¬ aIs kk 302 i = true) → ∃ σ' at2 am2 bd2 nf2 ff2 d' cap' mc' g' q', (some (some (va_rf (some e)), σ) : oRs) = some (some (va_rf (some e)), σ') ∧ cV κ sz len cnt kk pp ee f A nq ni rt σ' D at2 cd cn am2 bd2 nf2 ff2 ∧ cO pp cnt at2 bd2 (aTo s (aCL kk 302 F (t + 1))) ∧ (σ.2.1 ≤ σ'.2.1 ∧ ∀ a, a < σ.2.1 → ¬ cMu A D a → a ≠ pa → a ≠ d → σ'.1 a = σ.1 a) ∧ (cLs κ σ' pa d' cap' q' mc' g' 7 ∧ (cOk A D lo σ' d' ∨ (d' = κ.2.2.1 ∧ σ'.1 d' = none)) ∧ cOk A D lo σ' pa ∧ cap' ≤ 10 + 2 * q' ∧ q ≤ q' ∧ ∀ k, k < q → g' k = g k) ∧ (σ'.2.2.1 + 30 * at' + 7 * q' ≤ σ.2.2.1 + 30 * at2 + 7 * q ∧ σ'.2.2.2 + 4 * cap + 240 * at' + 75 * q' ≤ σ.2.2.2 + 4 * cap' + 240 * at2 + 75 * q) ∧ (at' ≤ at2 ∧ ∀ i, s = .inr i → aIs kk 302 i = true → q < q') ∧ (∀ i tt j, s = .inr i → aCL kk 302 F (t + 1) i = .inr (tt, j) → cCt κ T kk pp ee f A D lo σ' cd (nRes f pp ee nm ν) tt g' q q' ∧ cNm pp ee f σ' D nm (nCt f pp ee tt ν) cd nf2 ∧ am2 = am + nI (tAt tt) ∧ ff2 = fCt pp (nRes f pp ee nm ν) tt ff) := fun hno => by
      have eC : ∀ i, s = .inr i → aCL kk 302 F (t + 1) i = .inr (tZ, i) := fun i hi => by rw [aCL, if_neg (hno i hi)]
      refine ⟨σ, at', am, bd, nf, ff, d, cap, mc, g, q, rfl, h, ?_, ⟨Nat.le_refl _, fun _ _ _ _ _ => rfl⟩, ⟨hl, hd, hp, hc, Nat.le_refl _, fun _ _ => rfl⟩, ⟨Nat.le_refl _, Nat.le_refl _⟩, ⟨Nat.le_refl _, fun i hi z => absurd z (hno i hi)⟩, fun i tt j hi hh => ?_⟩
      · cases s with
        | inl j => exact ho
        | inr i => rw [aTo_ok, eC i rfl]; exact ho
      · rw [eC i hi] at hh
        cases hh
        exact ⟨rfl, hn i hi, (Int32.add_zero am).symm, rfl⟩
    by_cases cS : cK kk s = 302
    · cases s with
      | inl j => exact absurd (show (0 : Int32) = 302 from cS) (by decide)
      | inr i0 =>
        have ho' := ho
        obtain ⟨o1, o2, o3⟩ := ho
        subst o2
        have cS' : kk at' = nI 302 := cS
        have aS : aIs kk 302 at' = true := decide_eq_true cS'
        have hlt : at' < cnt := by
          by_cases c : at' < cnt
          · exact c
          · exfalso
            rw [show at' = cnt by omega, h.1.2.2.2.2.2.1] at cS'
            exact absurd cS' (by decide)
        rw [if_neg (nI_ge (show x4 < cnt by omega) (by omega)), if_pos cS]
        obtain ⟨n1, v2, n3, n4⟩ := c_next (κ := κ) (T := T) (n := m) h ho' hlt (by omega)
        rw [oob_at h.2.1, obn_at, n1, ocv_at]
        have N2 := (hn at' rfl).k0 (σ' := oput σ (A 0) (.inr (9, cPs A nq ni rt (at' + 1) cd cn am bd nf ff))) h.2.1 (fun a ha => oput_ne ha) rfl
        have e2 := h.kd n3 he (by omega)
        have z2 : (oput σ (A 0) (.inr (9, cPs A nq ni rt (at' + 1) cd cn am bd nf ff))).2 = σ.2 := rfl
        generalize oput σ (A 0) (.inr (9, cPs A nq ni rt (at' + 1) cd cn am bd nf ff)) = σ2 at v2 n3 N2 e2 z2 ⊢
        have z21 : σ2.2.1 = σ.2.1 := by rw [z2]
        have z22 : σ2.2.2.1 = σ.2.2.1 := by rw [z2]
        have z23 : σ2.2.2.2 = σ.2.2.2 := by rw [z2]
        have f18 : ofd σ2 (some e) 7 18 = some (.ref pa) := by rw [ofd_at e2]; rfl
        rw [f18, ovr_rf, obn_at, oob_at v2.2.1, obn_at]
        obtain ⟨σ3, at3, am3, bd3, nf3, ff3, x, plx, y1, y2, y3, y4, ⟨⟨fs, y5, y5b⟩, y5c⟩, ⟨y6, y6b⟩, y7, y8⟩ := HG σ2 (at' + 1) am bd nf ff (.inr (at' + 1)) ν v2 n4 (fun _ _ => N2)
        have r3 := n3.tr y4
        have y41 := y4.1
        have low3 : σ3.1 κ.2.2.1 = none := y2.1.1.2.1 _ lowσ
        have p3 := hp.to r3
        have ep3 : σ3.1 pa = σ.1 pa := hp.eq r3
        have hd3 : cOk A D lo σ3 d ∨ (d = κ.2.2.1 ∧ σ3.1 d = none) := by
          rcases hd with z | ⟨z, z'⟩
          · exact Or.inl (z.to r3)
          · exact Or.inr ⟨z, by rw [z]; exact low3⟩
        have ed3 : σ3.1 d = σ.1 d := by
          rcases hd with z | ⟨z, z'⟩
          · exact z.eq r3
          · rw [z', z]; exact low3
        have l3 := hl.keep ep3 ed3 (fun a gs ea => ⟨gs, h.kd r3 ea (by omega)⟩)
        rw [y1, orn_at, oob_at l3.1, obn_at]
        have dlt : d < σ.2.1 := by
          rcases hd with z | ⟨z, z'⟩
          · exact z.2.1
          · rw [z]; have := h.1.1.2.2.1; omega
        have plt : pa < σ.2.1 := hp.2.1
        obtain ⟨σ4, d4, cap4, g4, w1, w2, w3, w4, w5, w6, ⟨w7, w7b⟩, w8, w9, w10, ⟨w11, w12⟩⟩ := c_ladd (κ := κ) (T := T) (m := m) y2 hA l3 hd3 p3 hc (by omega) y5 hm
        rw [w1, oin_at, nI_1]
        have d4c : d4 = d ∨ σ3.2.1 ≤ d4 := by rcases w9 with z | z <;> omega
        have e4 : σ4.1 e = some (.inr (7, cLf 302 pl (nI cd) pa)) := by
          have e3 := v2.kd y4 e2 (by omega)
          rw [w8 e hpe (fun z => by
            rcases w3.2.1 with ⟨u1, -⟩ | ⟨u1, -⟩
            · omega
            · rcases w9 with u | u
              · rcases hl.2.1 with ⟨-, -, -, u2⟩ | ⟨u2, -⟩
                · rw [z, u, ed3, u2] at e3; cases e3
                · rw [z, u, ed3, u2] at e3; cases e3
              · rw [z, u, y2.1.1.1 _ (Nat.le_refl _)] at e3; cases e3)]
          exact e3
        rw [aTo_ok] at y3
        have hnm4 : ∀ ν', cNm pp ee f σ3 D nm ν' cd nf3 → cNm pp ee f σ4 D nm ν' cd nf3 := fun ν' hN => hN.gn (fun a c ea hc => by
          rw [w8 a (fun z => by rw [z, l3.1] at ea; cases ea; exact hc.n1) (fun z => by
            rcases w9 with u | u
            · rcases l3.2.1 with ⟨-, -, -, u2⟩ | ⟨u2, -⟩
              · rw [z, u, u2] at ea; cases ea
              · rw [z, u, u2] at ea; cases ea; exact hc.no
            · rw [z, u, y2.1.1.1 _ (Nat.le_refl _)] at ea; cases ea)]
          exact ea)
        obtain ⟨σ5, at5, am5, bd5, nf5, ff5, d5, cap5, mc5, g5, q5, k1, k2, k3, ⟨k4, k4b⟩, ⟨k5, k6, k7, k8, k9, k10⟩, ⟨k11, k12⟩, ⟨k13, k13b⟩, k14⟩ := IH (x4 + 1) σ4 at3 am3 bd3 nf3 ff3 (F (at' + 1)).st (match F (at' + 1) with | .inr r => nCt f pp ee r.1 ν | .inl _ => ν) (q + 1) d4 cap4 (mc + 1) g4 w2 y3 (fun i' hi' => by
            cases ep : F (at' + 1) with
            | inl j => rw [ep] at hi'; cases hi'
            | inr r => exact hnm4 _ (y8 _ r.1 r.2 rfl ep).2.2.1) e4 w3 (Or.inl w4) w5 w6 (by omega) (fun i' hi' => by
            have := ht at' rfl
            cases ep : F (at' + 1) with
            | inl j => rw [ep] at hi'; cases hi'
            | inr r =>
              rw [ep] at hi'
              have hi2 : r.2 = i' := by
                have : (Sum.inr r.2 : Sum Nat Nat) = .inr i' := hi'
                exact Sum.inr.inj this
              have := hF (at' + 1) r.1 r.2 ep
              omega) (by have := ht at' rfl; omega)
        rw [k1]
        have eC : aCL kk 302 F (t + 1) at' = (F (at' + 1)).on fun c j => (aCL kk 302 F t j).on fun cs j' => .inr (tN 30 0 0 0 s0 s0 c cs, j') := by rw [aCL, if_pos aS]
        refine ⟨σ5, at5, am5, bd5, nf5, ff5, d5, cap5, mc5, g5, q5, rfl, k2, ?_, ⟨by omega, fun a ha hmu hne hnd => ?_⟩, ⟨k5, k6, k7, k8, by omega, fun k hk => ?_⟩, ⟨by omega, by omega⟩, ⟨by omega, fun _ _ _ => by omega⟩, fun i tt j hi hh => ?_⟩
        · rw [aTo_ok, eC]
          cases ep : F (at' + 1) with
          | inl j => rw [ep] at k3; exact k3
          | inr r =>
            rw [ep] at k3
            have k3' : cO pp cnt at5 bd5 (aCL kk 302 F t r.2).st := k3
            show cO pp cnt at5 bd5 ((aCL kk 302 F t r.2).on fun cs j' => (.inr (tN 30 0 0 0 s0 s0 r.1 cs, j') : aR tT)).st
            cases em : aCL kk 302 F t r.2 with
            | inl j2 => rw [em] at k3'; exact k3'
            | inr r2 => rw [em] at k3'; exact k3'
        · rw [k4b a (by omega) hmu hne (by omega), w8 a hne (by omega), r3.2.1 a ha hmu]
        · rw [k10 k (by omega), w7 k hk]
        · cases hi
          rw [eC] at hh
          obtain ⟨c, j1, ep, hh⟩ := on_ok hh
          obtain ⟨cs, j2, em, hh⟩ := on_ok hh
          cases hh
          obtain ⟨u1, u2, u3, u4, u5⟩ := y8 (at' + 1) c j1 rfl ep
          rw [ep] at k14
          obtain ⟨b1, b2, b3, b4⟩ := k14 j1 cs j rfl em
          have eR : nRes f pp ee nm (nCt f pp ee c ν) = nRes f pp ee nm ν := funext fun w => nRes_1 (nCt_1 f pp ee c ν) w
          have KP : cKp κ A D σ2.2.1 σ3 D lo σ5 := by
            have hlo : lo ≤ σ2.2.1 := by have := hp.1; omega
            refine ⟨fun a ha => ?_, fun a gs ea => ?_, fun a gs ea => ?_, k2.1.1.2.1 _ lowσ⟩
            · have a1 := ha.1
              have a2 := ha.2.1
              refine ⟨?_, by omega, by omega, ha.2.2⟩
              rw [k4b a (by omega) ha.2.2 (by omega) (by omega), w8 a (by omega) (by omega)]
            · have e4' : σ4.1 a = some (.inr (6, gs)) := by
                rw [w8 a (fun z => by rw [z, l3.1] at ea; cases ea) (fun z => by
                  rcases w9 with u | u
                  · rcases l3.2.1 with ⟨-, -, -, u2⟩ | ⟨u2, -⟩
                    · rw [z, u, u2] at ea; cases ea
                    · rw [z, u, u2] at ea; cases ea
                  · rw [z, u, y2.1.1.1 _ (Nat.le_refl _)] at ea; cases ea)]
                exact ea
              refine ⟨gs, ?_⟩
              rw [k4b a (alt w2.1.1.1 e4') (cMu.no w2 e4' (by omega)) (fun z => by rw [z, w3.1] at e4'; cases e4') (fun z => by
                rcases w3.2.1 with ⟨-, -, -, u2⟩ | ⟨u2, -⟩
                · rw [z, u2] at e4'; cases e4'
                · rw [z, u2] at e4'; cases e4')]
              exact e4'
            · have e4' : σ4.1 a = some (.inr (7, gs)) := by
                rw [w8 a (fun z => by rw [z, l3.1] at ea; cases ea) (fun z => by
                  rcases w9 with u | u
                  · rcases l3.2.1 with ⟨-, -, -, u2⟩ | ⟨u2, -⟩
                    · rw [z, u, u2] at ea; cases ea
                    · rw [z, u, u2] at ea; cases ea
                  · rw [z, u, y2.1.1.1 _ (Nat.le_refl _)] at ea; cases ea)]
                exact ea
              refine ⟨gs, ?_⟩
              rw [k4b a (alt w2.1.1.1 e4') (cMu.no w2 e4' (by omega)) (fun z => by rw [z, w3.1] at e4'; cases e4') (fun z => by
                rcases w3.2.1 with ⟨-, -, -, u2⟩ | ⟨u2, -⟩
                · rw [z, u2] at e4'; cases e4'
                · rw [z, u2] at e4'; cases e4')]
              exact e4'
          refine ⟨⟨x, by rw [k10 q (by omega)]; exact w7b, cCt.kp KP c _ _ _ u1, ?_⟩, b2, ?_, ?_⟩
          · have b1' : cCt κ T kk pp ee f A D lo σ5 cd (nRes f pp ee nm (nCt f pp ee c ν)) cs g5 (q + 1) q5 := b1
            rw [eR] at b1'
            exact b1'
          · rw [b3, u4, Int32.add_assoc, nI_add]; rfl
          · have b4' : ff5 = fCt pp (nRes f pp ee nm (nCt f pp ee c ν)) cs ff3 := b4
            rw [eR, u5] at b4'
            exact b4'
    · have hno : ∀ i, s = .inr i → ¬ aIs kk 302 i = true := fun i hi z => cS (by rw [hi]; exact of_decide_eq_true z)
      by_cases c : nI cnt ≤ nI x4
      · rw [if_pos c]; exact STOP hno
      · rw [if_neg c, if_neg cS]; exact STOP hno
set_option maxHeartbeats 4000000 in
theorem c_either_lp {dp e pa lo : Nat} {pl : Int32} {F : Nat → aR tT} (hA : ∀ k, 1 ≤ k → k ≤ 6 → A k < lo) (hm : 6 ≤ m) (HG : cCc κ sz T len cnt kk pp ee f A nq ni rt D cd cn nm 126 dp m F 22 172) (hF : ∀ i t j, F i = .inr (t, j) → i < j) (hpe : e ≠ pa) : ∀ (t x4 : Nat) (σ : oSt) (at' : Nat) (am bd nf ff : Int32) (s : Sum Nat Nat) (ν : nSt) (q d cap : Nat) (mc : Int32) (g : Nat → Option Nat), cV κ sz len cnt kk pp ee f A nq ni rt σ D at' cd cn am bd nf ff → cO pp cnt at' bd s → (∀ i, s = .inr i → cNm pp ee f σ D nm ν cd nf) → σ.1 e = some (.inr (7, cLf 303 pl (nI cd) pa)) → cLs κ σ pa d cap q mc g 7 → (cOk A D lo σ d ∨ (d = κ.2.2.1 ∧ σ.1 d = none)) → cOk A D lo σ pa → cap ≤ 10 + 2 * q → (q ≤ at' + 1 ∧ x4 ≤ at') → (∀ i, s = .inr i → cnt < i + t) → 1 ≤ t → ∃ σ' at2 am2 bd2 nf2 ff2 d' cap' mc' g' q', ol_X7_either_60 T (oF κ T m) κ t (some (A 0)) (nI dp) (some e) (nI x4) σ = some (some (va_rf (some e)), σ') ∧ cV κ sz len cnt kk pp ee f A nq ni rt σ' D at2 cd cn am2 bd2 nf2 ff2 ∧ cO pp cnt at2 bd2 (aTo s (aCL kk 303 F t)) ∧ (σ.2.1 ≤ σ'.2.1 ∧ ∀ a, a < σ.2.1 → ¬ cMu A D a → a ≠ pa → a ≠ d → σ'.1 a = σ.1 a) ∧ (cLs κ σ' pa d' cap' q' mc' g' 7 ∧ (cOk A D lo σ' d' ∨ (d' = κ.2.2.1 ∧ σ'.1 d' = none)) ∧ cOk A D lo σ' pa ∧ cap' ≤ 10 + 2 * q' ∧ q ≤ q' ∧ ∀ k, k < q → g' k = g k) ∧ (σ'.2.2.1 + 30 * at' + 7 * q' ≤ σ.2.2.1 + 30 * at2 + 7 * q ∧ σ'.2.2.2 + 4 * cap + 240 * at' + 68 * q' ≤ σ.2.2.2 + 4 * cap' + 240 * at2 + 68 * q) ∧ (at' ≤ at2 ∧ ∀ i, s = .inr i → aIs kk 303 i = true → q < q') ∧ (∀ i tt j, s = .inr i → aCL kk 303 F t i = .inr (tt, j) → cCt κ T kk pp ee f A D lo σ' cd (nRes f pp ee nm ν) tt g' q q' ∧ cNm pp ee f σ' D nm (nCt f pp ee tt ν) cd nf2 ∧ am2 = am + nI (tAt tt) ∧ ff2 = fCt pp (nRes f pp ee nm ν) tt ff) := by
  intro t
  induction t with
  | zero => intro x4 σ at' am bd nf ff s ν q d cap mc g h ho hn he hl hd hp hc hx ht h1; omega
  | succ t IH =>
    intro x4 σ at' am bd nf ff s ν q d cap mc g h ho hn he hl hd hp hc hx ht h1
    have lowσ : κ.2.2.1 < sz := h.1.1.2.2.2
    have hcn : cnt ≤ 2000 := by have := h.1.2.1.2.2.2.2.2; have := h.1.2.1.2.2.2.2.1; omega
    have hatc : at' ≤ cnt := h.2.2.1
    have f0 : ofd σ (some (A 0)) 9 0 = some (.ref (A 1)) := by rw [ofd_at h.2.1]; rfl
    have f4 : ofd σ (some (A 1)) 13 4 = some (.int (nI cnt)) := by rw [ofd_at h.1.2.1.1]; rfl
    rw [ol_X7_either_60, f0, ovr_rf, obn_at, f4, ovi_in, obn_at, oob_at h.2.1, obn_at, c_kind (n := m) h ho (by omega), oin_at]
    -- it ends here
    have STOP : (∀ i, s = .inr i → ¬ aIs kk 303 i = true) → ∃ σ' at2 am2 bd2 nf2 ff2 d' cap' mc' g' q', (some (some (va_rf (some e)), σ) : oRs) = some (some (va_rf (some e)), σ') ∧ cV κ sz len cnt kk pp ee f A nq ni rt σ' D at2 cd cn am2 bd2 nf2 ff2 ∧ cO pp cnt at2 bd2 (aTo s (aCL kk 303 F (t + 1))) ∧ (σ.2.1 ≤ σ'.2.1 ∧ ∀ a, a < σ.2.1 → ¬ cMu A D a → a ≠ pa → a ≠ d → σ'.1 a = σ.1 a) ∧ (cLs κ σ' pa d' cap' q' mc' g' 7 ∧ (cOk A D lo σ' d' ∨ (d' = κ.2.2.1 ∧ σ'.1 d' = none)) ∧ cOk A D lo σ' pa ∧ cap' ≤ 10 + 2 * q' ∧ q ≤ q' ∧ ∀ k, k < q → g' k = g k) ∧ (σ'.2.2.1 + 30 * at' + 7 * q' ≤ σ.2.2.1 + 30 * at2 + 7 * q ∧ σ'.2.2.2 + 4 * cap + 240 * at' + 68 * q' ≤ σ.2.2.2 + 4 * cap' + 240 * at2 + 68 * q) ∧ (at' ≤ at2 ∧ ∀ i, s = .inr i → aIs kk 303 i = true → q < q') ∧ (∀ i tt j, s = .inr i → aCL kk 303 F (t + 1) i = .inr (tt, j) → cCt κ T kk pp ee f A D lo σ' cd (nRes f pp ee nm ν) tt g' q q' ∧ cNm pp ee f σ' D nm (nCt f pp ee tt ν) cd nf2 ∧ am2 = am + nI (tAt tt) ∧ ff2 = fCt pp (nRes f pp ee nm ν) tt ff) := fun hno => by
      have eC : ∀ i, s = .inr i → aCL kk 303 F (t + 1) i = .inr (tZ, i) := fun i hi => by rw [aCL, if_neg (hno i hi)]
      refine ⟨σ, at', am, bd, nf, ff, d, cap, mc, g, q, rfl, h, ?_, ⟨Nat.le_refl _, fun _ _ _ _ _ => rfl⟩, ⟨hl, hd, hp, hc, Nat.le_refl _, fun _ _ => rfl⟩, ⟨Nat.le_refl _, Nat.le_refl _⟩, ⟨Nat.le_refl _, fun i hi z => absurd z (hno i hi)⟩, fun i tt j hi hh => ?_⟩
      · cases s with
        | inl j => exact ho
        | inr i => rw [aTo_ok, eC i rfl]; exact ho
      · rw [eC i hi] at hh
        cases hh
        exact ⟨rfl, hn i hi, (Int32.add_zero am).symm, rfl⟩
    by_cases cS : cK kk s = 303
    · cases s with
      | inl j => exact absurd (show (0 : Int32) = 303 from cS) (by decide)
      | inr i0 =>
        have ho' := ho
        obtain ⟨o1, o2, o3⟩ := ho
        subst o2
        have cS' : kk at' = nI 303 := cS
        have aS : aIs kk 303 at' = true := decide_eq_true cS'
        have hlt : at' < cnt := by
          by_cases c : at' < cnt
          · exact c
          · exfalso
            rw [show at' = cnt by omega, h.1.2.2.2.2.2.1] at cS'
            exact absurd cS' (by decide)
        rw [if_neg (nI_ge (show x4 < cnt by omega) (by omega)), if_pos cS]
        obtain ⟨n1, v2, n3, n4⟩ := c_next (κ := κ) (T := T) (n := m) h ho' hlt (by omega)
        rw [oob_at h.2.1, obn_at, n1, ocv_at]
        have N2 := (hn at' rfl).k0 (σ' := oput σ (A 0) (.inr (9, cPs A nq ni rt (at' + 1) cd cn am bd nf ff))) h.2.1 (fun a ha => oput_ne ha) rfl
        have e2 := h.kd n3 he (by omega)
        have z2 : (oput σ (A 0) (.inr (9, cPs A nq ni rt (at' + 1) cd cn am bd nf ff))).2 = σ.2 := rfl
        generalize oput σ (A 0) (.inr (9, cPs A nq ni rt (at' + 1) cd cn am bd nf ff)) = σ2 at v2 n3 N2 e2 z2 ⊢
        have z21 : σ2.2.1 = σ.2.1 := by rw [z2]
        have z22 : σ2.2.2.1 = σ.2.2.1 := by rw [z2]
        have z23 : σ2.2.2.2 = σ.2.2.2 := by rw [z2]
        have f18 : ofd σ2 (some e) 7 18 = some (.ref pa) := by rw [ofd_at e2]; rfl
        rw [f18, ovr_rf, obn_at, oob_at v2.2.1, obn_at]
        obtain ⟨σ3, at3, am3, bd3, nf3, ff3, x, plx, y1, y2, y3, y4, ⟨⟨fs, y5, y5b⟩, y5c⟩, ⟨y6, y6b⟩, y7, y8⟩ := HG σ2 (at' + 1) am bd nf ff (.inr (at' + 1)) ν v2 n4 (fun _ _ => N2)
        have r3 := n3.tr y4
        have y41 := y4.1
        have low3 : σ3.1 κ.2.2.1 = none := y2.1.1.2.1 _ lowσ
        have p3 := hp.to r3
        have ep3 : σ3.1 pa = σ.1 pa := hp.eq r3
        have hd3 : cOk A D lo σ3 d ∨ (d = κ.2.2.1 ∧ σ3.1 d = none) := by
          rcases hd with z | ⟨z, z'⟩
          · exact Or.inl (z.to r3)
          · exact Or.inr ⟨z, by rw [z]; exact low3⟩
        have ed3 : σ3.1 d = σ.1 d := by
          rcases hd with z | ⟨z, z'⟩
          · exact z.eq r3
          · rw [z', z]; exact low3
        have l3 := hl.keep ep3 ed3 (fun a gs ea => ⟨gs, h.kd r3 ea (by omega)⟩)
        rw [y1, orn_at, oob_at l3.1, obn_at]
        have dlt : d < σ.2.1 := by
          rcases hd with z | ⟨z, z'⟩
          · exact z.2.1
          · rw [z]; have := h.1.1.2.2.1; omega
        have plt : pa < σ.2.1 := hp.2.1
        obtain ⟨σ4, d4, cap4, g4, w1, w2, w3, w4, w5, w6, ⟨w7, w7b⟩, w8, w9, w10, ⟨w11, w12⟩⟩ := c_ladd (κ := κ) (T := T) (m := m) y2 hA l3 hd3 p3 hc (by omega) y5 hm
        rw [w1, oin_at, nI_1]
        have d4c : d4 = d ∨ σ3.2.1 ≤ d4 := by rcases w9 with z | z <;> omega
        have e4 : σ4.1 e = some (.inr (7, cLf 303 pl (nI cd) pa)) := by
          have e3 := v2.kd y4 e2 (by omega)
          rw [w8 e hpe (fun z => by
            rcases w3.2.1 with ⟨u1, -⟩ | ⟨u1, -⟩
            · omega
            · rcases w9 with u | u
              · rcases hl.2.1 with ⟨-, -, -, u2⟩ | ⟨u2, -⟩
                · rw [z, u, ed3, u2] at e3; cases e3
                · rw [z, u, ed3, u2] at e3; cases e3
              · rw [z, u, y2.1.1.1 _ (Nat.le_refl _)] at e3; cases e3)]
          exact e3
        rw [aTo_ok] at y3
        have hnm4 : ∀ ν', cNm pp ee f σ3 D nm ν' cd nf3 → cNm pp ee f σ4 D nm ν' cd nf3 := fun ν' hN => hN.gn (fun a c ea hc => by
          rw [w8 a (fun z => by rw [z, l3.1] at ea; cases ea; exact hc.n1) (fun z => by
            rcases w9 with u | u
            · rcases l3.2.1 with ⟨-, -, -, u2⟩ | ⟨u2, -⟩
              · rw [z, u, u2] at ea; cases ea
              · rw [z, u, u2] at ea; cases ea; exact hc.no
            · rw [z, u, y2.1.1.1 _ (Nat.le_refl _)] at ea; cases ea)]
          exact ea)
        obtain ⟨σ5, at5, am5, bd5, nf5, ff5, d5, cap5, mc5, g5, q5, k1, k2, k3, ⟨k4, k4b⟩, ⟨k5, k6, k7, k8, k9, k10⟩, ⟨k11, k12⟩, ⟨k13, k13b⟩, k14⟩ := IH (x4 + 1) σ4 at3 am3 bd3 nf3 ff3 (F (at' + 1)).st (match F (at' + 1) with | .inr r => nCt f pp ee r.1 ν | .inl _ => ν) (q + 1) d4 cap4 (mc + 1) g4 w2 y3 (fun i' hi' => by
            cases ep : F (at' + 1) with
            | inl j => rw [ep] at hi'; cases hi'
            | inr r => exact hnm4 _ (y8 _ r.1 r.2 rfl ep).2.2.1) e4 w3 (Or.inl w4) w5 w6 (by omega) (fun i' hi' => by
            have := ht at' rfl
            cases ep : F (at' + 1) with
            | inl j => rw [ep] at hi'; cases hi'
            | inr r =>
              rw [ep] at hi'
              have hi2 : r.2 = i' := by
                have : (Sum.inr r.2 : Sum Nat Nat) = .inr i' := hi'
                exact Sum.inr.inj this
              have := hF (at' + 1) r.1 r.2 ep
              omega) (by have := ht at' rfl; omega)
        rw [k1]
        have eC : aCL kk 303 F (t + 1) at' = (F (at' + 1)).on fun c j => (aCL kk 303 F t j).on fun cs j' => .inr (tN 30 0 0 0 s0 s0 c cs, j') := by rw [aCL, if_pos aS]
        refine ⟨σ5, at5, am5, bd5, nf5, ff5, d5, cap5, mc5, g5, q5, rfl, k2, ?_, ⟨by omega, fun a ha hmu hne hnd => ?_⟩, ⟨k5, k6, k7, k8, by omega, fun k hk => ?_⟩, ⟨by omega, by omega⟩, ⟨by omega, fun _ _ _ => by omega⟩, fun i tt j hi hh => ?_⟩
        · rw [aTo_ok, eC]
          cases ep : F (at' + 1) with
          | inl j => rw [ep] at k3; exact k3
          | inr r =>
            rw [ep] at k3
            have k3' : cO pp cnt at5 bd5 (aCL kk 303 F t r.2).st := k3
            show cO pp cnt at5 bd5 ((aCL kk 303 F t r.2).on fun cs j' => (.inr (tN 30 0 0 0 s0 s0 r.1 cs, j') : aR tT)).st
            cases em : aCL kk 303 F t r.2 with
            | inl j2 => rw [em] at k3'; exact k3'
            | inr r2 => rw [em] at k3'; exact k3'
        · rw [k4b a (by omega) hmu hne (by omega), w8 a hne (by omega), r3.2.1 a ha hmu]
        · rw [k10 k (by omega), w7 k hk]
        · cases hi
          rw [eC] at hh
          obtain ⟨c, j1, ep, hh⟩ := on_ok hh
          obtain ⟨cs, j2, em, hh⟩ := on_ok hh
          cases hh
          obtain ⟨u1, u2, u3, u4, u5⟩ := y8 (at' + 1) c j1 rfl ep
          rw [ep] at k14
          obtain ⟨b1, b2, b3, b4⟩ := k14 j1 cs j rfl em
          have eR : nRes f pp ee nm (nCt f pp ee c ν) = nRes f pp ee nm ν := funext fun w => nRes_1 (nCt_1 f pp ee c ν) w
          have KP : cKp κ A D σ2.2.1 σ3 D lo σ5 := by
            have hlo : lo ≤ σ2.2.1 := by have := hp.1; omega
            refine ⟨fun a ha => ?_, fun a gs ea => ?_, fun a gs ea => ?_, k2.1.1.2.1 _ lowσ⟩
            · have a1 := ha.1
              have a2 := ha.2.1
              refine ⟨?_, by omega, by omega, ha.2.2⟩
              rw [k4b a (by omega) ha.2.2 (by omega) (by omega), w8 a (by omega) (by omega)]
            · have e4' : σ4.1 a = some (.inr (6, gs)) := by
                rw [w8 a (fun z => by rw [z, l3.1] at ea; cases ea) (fun z => by
                  rcases w9 with u | u
                  · rcases l3.2.1 with ⟨-, -, -, u2⟩ | ⟨u2, -⟩
                    · rw [z, u, u2] at ea; cases ea
                    · rw [z, u, u2] at ea; cases ea
                  · rw [z, u, y2.1.1.1 _ (Nat.le_refl _)] at ea; cases ea)]
                exact ea
              refine ⟨gs, ?_⟩
              rw [k4b a (alt w2.1.1.1 e4') (cMu.no w2 e4' (by omega)) (fun z => by rw [z, w3.1] at e4'; cases e4') (fun z => by
                rcases w3.2.1 with ⟨-, -, -, u2⟩ | ⟨u2, -⟩
                · rw [z, u2] at e4'; cases e4'
                · rw [z, u2] at e4'; cases e4')]
              exact e4'
            · have e4' : σ4.1 a = some (.inr (7, gs)) := by
                rw [w8 a (fun z => by rw [z, l3.1] at ea; cases ea) (fun z => by
                  rcases w9 with u | u
                  · rcases l3.2.1 with ⟨-, -, -, u2⟩ | ⟨u2, -⟩
                    · rw [z, u, u2] at ea; cases ea
                    · rw [z, u, u2] at ea; cases ea
                  · rw [z, u, y2.1.1.1 _ (Nat.le_refl _)] at ea; cases ea)]
                exact ea
              refine ⟨gs, ?_⟩
              rw [k4b a (alt w2.1.1.1 e4') (cMu.no w2 e4' (by omega)) (fun z => by rw [z, w3.1] at e4'; cases e4') (fun z => by
                rcases w3.2.1 with ⟨-, -, -, u2⟩ | ⟨u2, -⟩
                · rw [z, u2] at e4'; cases e4'
                · rw [z, u2] at e4'; cases e4')]
              exact e4'
          refine ⟨⟨x, by rw [k10 q (by omega)]; exact w7b, cCt.kp KP c _ _ _ u1, ?_⟩, b2, ?_, ?_⟩
          · have b1' : cCt κ T kk pp ee f A D lo σ5 cd (nRes f pp ee nm (nCt f pp ee c ν)) cs g5 (q + 1) q5 := b1
            rw [eR] at b1'
            exact b1'
          · rw [b3, u4, Int32.add_assoc, nI_add]; rfl
          · have b4' : ff5 = fCt pp (nRes f pp ee nm (nCt f pp ee c ν)) cs ff3 := b4
            rw [eR, u5] at b4'
            exact b4'
    · have hno : ∀ i, s = .inr i → ¬ aIs kk 303 i = true := fun i hi z => cS (by rw [hi]; exact of_decide_eq_true z)
      by_cases c : nI cnt ≤ nI x4
      · rw [if_pos c]; exact STOP hno
      · rw [if_neg c, if_neg cS]; exact STOP hno
end CQG
