/-! the class's parser: a C without && and || -/
section CQE
variable {κ : oKv} {sz T n m len cnt : Nat} {kk pp ee f : Nat → Int32} {A : Nat → Nat} {nq ni : Int32} {rt : Value} {σ σ' : oSt} {D D' : cDt} {at' cd : Nat} {cn am bd nf ff : Int32} {s : Sum Nat Nat} {nm ns : Nat → Option Nat} {ν : nSt} {lo lo' e i : Nat}
theorem cNd_1 (k pl c : Int32) : (cNd k pl c)[1]? = some (.int pl) := rfl
theorem nI_1s (a : Int32) : a + nI 1 = a + 1 := rfl
set_option maxHeartbeats 4000000 in
theorem c_single {dp k : Nat} (hk : k + dp = 31) (hm : 11 ≤ m) (hT : 2010 ≤ T) (hwl : ∀ j, j < cnt → wL pp ee j ≤ 10) (HS : ∀ k', k = k' + 1 → cCc κ sz T len cnt kk pp ee f A nq ni rt D cd cn nm 128 (dp + 1) m (aSi kk T k') 22 165) (HE : ∀ k', k = k' + 1 → cCc κ sz T len cnt kk pp ee f A nq ni rt D cd cn nm 127 (dp + 1) m (aEi kk T (aSi kk T k')) 22 190) : cCc κ sz T len cnt kk pp ee f A nq ni rt D cd cn nm 128 dp (m + 1) (aSi kk T k) 22 165 := by
  intro σ at' am bd nf ff s ν h ho hn
  have lowσ : κ.2.2.1 < sz := h.1.1.2.2.2
  rw [oE_X7_single]
  unfold ob_X7_single
  obtain ⟨g1, v1, r1⟩ := c_node (κ := κ) (T := T) (n := m) (k := cK kk s) h (by omega)
  rw [oob_at h.2.1, obn_at, c_kind (n := m) h ho (by omega), oin_at, oob_at h.2.1, obn_at, g1, orn_at]
  have e1 : (onew σ (.inr (7, cNd (cK kk s) (pp at') (nI cd))) 21).1 σ.2.1 = some (.inr (7, cNd (cK kk s) (pp at') (nI cd))) := onew_eq _ _ _
  have k1 : ∀ a, a ≠ σ.2.1 → (onew σ (.inr (7, cNd (cK kk s) (pp at') (nI cd))) 21).1 a = σ.1 a := fun a ha => onew_ne ha
  have z1 : (onew σ (.inr (7, cNd (cK kk s) (pp at') (nI cd))) 21).2 = (σ.2.1 + 1, σ.2.2.1 + 1, σ.2.2.2 + 21) := rfl
  have N1 : ∀ i, s = .inr i → cNm pp ee f (onew σ (.inr (7, cNd (cK kk s) (pp at') (nI cd))) 21) D nm ν cd nf := fun i hi => (hn i hi).ex h.1.1.1 (fun a ha => onew_ne (by omega))
  generalize onew σ (.inr (7, cNd (cK kk s) (pp at') (nI cd))) 21 = σ1 at v1 r1 e1 k1 z1 N1 ⊢
  have z11 : σ1.2.1 = σ.2.1 + 1 := by rw [z1]
  have z12 : σ1.2.2.1 = σ.2.2.1 + 1 := by rw [z1]
  have z13 : σ1.2.2.2 = σ.2.2.2 + 21 := by rw [z1]
  cases k with
  | zero =>
    -- too deep
    have hd : dp = 31 := by omega
    subst hd
    rw [if_neg (by decide), oob_at v1.2.1, obn_at]
    obtain ⟨σ6, bd6, w1, w2, w3, w4, w5, w6⟩ := c_fail (κ := κ) (T := T) (n := m) v1 ho (by omega)
    rw [w1, ocv_at]
    have w51 : σ6.2.1 = σ1.2.1 := by rw [w5]
    have w52 : σ6.2.2.1 = σ1.2.2.1 := by rw [w5]
    have w53 : σ6.2.2.2 = σ1.2.2.2 := by rw [w5]
    refine ⟨σ6, at', am, bd6, nf, ff, σ.2.1, pp at', rfl, w2, ?_, r1.tr w4, ⟨⟨_, v1.kd w4 e1 (by omega), cNd_1 ..⟩, Nat.le_refl _⟩, ⟨by omega, by omega⟩, Nat.le_refl _, fun i t j hi ht => ?_⟩
    · cases s with
      | inl j => exact w3
      | inr i => exact w3
    · have : (.inl i : aR tT) = .inr (t, j) := ht
      cases this
  | succ k =>
    have HS' := HS k rfl
    have HE' := HE k rfl
    rw [if_pos (show nI dp ≤ 30 from nI_le (b := 30) (by omega) (by omega)), oob_at v1.2.1, obn_at, c_kind (n := m) v1 ho (by omega), oin_at]
    have hdp : nI dp + 1 = nI (dp + 1) := nI_1 _
    rw [hdp]
    -- a comparison
    have CMP : (∀ i, s = .inr i → aSi kk T (k + 1) i = aCm kk T i) → ∃ σ' at2 am2 bd2 nf2 ff2 e pl, (obn (oob σ1 (some (A 0)) 9) fun a66 => orn (oF κ T m 125 [va_rf (some (A 0)), va_rf (some σ.2.1)] σ1) fun r70 s68 => some (some (va_rf r70), s68)) = some (some (va_rf (some e)), σ') ∧ cV κ sz len cnt kk pp ee f A nq ni rt σ' D at2 cd cn am2 bd2 nf2 ff2 ∧ cO pp cnt at2 bd2 (aTo s (aSi kk T (k + 1))) ∧ cFr A σ D σ' D ∧ (cPn σ' e pl ∧ σ.2.1 ≤ e) ∧ (σ'.2.2.1 + 30 * at' ≤ σ.2.2.1 + 22 + 30 * at2 ∧ σ'.2.2.2 + 240 * at' ≤ σ.2.2.2 + 165 + 240 * at2) ∧ at' ≤ at2 ∧ (∀ i t j, s = .inr i → aSi kk T (k + 1) i = .inr (t, j) → cCt κ T kk pp ee f A D σ.2.1 σ' cd (nRes f pp ee nm ν) t (fun _ => none) 0 e ∧ pl = pp (tPl t) ∧ cNm pp ee f σ' D nm (nCt f pp ee t ν) cd nf2 ∧ am2 = am + nI (tAt t) ∧ ff2 = fCt pp (nRes f pp ee nm ν) t ff) := fun hF => by
      obtain ⟨m1, hm1⟩ : ∃ m1, m = m1 + 1 := ⟨m - 1, by omega⟩
      obtain ⟨σ', at2, am2, bd2, nf2, ff2, b1, b2, b3, ⟨b4, b4b⟩, ⟨b5, b5b⟩, ⟨b6, b6b⟩, b7⟩ := c_cmp (κ := κ) (T := T) (m := m1) (nm := nm) (ν := ν) v1 ho N1 e1 (by omega) hT hwl
      rw [← hm1] at b1
      rw [oob_at v1.2.1, obn_at, b1, orn_at]
      have eF : aTo s (aSi kk T (k + 1)) = aTo s (aCm kk T) := by
        cases s with
        | inl j => rfl
        | inr i => rw [aTo_ok, aTo_ok, hF i rfl]
      have fr : cFr A σ D σ' D := ⟨by omega, fun a ha hmu => by rw [b4b a (by omega) hmu (by omega), k1 a (by omega)], Or.inl rfl, Or.inl rfl⟩
      have ndp : cPn σ' σ.2.1 (pp at') := b6b
      refine ⟨σ', at2, am2, bd2, nf2, ff2, σ.2.1, pp at', rfl, b2, by rw [eF]; exact b3, fr, ⟨ndp, Nat.le_refl _⟩, ⟨by omega, by omega⟩, b6, fun i t j hi ht => ?_⟩
      rw [hF i hi] at ht
      have hati : at' = i := by rw [hi] at ho; exact ho.2.1
      obtain ⟨c1, c2, c3⟩ := b7 i t j hi ht
      have ok : cOk A D σ.2.1 σ' σ.2.1 := h.new (Nat.le_refl _) (by omega)
      have c2' : cCr κ T kk pp ee f A D σ.2.1 σ' σ.2.1 i cd (nRes f pp ee nm ν) t := c2.kp (cKp.fr b2 (cFr.rf _ _ _) (by omega) (b2.1.1.2.1 _ lowσ)) rfl
      rcases c3 with ⟨q1, q2, q3⟩ | ⟨j1, S, S', q1, q2, q3⟩
      · subst q1
        exact ⟨⟨ok, c2'⟩, by rw [hati]; rfl, q2, c1, q3⟩
      · subst q1
        exact ⟨⟨ok, c2'⟩, by rw [hati]; rfl, q2, c1, q3⟩
    cases s with
    | inl j =>
      have c0 : cK kk (.inl j) = 0 := rfl
      rw [c0, if_neg (by decide), if_neg (by decide), if_neg (by decide), if_neg (by decide)]
      rw [c0] at e1
      exact CMP (fun i hi => by cases hi)
    | inr i0 =>
      have ho' := ho
      obtain ⟨o1, o2, o3⟩ := ho
      subst o2
      have ck : cK kk (.inr at') = kk at' := rfl
      rw [ck] at e1 ⊢
      have lt : ∀ q, 0 < q → q < 400 → kk at' = nI q → at' < cnt := fun q q1 q2 ek => by
        by_cases c : at' < cnt
        · exact c
        · rw [show at' = cnt by omega, h.1.2.2.2.2.2.1] at ek
          have := nI_inj' (a := 0) (by omega) (by omega) ek
          omega
      have nis : ∀ a b : Nat, a < 400 → b < 400 → a ≠ b → kk at' = nI a → ¬ aIs kk b at' = true := fun a b a1 b1 hab ek z => by
        have z' : kk at' = nI b := of_decide_eq_true z
        rw [ek] at z'
        exact hab (nI_inj' (by omega) (by omega) z')
      -- the word is read
      have NX : at' < cnt → ∃ σ2, oF κ T m 105 [va_rf (some (A 0))] σ1 = some (none, σ2) ∧ cV κ sz len cnt kk pp ee f A nq ni rt σ2 D (at' + 1) cd cn am bd nf ff ∧ cFr A σ1 D σ2 D ∧ cO pp cnt (at' + 1) bd (.inr (at' + 1)) ∧ σ2.2 = σ1.2 ∧ cNm pp ee f σ2 D nm ν cd nf ∧ (∀ a, a ≠ A 0 → σ2.1 a = σ1.1 a) := fun hlt => by
        obtain ⟨q1, q2, q3, q4⟩ := c_next (κ := κ) (T := T) (n := m) v1 ho' hlt (by omega)
        exact ⟨_, q1, q2, q3, q4, rfl, (N1 at' rfl).k0 v1.2.1 (fun a ha => oput_ne ha) rfl, fun a ha => oput_ne ha⟩
      -- true, false
      have TF : ∀ q kd, (q = 1 ∧ kd = 223 ∨ q = 0 ∧ kd = 205) → kk at' = nI kd → ∃ σ' at2 am2 bd2 nf2 ff2 e pl, (obn (oob σ1 (some (A 0)) 9) fun a34 => ocv (oF κ T m 105 [va_rf (some (A 0))] σ1) fun s36 => obn (ovi (ofd s36 (some (A 0)) 9 14)) fun v39 => obn (opf s36 (some (A 0)) 9 14 (.int (v39 + 1))) fun s41 => some (some (va_rf (some σ.2.1)), s41)) = some (some (va_rf (some e)), σ') ∧ cV κ sz len cnt kk pp ee f A nq ni rt σ' D at2 cd cn am2 bd2 nf2 ff2 ∧ cO pp cnt at2 bd2 (aTo (.inr at') (aSi kk T (k + 1))) ∧ cFr A σ D σ' D ∧ (cPn σ' e pl ∧ σ.2.1 ≤ e) ∧ (σ'.2.2.1 + 30 * at' ≤ σ.2.2.1 + 22 + 30 * at2 ∧ σ'.2.2.2 + 240 * at' ≤ σ.2.2.2 + 165 + 240 * at2) ∧ at' ≤ at2 ∧ (∀ i t j, (Sum.inr at' : Sum Nat Nat) = Sum.inr i → aSi kk T (k + 1) i = .inr (t, j) → cCt κ T kk pp ee f A D σ.2.1 σ' cd (nRes f pp ee nm ν) t (fun _ => none) 0 e ∧ pl = pp (tPl t) ∧ cNm pp ee f σ' D nm (nCt f pp ee t ν) cd nf2 ∧ am2 = am + nI (tAt t) ∧ ff2 = fCt pp (nRes f pp ee nm ν) t ff) := fun q kd hq ek => by
        have hlt := lt kd (by omega) (by omega) ek
        have eA : aSi kk T (k + 1) at' = .inr (tN 23 at' q 0 s0 s0 tZ tZ, at' + 1) := by
          rw [aSi]
          rcases hq with ⟨rfl, rfl⟩ | ⟨rfl, rfl⟩
          · rw [if_neg (nis 223 217 (by omega) (by omega) (by omega) ek), if_neg (nis 223 40 (by omega) (by omega) (by omega) ek), if_pos (show aIs kk 223 at' = true from decide_eq_true ek)]
          · rw [if_neg (nis 205 217 (by omega) (by omega) (by omega) ek), if_neg (nis 205 40 (by omega) (by omega) (by omega) ek), if_neg (nis 205 223 (by omega) (by omega) (by omega) ek), if_pos (show aIs kk 205 at' = true from decide_eq_true ek)]
        obtain ⟨σ2, q1, q2, q3, q4, q5, q6, q7⟩ := NX hlt
        have q51 : σ2.2.1 = σ1.2.1 := by rw [q5]
        have q52 : σ2.2.2.1 = σ1.2.2.1 := by rw [q5]
        have q53 : σ2.2.2.2 = σ1.2.2.2 := by rw [q5]
        have f14 : ofd σ2 (some (A 0)) 9 14 = some (.int am) := by rw [ofd_at q2.2.1]; rfl
        have p3 : opf σ2 (some (A 0)) 9 14 (.int (am + 1)) = some (oput σ2 (A 0) (.inr (9, cPs A nq ni rt (at' + 1) cd cn (am + 1) bd nf ff))) := by
          rw [opf_at q2.2.1 (show 14 < 18 by decide)]; rfl
        rw [oob_at v1.2.1, obn_at, q1, ocv_at, f14, ovi_in, obn_at, p3, obn_at]
        obtain ⟨v3, r3⟩ := q2.put (at2 := at' + 1) (cd2 := cd) (cn2 := cn) (am2 := am + 1) (bd2 := bd) (nf2 := nf) (ff2 := ff) q2.2.2.1 q2.2.2.2.1 (Nat.le_refl _)
        have fr : cFr A σ D (oput σ2 (A 0) (.inr (9, cPs A nq ni rt (at' + 1) cd cn (am + 1) bd nf ff))) D := (r1.tr q3).tr r3
        have e3 := q2.kd r3 (v1.kd q3 e1 (by omega)) (by omega)
        refine ⟨_, at' + 1, am + 1, bd, nf, ff, σ.2.1, pp at', rfl, v3, by rw [aTo_ok, eA]; exact q4, fr, ⟨⟨_, e3, cNd_1 ..⟩, Nat.le_refl _⟩, ⟨?_, ?_⟩, Nat.le_succ _, fun i t j hi ht => ?_⟩
        · show σ2.2.2.1 + 30 * at' ≤ _; omega
        · show σ2.2.2.2 + 240 * at' ≤ _; omega
        · cases hi
          rw [eA] at ht
          cases ht
          refine ⟨⟨h.new (Nat.le_refl _) (show σ.2.1 < σ2.2.1 by omega), ?_⟩, rfl, q6.k0 q2.2.1 (fun a ha => oput_ne ha) rfl, rfl, rfl⟩
          rw [e3, ek]
          rcases hq with ⟨rfl, rfl⟩ | ⟨rfl, rfl⟩ <;> rfl
      by_cases c40 : kk at' = 40
      · -- in parentheses
        rw [if_pos c40]
        have hlt := lt 40 (by omega) (by omega) c40
        obtain ⟨σ2, q1, q2, q3, q4, q5, q6, q7⟩ := NX hlt
        have q51 : σ2.2.1 = σ1.2.1 := by rw [q5]
        have q52 : σ2.2.2.1 = σ1.2.2.1 := by rw [q5]
        have q53 : σ2.2.2.2 = σ1.2.2.2 := by rw [q5]
        rw [oob_at v1.2.1, obn_at, q1, ocv_at, oob_at q2.2.1, obn_at]
        obtain ⟨σ3, at3, am3, bd3, nf3, ff3, e, pl, y1, y2, y3, y4, ⟨⟨fs, y5, y5b⟩, y5c⟩, ⟨y6, y6b⟩, y7, y8⟩ := HE' σ2 (at' + 1) am bd nf ff (.inr (at' + 1)) ν q2 q4 (fun _ _ => q6)
        rw [y1, orn_at, oob_at y2.2.1, obn_at]
        obtain ⟨σ4, at4, bd4, x1, x2, x3, x4, x5, x6, x7⟩ := c_expect (κ := κ) (T := T) (n := m) (k := 41) y2 y3 (by omega) (by omega)
        have x1' : oF κ T m 108 [va_rf (some (A 0)), .int 41] σ3 = some (none, σ4) := x1
        rw [x1', ocv_at]
        have x51 : σ4.2.1 = σ3.2.1 := by rw [x5]
        have x52 : σ4.2.2.1 = σ3.2.2.1 := by rw [x5]
        have x53 : σ4.2.2.2 = σ3.2.2.2 := by rw [x5]
        have eA : aSi kk T (k + 1) at' = (aEi kk T (aSi kk T k) (at' + 1)).on fun c j => (aMs kk 41 j).on fun _ j' => .inr (c, j') := by
          rw [aSi, if_neg (nis 40 217 (by omega) (by omega) (by omega) c40), if_pos (show aIs kk 40 at' = true from decide_eq_true c40)]
        refine ⟨σ4, at4, am3, bd4, nf3, ff3, e, pl, rfl, x2, ?_, ((r1.tr q3).tr y4).tr x4, ⟨⟨fs, y2.kd x4 y5 (by omega), y5b⟩, by omega⟩, ⟨by omega, by omega⟩, by omega, fun i t j hi ht => ?_⟩
        · rw [aTo_ok, eA]
          rw [aTo_ok] at x3
          cases es : aEi kk T (aSi kk T k) (at' + 1) with
          | inl j => rw [es] at x3; exact x3
          | inr r =>
            obtain ⟨t, j⟩ := r
            rw [es] at x3
            have x3' : cO pp cnt at4 bd4 (aMs kk 41 j).st := x3
            show cO pp cnt at4 bd4 ((aMs kk 41 j).on fun _ j' => (.inr (t, j') : aR tT)).st
            cases em : aMs kk 41 j with
            | inl j2 => rw [em] at x3'; exact x3'
            | inr r2 => rw [em] at x3'; exact x3'
        · cases hi
          rw [eA] at ht
          obtain ⟨t', j1, es, ht⟩ := on_ok ht
          obtain ⟨u, j2, em, ht⟩ := on_ok ht
          cases ht
          obtain ⟨w1, w2, w3, w4, w5⟩ := y8 (at' + 1) t j1 rfl es
          refine ⟨cCt.kp (cKp.fr y2 x4 (by omega) (x2.1.1.2.1 _ lowσ)) t _ _ _ w1, w2, w3.k0 y2.2.1 x6 rfl, w4, w5⟩
      · rw [if_neg c40]
        by_cases c205 : kk at' = 205
        · rw [if_pos c205]
          exact TF 0 205 (Or.inr ⟨rfl, rfl⟩) c205
        · rw [if_neg c205]
          by_cases c217 : kk at' = 217
          · -- not
            rw [if_pos c217]
            have hlt := lt 217 (by omega) (by omega) c217
            obtain ⟨σ2, q1, q2, q3, q4, q5, q6, q7⟩ := NX hlt
            have q51 : σ2.2.1 = σ1.2.1 := by rw [q5]
            have q52 : σ2.2.2.1 = σ1.2.2.1 := by rw [q5]
            have q53 : σ2.2.2.2 = σ1.2.2.2 := by rw [q5]
            rw [oob_at v1.2.1, obn_at, q1, ocv_at, oob_at q2.2.1, obn_at]
            obtain ⟨σ3, at3, am3, bd3, nf3, ff3, e, pl, y1, y2, y3, y4, ⟨⟨fs, y5, y5b⟩, y5c⟩, ⟨y6, y6b⟩, y7, y8⟩ := HS' σ2 (at' + 1) am bd nf ff (.inr (at' + 1)) ν q2 q4 (fun _ _ => q6)
            rw [y1, orn_at]
            have e3 := q2.kd y4 (v1.kd q3 e1 (by omega)) (by omega)
            have p4 : opf σ3 (some σ.2.1) 7 12 (va_rf (some e)) = some (oput σ3 σ.2.1 (.inr (7, cNf (pp at') (nI cd) e))) := by
              rw [opf_at e3 (show 12 < 21 by decide), c217]; rfl
            rw [p4, obn_at]
            have v4 := y2.fl (fs' := cNf (pp at') (nI cd) e) e3 (by omega)
            have eA : aSi kk T (k + 1) at' = (aSi kk T k (at' + 1)).on fun c j => .inr (tN 22 at' 0 0 s0 s0 c tZ, j) := by
              rw [aSi, if_pos (show aIs kk 217 at' = true from decide_eq_true c217)]
            have r3 := (r1.tr q3).tr y4
            have y41 := y4.1
            refine ⟨_, at3, am3, bd3, nf3, ff3, σ.2.1, pp at', rfl, v4, ?_, ⟨r3.1, fun a ha hmu => ?_, Or.inl rfl, Or.inl rfl⟩, ⟨⟨_, oput_eq _ _ _, rfl⟩, Nat.le_refl _⟩, ⟨?_, ?_⟩, by omega, fun i t j hi ht => ?_⟩
            · rw [aTo_ok, eA]
              rw [aTo_ok] at y3
              cases es : aSi kk T k (at' + 1) with
              | inl j => rw [es] at y3; exact y3
              | inr r => rw [es] at y3; exact y3
            · rw [oput_ne (by omega)]; exact r3.2.1 a ha hmu
            · show σ3.2.2.1 + 30 * at' ≤ _; omega
            · show σ3.2.2.2 + 240 * at' ≤ _; omega
            · cases hi
              rw [eA] at ht
              obtain ⟨t', j1, es, ht⟩ := on_ok ht
              cases ht
              obtain ⟨w1, w2, w3, w4, w5⟩ := y8 (at' + 1) t' j rfl es
              refine ⟨⟨h.new (Nat.le_refl _) (show σ.2.1 < σ3.2.1 by omega), e, oput_eq _ _ _, cCt.kp (cKp.bf e3 (by omega) (by omega) (y2.1.1.2.1 _ lowσ)) t' _ _ _ w1⟩, rfl, ?_, w4, w5⟩
              exact w3.gn (fun a c ea hc => by
                rw [oput_ne (fun z => by rw [z, e3] at ea; cases ea; rcases hc with ⟨x, y⟩ | ⟨x, y⟩ | ⟨x, y⟩ <;> cases y)]
                exact ea)
          · rw [if_neg c217]
            by_cases c223 : kk at' = 223
            · rw [if_pos c223]
              exact TF 1 223 (Or.inl ⟨rfl, rfl⟩) c223
            · rw [if_neg c223]
              refine CMP (fun i hi => ?_)
              cases hi
              rw [aSi, if_neg (show ¬ aIs kk 217 at' = true from fun z => c217 (of_decide_eq_true z)), if_neg (show ¬ aIs kk 40 at' = true from fun z => c40 (of_decide_eq_true z)), if_neg (show ¬ aIs kk 223 at' = true from fun z => c223 (of_decide_eq_true z)), if_neg (show ¬ aIs kk 205 at' = true from fun z => c205 (of_decide_eq_true z))]
end CQE
