/-! the class's parser: an INPUT -/
def iCd (g : Nat) : Int32 := if g = 0 then 210 else if g = 1 then 202 else 200
section CRO
variable {κ : oKv} {sz T n m len cnt : Nat} {kk pp ee f : Nat → Int32} {A : Nat → Nat} {nq ni : Int32} {rt : Value} {σ σ' : oSt} {D D' : cDt} {at' cd q : Nat} {cn am bd nf ff : Int32} {s : Sum Nat Nat} {nm nm' : Nat → Option Nat} {ν : nSt} {lo e i : Nat}
/-- a NAME's object: its base changed -/
theorem cNc.b3 {b b' u : Nat} {fs : List Value} {v : Int32} (hb : σ.1 b = some (.inr (6, fs))) (h : cNc pp ee f σ b' u) : cNc pp ee f (oput σ b (.inr (6, fs.set 3 (.int v)))) b' u := by
  obtain ⟨q, w, i1, i2, i3, g, t1, t2, t3⟩ := h
  have kt : cTx (oput σ b (.inr (6, fs.set 3 (.int v)))) q w (wL pp ee u) g := t2.keep (oput_ne (fun z => by have y := t2.1; rw [z, hb] at y; cases y)) (oput_ne (fun z => by have y := t2.2.1; rw [z, hb] at y; cases y))
  by_cases z : b' = b
  · subst z
    rw [hb] at t1
    injection t1 with t1; injection t1 with t1; injection t1 with _ t1
    exact ⟨q, w, i1, i2, v, g, by rw [oput_eq, t1]; rfl, kt, t3⟩
  · exact ⟨q, w, i1, i2, i3, g, by rw [oput_ne z]; exact t1, kt, t3⟩
theorem cQn.b3 {b : Nat} {fs : List Value} {v : Int32} (hb : σ.1 b = some (.inr (6, fs))) (h : cQn pp ee f σ D nm ν cd nf i) : cQn pp ee f (oput σ b (.inr (6, fs.set 3 (.int v)))) D nm ν cd nf i := by
  obtain ⟨⟨a1, a2, a3, a4, a5, a6⟩, q⟩ := h
  refine ⟨⟨a1, fun k u e hk => ?_, a3, a4, a5, fun u hu => ?_⟩, q⟩
  · obtain ⟨b', b1, b2, b3⟩ := a2 k u e hk
    exact ⟨b', b1, b2, b3.b3 hb⟩
  · obtain ⟨b', b1, b2⟩ := a6 u hu
    exact ⟨b', b1, b2.b3 hb⟩
theorem aNp_st (kk : Nat → Int32) (i : Nat) : (aNp kk i).st = aTo (aTo (aTo (aTo (.inr (i + 1)) (aMs kk 1)) (aMs kk 58)) (aBs kk 210 202 200)) (aMs kk 59) := by
  unfold aNp
  simp only [aTo]
  cases aMs kk 1 (i + 1) with
  | inl k => rfl
  | inr p =>
  obtain ⟨t, i1⟩ := p
  simp only [aR.on, aR.st]
  cases aMs kk 58 i1 with
  | inl k => rfl
  | inr p =>
  obtain ⟨t, i2⟩ := p
  simp only
  cases aBs kk 210 202 200 i2 with
  | inl k => rfl
  | inr p =>
  obtain ⟨t, i3⟩ := p
  simp only
  cases aMs kk 59 i3 with
  | inl k => rfl
  | inr p => rfl
set_option maxHeartbeats 1000000 in
theorem c_input (h : cV κ sz len cnt kk pp ee f A nq ni rt σ D at' cd cn am bd nf ff) (ho : cO pp cnt at' bd (.inr at')) (hi : at' < cnt) (hq : cQn pp ee f σ D nm ν cd nf at') (hcd : cd < 3990) (hm : 10 ≤ m) (hT : 2010 ≤ T) (hwl : ∀ j, j < cnt → wL pp ee j ≤ 10) : ∃ σ' D' at2 bd2 nf2 b q base, oF κ T (m + 1) 117 [va_rf (some (A 0))] σ = some (none, σ') ∧ cV κ sz len cnt kk pp ee f A nq ni rt σ' D' at2 (cd + 1) cn am bd2 nf2 ff ∧ cO pp cnt at2 bd2 (aNp kk at').st ∧ cFr A σ D σ' D' ∧ (σ.2.1 ≤ b ∧ σ'.1 b = some (.inr (6, ((cNa q).set 3 (.int base)).set 1 (.int (nI cd))))) ∧ (σ'.2.2.1 ≤ σ.2.2.1 + 4 ∧ σ'.2.2.2 + 4 * D.1.2.2.1 + 4 * D.1.2.2.2.1 ≤ σ.2.2.2 + 22 + 4 * D'.1.2.2.1 + 4 * D'.1.2.2.2.1) ∧ (D'.2.2.2 = D.2.2.2 ∧ D'.1.2.2.2.2.2 = D.1.2.2.2.2.2 ∧ at' < at2) ∧ (∀ x j, aNp kk at' = .inr (x, j) → x.1 = at' + 1 ∧ base = iCd x.2 ∧ cQn pp ee f σ' D' (nPut nm (at' + 1) b) (nCnt (at' + 1) (nTell f pp ee (at' + 1) ν)) (cd + 1) nf2 j) := by
  rw [oE_X7_readInput]
  unfold ob_X7_readInput
  obtain ⟨σ1, a1, v1, o1, r1, z1, k1⟩ := w_next (κ := κ) (T := T) (n := m) h ho hi (by omega)
  have q1 : cQn pp ee f σ1 D nm ν cd nf (at' + 1) := (hq.kf h r1).le (Nat.le_succ _)
  have l1 : σ1.2.1 = σ.2.1 := by rw [z1]
  rw [oob_at h.2.1, obn_at, a1, ocv_at, oob_at v1.2.1, obn_at]
  obtain ⟨σ2, D2, at2, bd2, nf2, b, q, b1, v2, o2, r2, ⟨b3, b4⟩, ⟨b5, b6⟩, ⟨b7, b8, b9, b10⟩, b11⟩ := c_tellQ (κ := κ) (T := T) (n := m) v1 o1 (fun i hi => by cases hi; exact q1) (by omega) hT hwl
  obtain ⟨σ3, at3, bd3, x1, v3, o3, r3, z3, k3, x5⟩ := c_expect (κ := κ) (T := T) (k := 58) (n := m) v2 o2 (by decide) (by omega)
  have x1' : oF κ T m 108 [va_rf (some (A 0)), .int 58] σ2 = some (none, σ3) := x1
  have c3 := v2.kd r3 b4 (by omega)
  rw [b1, orn_at, oob_at v2.2.1, obn_at, x1', ocv_at, oob_at v3.2.1, obn_at, c_kind (n := m) v3 o3 (by omega), oin_at]
  have N3 : ∀ i, aTo (aTo (.inr (at' + 1)) (aMs kk 1)) (aMs kk 58) = .inr i → cQn pp ee f σ3 D2 (nPut nm (at' + 1) b) (nTell f pp ee (at' + 1) ν) cd nf2 i ∧ cNc pp ee f σ3 b (at' + 1) ∧ wL pp ee (at' + 1) ≤ 2000 := fun i hi => by
    obtain ⟨i2, u, h2, m2⟩ := aTo_inr hi
    obtain ⟨i1, t, h1, c1⟩ := aTo_inr h2
    injection h1 with h1
    subst h1
    obtain ⟨d1, d2, d3⟩ := b11 _ rfl (aMs_inr c1).1
    have i2e := (aMs_inr c1).2
    have ie := (aMs_inr m2).2
    exact ⟨(d1.le (by omega)).kf v2 r3, d2.keep (v2.ty r3), d3⟩
  -- from ; on
  have FIN : ∀ (σ4 : oSt) (at4 : Nat) (bd4 base : Int32), cV κ sz len cnt kk pp ee f A nq ni rt σ4 D2 at4 cd cn am bd4 nf2 ff → cO pp cnt at4 bd4 (aTo (aTo (aTo (.inr (at' + 1)) (aMs kk 1)) (aMs kk 58)) (aBs kk 210 202 200)) → cFr A σ D σ4 D2 → σ4.2 = σ3.2 → at3 ≤ at4 → σ4.1 b = some (.inr (6, (cNa q).set 3 (.int base))) → (∀ i, aTo (aTo (.inr (at' + 1)) (aMs kk 1)) (aMs kk 58) = .inr i → cQn pp ee f σ4 D2 (nPut nm (at' + 1) b) (nTell f pp ee (at' + 1) ν) cd nf2 i ∧ cNc pp ee f σ4 b (at' + 1)) → (∀ i g j, aTo (aTo (.inr (at' + 1)) (aMs kk 1)) (aMs kk 58) = .inr i → aBs kk 210 202 200 i = .inr (g, j) → base = iCd g) → ∃ σ' D' at2 bd2 nf2 b' q' base', oj_X7_readInput_57 T (oF κ T m) κ (some (A 0)) (some b) σ4 = some (none, σ') ∧ cV κ sz len cnt kk pp ee f A nq ni rt σ' D' at2 (cd + 1) cn am bd2 nf2 ff ∧ cO pp cnt at2 bd2 (aNp kk at').st ∧ cFr A σ D σ' D' ∧ (σ.2.1 ≤ b' ∧ σ'.1 b' = some (.inr (6, ((cNa q').set 3 (.int base')).set 1 (.int (nI cd))))) ∧ (σ'.2.2.1 ≤ σ.2.2.1 + 4 ∧ σ'.2.2.2 + 4 * D.1.2.2.1 + 4 * D.1.2.2.2.1 ≤ σ.2.2.2 + 22 + 4 * D'.1.2.2.1 + 4 * D'.1.2.2.2.1) ∧ (D'.2.2.2 = D.2.2.2 ∧ D'.1.2.2.2.2.2 = D.1.2.2.2.2.2 ∧ at' < at2) ∧ (∀ x j, aNp kk at' = .inr (x, j) → x.1 = at' + 1 ∧ base' = iCd x.2 ∧ cQn pp ee f σ' D' (nPut nm (at' + 1) b') (nCnt (at' + 1) (nTell f pp ee (at' + 1) ν)) (cd + 1) nf2 j) := fun σ4 at4 bd4 base v4 o4 r4 z4 h34 c4 N4 hb => by
    unfold oj_X7_readInput_57
    obtain ⟨σ5, at5, bd5, y1, v5, o5, r5, z5, k5, y5⟩ := c_expect (κ := κ) (T := T) (k := 59) (n := m) v4 o4 (by decide) (by omega)
    have y1' : oF κ T m 108 [va_rf (some (A 0)), .int 59] σ4 = some (none, σ5) := y1
    have c5 := v4.kd r5 c4 (by omega)
    obtain ⟨σ6, D6, s1, v6, s3, s4, s5, ⟨s6, s7⟩, s8⟩ := c_countQ (κ := κ) (T := T) (n := m) v5 c5 rfl hcd (by omega)
    rw [oob_at v4.2.1, obn_at, y1', ocv_at, oob_at v5.2.1, obn_at, s1, ocv_at]
    have R05 : cFe A σ.2.1 σ D σ5 D2 := (r4.tr r5).fe _
    refine ⟨σ6, D6, at5, bd5, nf2, b, q, base, rfl, v6, by rw [aNp_st]; exact o5, (R05.ct s3 s4 s6 (by omega)).fr (Nat.le_refl _), ⟨by omega, s5⟩, ⟨?_, ?_⟩, ⟨by rw [s7, b7], by rw [s6, b8], by omega⟩, fun x j hx => ?_⟩
    · have w1 : σ6.2.2.1 = σ2.2.2.1 := by rw [s4, z5, z4, z3]
      have w2 : σ1.2.2.1 = σ.2.2.1 := by rw [z1]
      omega
    · have w1 : σ6.2.2.2 = σ2.2.2.2 := by rw [s4, z5, z4, z3]
      have w2 : σ1.2.2.2 = σ.2.2.2 := by rw [z1]
      rw [s6]
      omega
    · unfold aNp at hx
      obtain ⟨_, i2, h1, hx⟩ := on_inr hx
      obtain ⟨_, i3, h2, hx⟩ := on_inr hx
      obtain ⟨g, i4, h3, hx⟩ := on_inr hx
      obtain ⟨_, i5, h4, hx⟩ := on_inr hx
      injection hx with hx
      injection hx with hx1 hx2
      subst hx1
      subst hx2
      have S2 := aTo_eq (s := .inr (at' + 1)) rfl h1
      have S3 := aTo_eq S2 h2
      obtain ⟨w1, w2⟩ := N4 i3 S3
      have j3 := (aBs_c h3).1
      have j4 := (aMs_inr h4).2
      exact ⟨rfl, hb i3 g i4 S3 h3, s8 _ _ _ _ ((w1.le (by omega)).kf v4 r5) (w2.keep (v4.ty r5)) (N3 i3 S3).2.2 nPut_eq (by rw [(nTell_12 _ _).2]; simp)⟩
  have R03 : cFr A σ D σ3 D2 := (r1.tr r2).tr r3
  -- a base
  have OK : ∀ (k g i : Nat), aTo (aTo (.inr (at' + 1)) (aMs kk 1)) (aMs kk 58) = .inr i → kk i = nI k → iCd g = nI k → 0 < k → k < 2 ^ 31 → aBs kk 210 202 200 i = .inr (g, i + 1) → ∃ σ' D' at2 bd2 nf2 b' q' base', oj_X7_readInput_41 T (oF κ T m) κ (some (A 0)) (some b) (kk i) σ3 = some (none, σ') ∧ cV κ sz len cnt kk pp ee f A nq ni rt σ' D' at2 (cd + 1) cn am bd2 nf2 ff ∧ cO pp cnt at2 bd2 (aNp kk at').st ∧ cFr A σ D σ' D' ∧ (σ.2.1 ≤ b' ∧ σ'.1 b' = some (.inr (6, ((cNa q').set 3 (.int base')).set 1 (.int (nI cd))))) ∧ (σ'.2.2.1 ≤ σ.2.2.1 + 4 ∧ σ'.2.2.2 + 4 * D.1.2.2.1 + 4 * D.1.2.2.2.1 ≤ σ.2.2.2 + 22 + 4 * D'.1.2.2.1 + 4 * D'.1.2.2.2.1) ∧ (D'.2.2.2 = D.2.2.2 ∧ D'.1.2.2.2.2.2 = D.1.2.2.2.2.2 ∧ at' < at2) ∧ (∀ x j, aNp kk at' = .inr (x, j) → x.1 = at' + 1 ∧ base' = iCd x.2 ∧ cQn pp ee f σ' D' (nPut nm (at' + 1) b') (nCnt (at' + 1) (nTell f pp ee (at' + 1) ν)) (cd + 1) nf2 j) := fun k g i hs hk hb h0 hk2 hB => by
    unfold oj_X7_readInput_41
    have o3' := o3
    rw [hs] at o3'
    have hat := o3'.2.1
    subst hat
    have hlt := kk_lt v3 o3'.2.2 hk h0 hk2
    have pe : opf σ3 (some b) 6 3 (.int (kk at3)) = some (oput σ3 b (.inr (6, (cNa q).set 3 (.int (kk at3))))) := opf_at c3 (show 3 < 8 by decide)
    rw [pe, obn_at]
    have v4 := v3.fl (fs' := (cNa q).set 3 (.int (kk at3))) c3 (by omega)
    have c4 : (oput σ3 b (.inr (6, (cNa q).set 3 (.int (kk at3))))).1 b = some (.inr (6, (cNa q).set 3 (.int (kk at3)))) := oput_eq _ _ _
    have f4 : cFe A b σ3 D2 (oput σ3 b (.inr (6, (cNa q).set 3 (.int (kk at3))))) D2 := cFe.put
    have z4 : (oput σ3 b (.inr (6, (cNa q).set 3 (.int (kk at3))))).2 = σ3.2 := rfl
    have Q4 : ∀ i, aTo (aTo (.inr (at' + 1)) (aMs kk 1)) (aMs kk 58) = .inr i → cQn pp ee f (oput σ3 b (.inr (6, (cNa q).set 3 (.int (kk at3))))) D2 (nPut nm (at' + 1) b) (nTell f pp ee (at' + 1) ν) cd nf2 i ∧ cNc pp ee f (oput σ3 b (.inr (6, (cNa q).set 3 (.int (kk at3))))) b (at' + 1) := fun i hi => ⟨(N3 i hi).1.b3 c3, (N3 i hi).2.1.b3 c3⟩
    generalize oput σ3 b (.inr (6, (cNa q).set 3 (.int (kk at3)))) = σ4 at v4 c4 f4 z4 Q4 ⊢
    obtain ⟨σ5, a5, v5, o5, r5, z5, k5⟩ := w_next (κ := κ) (T := T) (n := m) v4 o3' hlt (by omega)
    rw [oob_at v4.2.1, obn_at, a5, ocv_at]
    refine FIN σ5 (at3 + 1) bd3 (kk at3) v5 (by rw [hs, aTo_ok, hB]; exact o5) ?_ (z5.trans z4) (Nat.le_succ _) (v4.kd r5 c4 (by omega)) (fun i hi => ?_) (fun i g' j' hi hg' => ?_)
    · exact ((R03.fe b).tr (f4.tr (r5.fe _))).fr (by omega)
    · obtain ⟨w1, w2⟩ := Q4 i hi
      exact ⟨w1.kf v4 r5, w2.keep (v4.ty r5)⟩
    · rw [hs] at hi
      injection hi with hi
      subst hi
      rw [hB] at hg'
      injection hg' with hg'
      injection hg' with hg1 hg2
      rw [hk, ← hg1, hb]
  have GO : ∀ (k g : Nat), cK kk (aTo (aTo (.inr (at' + 1)) (aMs kk 1)) (aMs kk 58)) = nI k → iCd g = nI k → 0 < k → k < 2 ^ 31 → (∀ i, kk i = nI k → aBs kk 210 202 200 i = .inr (g, i + 1)) → ∃ i, aTo (aTo (.inr (at' + 1)) (aMs kk 1)) (aMs kk 58) = .inr i ∧ kk i = nI k ∧ aBs kk 210 202 200 i = .inr (g, i + 1) := fun k g hk hb h0 hk2 hB => by
    obtain ⟨i, hs, hki⟩ := cK_c hk h0 hk2
    exact ⟨i, hs, hki, hB i hki⟩
  by_cases c1 : cK kk (aTo (aTo (.inr (at' + 1)) (aMs kk 1)) (aMs kk 58)) = 210
  · obtain ⟨i, hs, hki, hB⟩ := GO 210 0 c1 rfl (by decide) (by decide) (fun i hk => by unfold aBs; rw [if_pos (show aIs kk 210 i = true from decide_eq_true hk)])
    rw [if_pos c1, hs]
    exact OK 210 0 i hs hki rfl (by decide) (by decide) hB
  rw [if_neg c1]
  by_cases c2 : cK kk (aTo (aTo (.inr (at' + 1)) (aMs kk 1)) (aMs kk 58)) = 202
  · obtain ⟨i, hs, hki, hB⟩ := GO 202 1 c2 rfl (by decide) (by decide) (fun i hk => by unfold aBs; rw [if_neg (aIs_ne hk (c := 210) (by decide) (by decide) (by decide)), if_pos (show aIs kk 202 i = true from decide_eq_true hk)])
    rw [if_pos c2, hs]
    exact OK 202 1 i hs hki rfl (by decide) (by decide) hB
  rw [if_neg c2]
  by_cases c4 : cK kk (aTo (aTo (.inr (at' + 1)) (aMs kk 1)) (aMs kk 58)) = 200
  · obtain ⟨i, hs, hki, hB⟩ := GO 200 2 c4 rfl (by decide) (by decide) (fun i hk => by unfold aBs; rw [if_neg (aIs_ne hk (c := 210) (by decide) (by decide) (by decide)), if_neg (aIs_ne hk (c := 202) (by decide) (by decide) (by decide)), if_pos (show aIs kk 200 i = true from decide_eq_true hk)])
    rw [if_pos c4, hs]
    exact OK 200 2 i hs hki rfl (by decide) (by decide) hB
  rw [if_neg c4]
  obtain ⟨σ4, bd4, f1, v4, o4, r4, z4, k4⟩ := c_fail (κ := κ) (T := T) (n := m) v3 o3 (by omega)
  rw [oob_at v3.2.1, obn_at, f1, ocv_at]
  have nB : ∀ i, aTo (aTo (.inr (at' + 1)) (aMs kk 1)) (aMs kk 58) = .inr i → aBs kk 210 202 200 i = .inl i := fun i hi => by
    unfold aBs
    rw [if_neg (show ¬ aIs kk 210 i = true from fun z => c1 (by rw [hi]; exact of_decide_eq_true z)), if_neg (show ¬ aIs kk 202 i = true from fun z => c2 (by rw [hi]; exact of_decide_eq_true z)), if_neg (show ¬ aIs kk 200 i = true from fun z => c4 (by rw [hi]; exact of_decide_eq_true z))]
  have es : aTo (aTo (aTo (.inr (at' + 1)) (aMs kk 1)) (aMs kk 58)) (aBs kk 210 202 200) = .inl (aWr (aTo (aTo (.inr (at' + 1)) (aMs kk 1)) (aMs kk 58))) := by
    cases e : aTo (aTo (.inr (at' + 1)) (aMs kk 1)) (aMs kk 58) with
    | inl j => rfl
    | inr i => rw [aTo_ok, nB i e]; rfl
  refine FIN σ4 at3 bd4 210 v4 (by rw [es]; exact o4) (R03.tr r4) z4 (Nat.le_refl _) (v3.kd r4 c3 (by omega)) (fun i hi => ?_) (fun i g j hi hg => by rw [nB i hi] at hg; cases hg)
  obtain ⟨w1, w2, w3⟩ := N3 i hi
  exact ⟨w1.kf v3 r4, w2.keep (v3.ty r4)⟩
end CRO
