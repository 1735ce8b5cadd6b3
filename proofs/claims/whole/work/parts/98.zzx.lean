/-! the class's parser: readOpen -/
section CRI
variable {κ : oKv} {sz T n m len cnt : Nat} {kk pp ee f : Nat → Int32} {A : Nat → Nat} {nq ni : Int32} {rt : Value} {σ σ' : oSt} {D D' : cDt} {at' cd : Nat} {cn am bd nf ff : Int32} {s : Sum Nat Nat} {nm nm' : Nat → Option Nat} {ν : nSt} {lo e i : Nat}
set_option maxHeartbeats 4000000 in
theorem c_open {dp : Nat} {G : Nat → aR tT} (hm : 14 ≤ m) (hT : 2010 ≤ T) (hwl : ∀ j, j < cnt → wL pp ee j ≤ 10) (HA : cAc κ sz T len cnt kk pp ee f A nq ni rt dp m G) : cOc κ sz T len cnt kk pp ee f A nq ni rt 142 dp (m + 2) (aOp kk T G) := by
  intro σ D at' cd cn am bd nf ff s nm ν h ho hcd hq
  rw [oE_X7_readOpen]
  unfold ob_X7_readOpen
  rw [oob_at h.2.1, obn_at, c_kind (n := m + 1) h ho (by omega), oin_at]
  -- an S, or two
  have SUM : ∀ (t0 : Int32), ¬ t0 = 91 → cBg t0 = false → (∀ i, s = .inr i → aOp kk T G i = aOq kk T i) → ∃ σ' D' at2 am2 bd2 nf2 ff2 nm' e fs, oj_X7_readOpen_26 T (oF κ T (m + 1)) κ (some (A 0)) (nI dp) t0 σ = some (some (va_rf (some e)), σ') ∧ cV κ sz len cnt kk pp ee f A nq ni rt σ' D' at2 cd cn am2 bd2 nf2 ff2 ∧ cL kk pp cnt at2 bd2 (aTo s (aOp kk T G)) ∧ cFr A σ D σ' D' ∧ (σ.2.1 ≤ e ∧ σ'.1 e = some (.inr (7, fs)) ∧ fs.length = 21) ∧ cEx 1 21 (svA s (aOp kk T G)) σ D at' s σ' D' at2 (aTo s (aOp kk T G)) ∧ (∀ i t j, s = .inr i → aOp kk T G i = .inr (t, j) → cPo κ T kk pp ee f A σ.2.1 D cd cn ff nm ν σ' D' nf2 ff2 nm' e i t j) := fun t0 h91 hcb hOp => by
    unfold oj_X7_readOpen_26
    have CB := c_begin (κ := κ) (T := T) (n := m) (v := t0) (σ := σ)
    rw [hcb, if_neg (by decide)] at CB
    rw [if_neg h91, CB, oin_at, if_pos rfl]
    obtain ⟨σ1, at1, bd1, nf1, e, fs, b1, b2, b3, b4, b5, b6, b7⟩ := c_oq (κ := κ) (T := T) (m := m + 1) (by omega) hT hwl h ho hq
    have st : aTo s (aOp kk T G) = aTo s (aOq kk T) := by
      cases s with
      | inl j => rfl
      | inr i => rw [aTo_ok, aTo_ok, hOp i rfl]
    have sa : svA s (aOp kk T G) = svA s (aOq kk T) := by
      cases s with
      | inl j => rfl
      | inr i => rw [svA_ok, svA_ok, hOp i rfl]
    exact ⟨σ1, D, at1, am, bd1, nf1, ff, nm, e, fs, b1, b2, by rw [st]; exact Or.inl b3, b4, b5, by rw [st, sa]; exact b6, fun i t j hi ht => b7 i t j hi (by rw [← hOp i hi]; exact ht)⟩
  by_cases c1 : cK kk s = 1
  · obtain ⟨i, hs, hi1⟩ := cK_1 c1
    subst hs
    have hat := (ho.at rfl).1
    subst hat
    have hlt : at' < cnt := by
      by_cases q : at' < cnt
      · exact q
      · have : at' = cnt := by have := ho.2.2; omega
        have hk : kk at' = nI 1 := of_decide_eq_true hi1
        rw [this, h.1.2.2.2.2.2.1] at hk
        exact absurd hk (by decide)
    have hlen : cnt ≤ len ∧ len ≤ 2000 := ⟨h.1.2.1.2.2.2.2.2.1, h.1.2.1.2.2.2.2.2.2⟩
    have f0 : ofd σ (some (A 0)) 9 0 = some (.ref (A 1)) := by rw [ofd_at h.2.1]; rfl
    have f1 : ofd σ (some (A 1)) 13 1 = some (.ref (A 4)) := by rw [ofd_at h.1.2.1.1]; rfl
    have f11 : ofd σ (some (A 0)) 9 11 = some (.int (nI at')) := by rw [ofd_at h.2.1]; rfl
    have ai : oai σ (some (A 4)) .int (nI (at' + 1)) = some (kk (at' + 1)) := by
      rw [oai_at h.1.2.1.2.2.1 (zin_n (show at' + 1 < len + 1 by omega) (show len + 1 < 2 ^ 31 by omega)), nI_clamp (show at' + 1 < 2 ^ 31 by omega)]
    rw [if_pos c1, f0, ovr_rf, obn_at, f1, ovr_rf, obn_at, f11, ovi_i, obn_at, show nI at' + 1 = nI (at' + 1) by rw [nI_1], ai, obn_at]
    have hq0 := hq at' rfl
    by_cases c91 : aIs kk 91 (at' + 1) = true
    · -- an element
      unfold oj_X7_readOpen_26
      rw [if_pos (show kk (at' + 1) = 91 from of_decide_eq_true c91), oob_at h.2.1, obn_at]
      obtain ⟨d1, v1, r1⟩ := c_node (κ := κ) (T := T) (n := m + 1) (k := 91) h (by omega)
      rw [d1, orn_at]
      have n1 : (onew σ (.inr (7, cNd 91 (pp at') (nI cd))) 21).1 σ.2.1 = some (.inr (7, cNd 91 (pp at') (nI cd))) := onew_eq _ _ _
      have z1 : (onew σ (.inr (7, cNd 91 (pp at') (nI cd))) 21).2 = (σ.2.1 + 1, σ.2.2.1 + 1, σ.2.2.2 + 21) := rfl
      generalize onew σ (.inr (7, cNd 91 (pp at') (nI cd))) 21 = σ1 at v1 r1 n1 z1 ⊢
      have z11 : σ1.2.1 = σ.2.1 + 1 := by rw [z1]
      obtain ⟨σ2, at2, bd2, nf2, r, mk, l, nd, b1, v2, o2, f2, e2, ⟨b5, b6⟩, ⟨b7, b7b, b7c⟩, b8⟩ := c_idx (κ := κ) (T := T) (m := m) v1 ho (hq0.kf h r1) n1 rfl (Or.inr hi1) (by omega) hT hwl
      rw [oob_at v1.2.1, obn_at, b1, ocv_at]
      have eI : aIx kk T at' = (aSm kk T (at' + 2)).on fun s i3 => (aMs kk 93 i3).on fun _ i4 => .inr (s, i4) := by
        unfold aIx
        rw [show aMs kk 1 at' = .inr ((), at' + 1) by unfold aMs; rw [if_pos hi1]]
        show ((aMs kk 91 (at' + 1)).on _) = _
        rw [show aMs kk 91 (at' + 1) = .inr ((), at' + 2) by unfold aMs; rw [if_pos c91]]
        rfl
      have eO : aOp kk T G at' = (aSm kk T (at' + 2)).on fun s j => (aMs kk 93 j).on fun _ j' => .inr (tN 14 at' 0 0 s s0 tZ tZ, j') := by
        unfold aOp
        rw [if_pos (by rw [hi1, c91]; rfl)]
      have st : aTo (.inr at') (aOp kk T G) = (aIx kk T at').st := by
        rw [aTo_ok, eO, eI]
        cases aSm kk T (at' + 2) with
        | inl k => rfl
        | inr p =>
          obtain ⟨t, i1⟩ := p
          simp only [aR.on, aR.st]
          cases aMs kk 93 i1 with
          | inl k => rfl
          | inr p => rfl
      refine ⟨σ2, D, at2, am, bd2, nf2, ff, nm, σ.2.1, _, rfl, v2, by rw [st]; exact Or.inl o2, (((r1.fe _).tr f2).fr (Nat.le_refl _)), ⟨Nat.le_refl _, e2, rfl⟩, ?_, fun i t j hi ht => ?_⟩
      · have S : svA (.inr at') (aOp kk T G) = 0 := svA_0 (fun i t j hi ht => by
          injection hi with hi
          subst hi
          rw [eO] at ht
          obtain ⟨S, i3, h1, ht⟩ := on_inr ht
          obtain ⟨_, i4, h2, ht⟩ := on_inr ht
          injection ht with ht
          injection ht with ht1 ht2
          rw [← ht1]
          rfl)
        rw [st]
        unfold cEx
        have w1 : σ1.2.2.1 = σ.2.2.1 + 1 := by rw [z1]
        have w2 : σ1.2.2.2 = σ.2.2.2 + 21 := by rw [z1]
        have w3 := fl_le (aIx kk T at').st
        have w4 := b7c hi1
        rw [show fl (.inr at') = 0 from rfl]
        omega
      · injection hi with hi
        subst hi
        rw [eO] at ht
        obtain ⟨S, i3, h1, ht⟩ := on_inr ht
        obtain ⟨_, i4, h2, ht⟩ := on_inr ht
        injection ht with ht
        injection ht with ht1 ht2
        subst ht1
        subst ht2
        obtain ⟨su, w1, w2, w3, w4, w5, w6⟩ := b8 S i4 (by rw [eI, h1]; show ((aMs kk 93 i3).on _) = _; rw [h2]; rfl)
        have KL : cKp κ A D σ1.2.1 σ2 D σ.2.1 σ2 := ⟨fun a w => ⟨rfl, by have := w.1; omega, w.2⟩, fun a gs ea => ⟨gs, ea⟩, fun a gs ea => ⟨gs, ea⟩, v2.low⟩
        refine ⟨?_, w5, fun _ _ => rfl, rfl, rfl, fun _ _ => rfl⟩
        unfold cTr
        rw [← nRes_R, hq0.1.1]
        refine ⟨⟨Nat.le_refl _, alt v2.1.1.1 e2, cMu.no v2 e2 (by omega)⟩, l, nd, su, ?_, w3.kp KL, w4.kp KL⟩
        rw [e2, w1, w2]; rfl
    · by_cases ca : aAr kk (at' + 1) = true
      · -- a call
        unfold oj_X7_readOpen_26
        have CB := c_begin (κ := κ) (T := T) (n := m) (v := kk (at' + 1)) (σ := σ)
        have cb : cBg (kk (at' + 1)) = true := by rw [← aAr_cb]; exact ca
        rw [cb, if_pos rfl] at CB
        rw [if_neg (show ¬ kk (at' + 1) = 91 from fun z => c91 (decide_eq_true z)), CB, oin_at, if_neg (by decide), oob_at h.2.1, obn_at]
        obtain ⟨σ1, D1, at1, am1, bd1, nf1, ff1, nm1, e, fs, b1, b2, b3, b4, b5, b6, b7⟩ := c_call (κ := κ) (T := T) (m := m) (by omega) hT hwl HA h ho hi1 hcd hq0
        have eO : aOp kk T G at' = (aAs kk T G 4 (at' + 1)).on fun as j => .inr (tN 15 at' 0 0 s0 s0 as tZ, j) := by
          unfold aOp
          rw [if_neg (by rw [hi1]; simpa using c91), if_pos (by rw [hi1, ca]; rfl)]
        have st : aTo (.inr at') (aOp kk T G) = aTo (.inr (at' + 1)) (aAs kk T G 4) := by
          rw [aTo_ok, aTo_ok, eO]
          cases aAs kk T G 4 (at' + 1) <;> rfl
        rw [b1, orn_at]
        refine ⟨σ1, D1, at1, am1, bd1, nf1, ff1, nm1, e, fs, rfl, b2, by rw [st]; exact b3, b4, b5, by rw [st, svA_ok, eO]; exact b6, fun i t j hi ht => ?_⟩
        injection hi with hi
        subst hi
        rw [eO] at ht
        obtain ⟨as, j1, h1, ht⟩ := on_inr ht
        injection ht with ht
        injection ht with ht1 ht2
        subst ht1
        subst ht2
        exact b7 as j1 h1
      · refine SUM (kk (at' + 1)) (fun z => c91 (decide_eq_true z)) (by rw [← aAr_cb]; simpa using ca) (fun i hi => ?_)
        injection hi with hi
        subst hi
        unfold aOp
        rw [if_neg (by rw [hi1]; simpa using c91), if_neg (by rw [hi1]; simpa using ca)]
  · rw [if_neg c1]
    refine SUM 0 (by decide) cBg_0 (fun i hi => ?_)
    subst hi
    have n1 : aIs kk 1 i = false := by rw [Bool.eq_false_iff]; exact fun z => c1 (of_decide_eq_true z)
    unfold aOp
    rw [n1, if_neg (by simp), if_neg (by simp)]
end CRI
