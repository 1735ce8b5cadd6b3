/-! the class's parser: a call -/
section CRF
variable {κ : oKv} {sz T n m len cnt : Nat} {kk pp ee f : Nat → Int32} {A : Nat → Nat} {nq ni : Int32} {rt : Value} {lo e pa dp : Nat} {G : Nat → aR tT}
theorem cBg_0 : cBg 0 = false := by decide
theorem aAs_no {r i : Nat} (h : ¬ aAr kk i = true) : aAs kk T G r i = .inr (tZ, i) := by
  cases r with
  | zero => unfold aAs; rw [if_neg h]
  | succ r => unfold aAs; rw [if_neg h]
theorem sv_sh {a : tT → tT} (h : aSh a) (r : tT) : sv (a r) = sv (a tZ) + sv r := by
  rcases h with ⟨d, rfl⟩ | ⟨d, e, rfl⟩ | ⟨d, rfl⟩
  · show (if d.2.1 = 1 then 551 else 132) + (0 + sv r) = (if d.2.1 = 1 then 551 else 132) + (0 + 0) + sv r
    omega
  · show 450 + (sv e + sv r) = 450 + (sv e + 0) + sv r
    omega
  · show 160 + (0 + sv r) = 160 + (0 + 0) + sv r
    omega
theorem sv_as {kk : Nat → Int32} {T : Nat} {G : Nat → aR tT} {r i : Nat} (ha : aAr kk i = true) (hA : ∀ a j, aA1 kk T G i = .inr (a, j) → aSh a) : svA (.inr i) (aAs kk T G (r + 1)) ≤ svP (aA1 kk T G i) + svA (aA1 kk T G i).st (aAs kk T G r) := by
  rw [svA_ok]
  cases hF : aAs kk T G (r + 1) i with
  | inl k => exact Nat.zero_le _
  | inr p =>
    obtain ⟨t, j⟩ := p
    unfold aAs at hF
    rw [if_pos ha] at hF
    obtain ⟨a, i1, h5, hF⟩ := on_inr hF
    obtain ⟨tr, j1, h6, hF⟩ := on_inr hF
    injection hF with hF
    injection hF with hF1 hF2
    subst hF1
    subst hF2
    have S1 : (aA1 kk T G i).st = .inr i1 := by rw [h5]; rfl
    rw [svA_eq S1 h6, h5]
    show sv (a tr) ≤ sv (a tZ) + sv tr
    rw [sv_sh (hA a i1 h5)]
    exact Nat.le_refl _
set_option maxRecDepth 20000 in
set_option maxHeartbeats 4000000 in
theorem c_clp {fs : List Value} (hA : ∀ k, 1 ≤ k → k ≤ 6 → A k < lo) (hm : 8 ≤ m) (HA : cAc κ sz T len cnt kk pp ee f A nq ni rt dp m G) (hfs : fs[18]? = some (.ref pa)) (hel : e < lo) : ∀ (r x3 t : Nat) (σ : oSt) (D : cDt) (at' cd : Nat) (cn am bd nf ff : Int32) (s : Sum Nat Nat) (nm : Nat → Option Nat) (ν : nSt) (d cap : Nat) (mc : Int32) (g : Nat → Option Nat), r + x3 = 4 → r < t → cV κ sz len cnt kk pp ee f A nq ni rt σ D at' cd cn am bd nf ff → cO pp cnt at' bd s → cd ≤ 12 + 6 * dp → (∀ i, s = .inr i → cQn pp ee f σ D nm ν cd nf i) → σ.1 e = some (.inr (7, fs)) → cLs κ σ pa d cap x3 mc g 7 → (cOk A D lo σ d ∨ (d = κ.2.2.1 ∧ σ.1 d = none)) → cOk A D lo σ pa → (cap = 0 ∨ cap = 10) → ∃ σ' D' at2 am2 bd2 nf2 ff2 nm' d' cap' mc' g' q, ol_X7_readCall_37 T (oF κ T m) κ t (some (A 0)) (nI dp) (some e) (nI x3) σ = some (some (va_rf (some e)), σ') ∧ cV κ sz len cnt kk pp ee f A nq ni rt σ' D' at2 cd cn am2 bd2 nf2 ff2 ∧ cL kk pp cnt at2 bd2 (aTo s (aAs kk T G r)) ∧ σ'.1 e = some (.inr (7, fs)) ∧ (cLs κ σ' pa d' cap' (x3 + q) mc' g' 7 ∧ (cOk A D' lo σ' d' ∨ (d' = κ.2.2.1 ∧ σ'.1 d' = none)) ∧ cOk A D' lo σ' pa ∧ (cap' = 0 ∨ cap' = 10) ∧ ∀ j, j < x3 → g' j = g j) ∧ (σ.2.1 ≤ σ'.2.1 ∧ (∀ a, a < σ.2.1 → ¬ cMu A D a → a ≠ pa → a ≠ d → σ'.1 a = σ.1 a) ∧ (D'.1.1 = D.1.1 ∨ σ.2.1 ≤ D'.1.1) ∧ (D'.1.2.1 = D.1.2.1 ∨ σ.2.1 ≤ D'.1.2.1)) ∧ (at' ≤ at2 ∧ 8 * σ'.2.2.1 + cap + 240 * at' + 240 * fl s + svA s (aAs kk T G r) ≤ 8 * σ.2.2.1 + cap' + 240 * at2 + 240 * fl (aTo s (aAs kk T G r)) ∧ σ'.2.2.2 + 4 * D.1.2.2.1 + 4 * D.1.2.2.2.1 + cap + 240 * at' + 350 * fl s + svA s (aAs kk T G r) ≤ σ.2.2.2 + 4 * D'.1.2.2.1 + 4 * D'.1.2.2.2.1 + cap' + 240 * at2 + 350 * fl (aTo s (aAs kk T G r))) ∧ (∀ i t j, s = .inr i → aAs kk T G r i = .inr (t, j) → cTr κ T kk pp ee f A D' lo σ' nm' t ν.1 D.1.2.2.2.2.2 g' x3 (x3 + q) ∧ cQn pp ee f σ' D' nm' (nT f pp ee t ν) cd nf2 j ∧ (∀ u, u < i → nm' u = nm u) ∧ ff2 = fE f pp ee t ν.1 cn ff ∧ D'.1.2.2.2.2.2 = D.1.2.2.2.2.2 + nF t ∧ (∀ x, x < D.1.2.2.2.2.2 → D'.2.2.2 x = D.2.2.2 x))
  | r, x3, t, σ, D, at', cd, cn, am, bd, nf, ff, s, nm, ν, d, cap, mc, g, h1, h3, h, ho, hcd, hn, he, hl, hd, hp, hc => by
    obtain ⟨t', rfl⟩ : ∃ t', t = t' + 1 := ⟨t - 1, by omega⟩
    have STOP : cL kk pp cnt at' bd (aTo s (aAs kk T G r)) → fl s ≤ fl (aTo s (aAs kk T G r)) → (∀ i t j, s = .inr i → aAs kk T G r i = .inr (t, j) → t = tZ ∧ j = i) → ∃ σ' D' at2 am2 bd2 nf2 ff2 nm' d' cap' mc' g' q, (some (some (va_rf (some e)), σ) : oRs) = some (some (va_rf (some e)), σ') ∧ cV κ sz len cnt kk pp ee f A nq ni rt σ' D' at2 cd cn am2 bd2 nf2 ff2 ∧ cL kk pp cnt at2 bd2 (aTo s (aAs kk T G r)) ∧ σ'.1 e = some (.inr (7, fs)) ∧ (cLs κ σ' pa d' cap' (x3 + q) mc' g' 7 ∧ (cOk A D' lo σ' d' ∨ (d' = κ.2.2.1 ∧ σ'.1 d' = none)) ∧ cOk A D' lo σ' pa ∧ (cap' = 0 ∨ cap' = 10) ∧ ∀ j, j < x3 → g' j = g j) ∧ (σ.2.1 ≤ σ'.2.1 ∧ (∀ a, a < σ.2.1 → ¬ cMu A D a → a ≠ pa → a ≠ d → σ'.1 a = σ.1 a) ∧ (D'.1.1 = D.1.1 ∨ σ.2.1 ≤ D'.1.1) ∧ (D'.1.2.1 = D.1.2.1 ∨ σ.2.1 ≤ D'.1.2.1)) ∧ (at' ≤ at2 ∧ 8 * σ'.2.2.1 + cap + 240 * at' + 240 * fl s + svA s (aAs kk T G r) ≤ 8 * σ.2.2.1 + cap' + 240 * at2 + 240 * fl (aTo s (aAs kk T G r)) ∧ σ'.2.2.2 + 4 * D.1.2.2.1 + 4 * D.1.2.2.2.1 + cap + 240 * at' + 350 * fl s + svA s (aAs kk T G r) ≤ σ.2.2.2 + 4 * D'.1.2.2.1 + 4 * D'.1.2.2.2.1 + cap' + 240 * at2 + 350 * fl (aTo s (aAs kk T G r))) ∧ (∀ i t j, s = .inr i → aAs kk T G r i = .inr (t, j) → cTr κ T kk pp ee f A D' lo σ' nm' t ν.1 D.1.2.2.2.2.2 g' x3 (x3 + q) ∧ cQn pp ee f σ' D' nm' (nT f pp ee t ν) cd nf2 j ∧ (∀ u, u < i → nm' u = nm u) ∧ ff2 = fE f pp ee t ν.1 cn ff ∧ D'.1.2.2.2.2.2 = D.1.2.2.2.2.2 + nF t ∧ (∀ x, x < D.1.2.2.2.2.2 → D'.2.2.2 x = D.2.2.2 x)) := fun c1 c2 c3 => by
      have S0 : svA s (aAs kk T G r) = 0 := svA_0 (fun i t j hi ht => by rw [(c3 i t j hi ht).1]; rfl)
      refine ⟨σ, D, at', am, bd, nf, ff, nm, d, cap, mc, g, 0, rfl, h, c1, he, ⟨hl, hd, hp, hc, fun _ _ => rfl⟩, ⟨Nat.le_refl _, fun _ _ _ _ _ => rfl, Or.inl rfl, Or.inl rfl⟩, ⟨Nat.le_refl _, by omega, by omega⟩, fun i t j hi ht => ?_⟩
      obtain ⟨rfl, rfl⟩ := c3 i t j hi ht
      exact ⟨rfl, hn _ hi, fun _ _ => rfl, rfl, rfl, fun _ _ => rfl⟩
    unfold ol_X7_readCall_37
    cases r with
    | zero =>
      have e3 : x3 = 4 := by omega
      subst e3
      rw [if_pos (show (4 : Int32) ≤ nI 4 by decide)]
      refine STOP ?_ (fl_to _ _) (fun i t j hi ht => ?_)
      · cases s with
        | inl j => exact Or.inl ho
        | inr i =>
          rw [aTo_ok]
          have hat := ho.2.1
          unfold aAs
          by_cases c : aAr kk i = true
          · rw [if_pos c]
            subst hat
            exact Or.inr ⟨rfl, ho.1, ho.2.2, c⟩
          · rw [if_neg c]
            exact Or.inl ho
      · unfold aAs at ht
        split at ht
        · cases ht
        · injection ht with ht; injection ht with w1 w2; exact ⟨w1.symm, w2.symm⟩
    | succ r =>
      obtain ⟨m1, hm1⟩ : ∃ m1, m = m1 + 1 := ⟨m - 1, by omega⟩
      have CB := c_begin (κ := κ) (T := T) (n := m1) (v := cK kk s) (σ := σ)
      rw [← hm1] at CB
      rw [if_neg (show ¬ (4 : Int32) ≤ nI x3 from show ¬ nI 4 ≤ nI x3 from nI_ge (by omega) (by decide)), oob_at h.2.1, obn_at, c_kind (n := m) h ho (by omega), oin_at, CB, oin_at]
      by_cases cb : cBg (cK kk s) = true
      · rw [if_pos cb, if_neg (by decide)]
        obtain ⟨i, hs⟩ : ∃ i, s = .inr i := by
          cases s with
          | inl j => exact absurd (show cBg 0 = true from cb) (by rw [cBg_0]; decide)
          | inr i => exact ⟨i, rfl⟩
        subst hs
        have ha : aAr kk i = true := by rw [aAr_cb]; exact cb
        have hat := ho.2.1
        subst hat
        have f18 : ofd σ (some e) 7 18 = some (.ref pa) := by rw [ofd_at he]; exact hfs
        rw [f18, ovr_rf, obn_at, oob_at h.2.1, obn_at]
        obtain ⟨σ1, D1, at1, am1, bd1, nf1, ff1, nm1, x, fx, b1, v1, o1, r1, ⟨b2, b3⟩, b4, b5⟩ := HA σ D at' cd cn am bd nf ff nm ν h ho ha hcd (hn _ rfl)
        have p1 := hp.to r1
        have hd1 : cOk A D1 lo σ1 d ∨ (d = κ.2.2.1 ∧ σ1.1 d = none) := by
          rcases hd with y | ⟨y, y'⟩
          · exact Or.inl (y.to r1)
          · exact Or.inr ⟨y, by rw [y]; exact v1.low⟩
        have kd : σ1.1 d = σ.1 d := by
          rcases hd with y | ⟨y, y'⟩
          · exact y.eq r1
          · rw [y', y]; exact v1.low
        have l1 := hl.keep (σ' := σ1) (hp.eq r1) kd (fun a gs ea => ⟨gs, h.kd r1 ea (by omega)⟩)
        have e1 := h.kd r1 he (by omega)
        rw [b1, orn_at, oob_at l1.1, obn_at]
        obtain ⟨σ2, d2, cap2, g2, q1, v2, ls2, q4, q5, q6, ⟨q7, q8⟩, q9, q10, q11, ⟨q12, q13⟩, qx, qy⟩ := c_laddx (κ := κ) (T := T) (m := m) (lo := lo) v1 hA l1 hd1 p1 (by omega) (by omega) b3 (by omega)
        rw [q1, oin_at]
        have c2 : cap2 = 0 ∨ cap2 = 10 := by
          rcases hc with c | c
          · exact Or.inr (qx c).1
          · exact Or.inr ((qy (by omega)).1.trans c)
        have gr : σ2.2.2.1 * 8 + cap ≤ σ1.2.2.1 * 8 + cap2 ∧ σ2.2.2.2 + cap ≤ σ1.2.2.2 + cap2 := by
          rcases hc with c | c
          · obtain ⟨k1, k2, k3⟩ := qx c
            omega
          · obtain ⟨k1, k2⟩ := qy (by omega)
            rw [k2, k1]
            omega
        have dlt : d < σ.2.1 := by
          rcases hd with y | ⟨y, y'⟩
          · exact y.2.1
          · have := h.1.1.2.2.1; have := h.1.1.2.2.2; omega
        have d2n : ∀ a c, σ1.1 a = some c → (∀ y, c ≠ .inl (.object "java/lang/Object", y)) → a ≠ d2 := fun a c ea hc' z => by
          rcases q10 with y | y
          · rw [z, y] at ea
            rcases l1.2.1 with ⟨-, -, -, w⟩ | ⟨w, -⟩
            · rw [w] at ea; cases ea
            · rw [w] at ea; injection ea with ea; exact hc' _ ea.symm
          · have := alt v1.1.1.1 ea; omega
        have e2 := (q9 e (fun z => by have := hp.1; omega) (d2n e _ e1 (fun y z => by cases z))).trans e1
        have R12 : ∀ a, a < σ1.2.1 → a ≠ pa → a ≠ d → σ2.1 a = σ1.1 a := fun a ha h1 h2 => q9 a h1 (by rcases q10 with y | y <;> omega)
        have T2 : ∀ a c, σ1.1 a = some c → cTy c → σ2.1 a = some c := fun a c ea hc' => by
          rw [q9 a (fun z => by rw [z, l1.1] at ea; injection ea with ea; rw [← ea] at hc'; exact hc'.n1) (d2n a c ea (fun y z => by rw [z] at hc'; exact hc'.no))]
          exact ea
        obtain ⟨at1c, hA1⟩ : ∃ a : tT → tT, ∀ a' j, aA1 kk T G at' = .inr (a', j) → a' = a := by
          cases eA : aA1 kk T G at' with
          | inl k => exact ⟨fun r => r, fun a' j hh => by cases hh⟩
          | inr p => obtain ⟨a, j⟩ := p; exact ⟨a, fun a' j' hh => by injection hh with hh; injection hh with w1 w2; exact w1.symm⟩
        have N2 : ∀ i, (aA1 kk T G at').st = .inr i → cQn pp ee f σ2 D1 nm1 (nT f pp ee (at1c tZ) ν) cd nf1 i := fun i hi => by
          obtain ⟨a, ea⟩ := st_inr hi
          have B := b5 a i ea
          rw [hA1 a i ea] at B
          exact ⟨B.2.2.1.1.gn T2, B.2.2.1.2⟩
        obtain ⟨σ3, D3, at3, am3, bd3, nf3, ff3, nm3, d3, cap3, mc3, g3, q, w1, w2, w3, w4, ⟨w5, w6, w7, w8, w9⟩, ⟨w10, w11, w12, w13⟩, ⟨w14, w15, w16⟩, w17⟩ := c_clp hA hm HA hfs hel r (x3 + 1) t' σ2 D1 at1 cd cn am1 bd1 nf1 ff1 (aA1 kk T G at').st nm1 (nT f pp ee (at1c tZ) ν) d2 cap2 (mc + 1) g2 (by omega) (by omega) v2 o1 hcd N2 e2 ls2 (Or.inl q4) q5 c2
        have eT : aTo (.inr at') (aAs kk T G (r + 1)) = aTo (aA1 kk T G at').st (aAs kk T G r) := by
          rw [aTo_ok]
          unfold aAs
          rw [if_pos ha]
          cases aA1 kk T G at' with
          | inl k => rfl
          | inr p =>
            obtain ⟨a, i1⟩ := p
            simp only [aR.on, aR.st, aTo]
            cases aAs kk T G r i1 with
            | inl k => rfl
            | inr p => rfl
        refine ⟨σ3, D3, at3, am3, bd3, nf3, ff3, nm3, d3, cap3, mc3, g3, q + 1, ?_, w2, by rw [eT]; exact w3, w4, ⟨?_, w6, w7, w8, fun j hj => ?_⟩, ⟨by have := r1.1; omega, fun a ha' hmu n1 n2 => ?_, ?_, ?_⟩, ⟨by have := b4.1; omega, ?_, ?_⟩, fun i t j hi ht => ?_⟩
        · rw [← w1, nI_1]
        · rw [show x3 + (q + 1) = x3 + 1 + q by omega]; exact w5
        · rw [w9 j (by omega), q7 j hj]
        · have ha1 : a < σ1.2.1 := by have := r1.1; omega
          rw [w11 a (by omega) (cMu.bk r1.2.2.1 r1.2.2.2 ha' hmu) n1 (by rcases q10 with y | y <;> omega), R12 a ha1 n1 n2, r1.2.1 a ha' hmu]
        · rcases w12 with z | z
          · rw [z]; exact r1.2.2.1
          · exact Or.inr (by have := r1.1; omega)
        · rcases w13 with z | z
          · rw [z]; exact r1.2.2.2
          · exact Or.inr (by have := r1.1; omega)
        · have S := sv_as (kk := kk) (T := T) (G := G) (r := r) ha (fun a j hh => (b5 a j hh).1)
          rw [eT]
          have t4 := b4.2.1
          have f0 : fl (Sum.inr at' : Sum Nat Nat) = 0 := rfl
          omega
        · have S := sv_as (kk := kk) (T := T) (G := G) (r := r) ha (fun a j hh => (b5 a j hh).1)
          rw [eT]
          have t4 := b4.2.2
          have f0 : fl (Sum.inr at' : Sum Nat Nat) = 0 := rfl
          omega
        · injection hi with hi
          subst hi
          unfold aAs at ht
          rw [if_pos ha] at ht
          obtain ⟨a, i1, h5, ht⟩ := on_inr ht
          obtain ⟨tr, j1, h6, ht⟩ := on_inr ht
          injection ht with ht
          injection ht with ht1 ht2
          subst ht1
          subst ht2
          have B := b5 a i1 h5
          have ea := hA1 a i1 h5
          subst ea
          obtain ⟨c1, c2, c3, c4, c5, c6, c7⟩ := B
          have S1 : (aA1 kk T G at').st = .inr i1 := by rw [h5]; rfl
          obtain ⟨y1, y2, y3, y4, y5, y6⟩ := w17 i1 tr j1 S1 h6
          have n12 := nT_12 (f := f) (pp := pp) (ee := ee) (a tZ) ν
          have i1e := (o1.at S1).1
          have b41 := b4.1
          rw [n12.1] at y1 y4
          -- the ARG's cells over the rest
          have KA : cKp κ A D1 σ.2.1 σ1 D3 lo σ3 := by
            have lop : lo ≤ σ.2.1 := by have := hp.1; have := hp.2.1; omega
            have pan : pa < σ.2.1 := hp.2.1
            have G1 : ∀ b, cOk A D1 σ.2.1 σ1 b → σ3.1 b = σ1.1 b ∧ cOk A D3 lo σ3 b := fun b hb => by
              have hb1 := hb.1
              have hb2 := hb.2.1
              refine ⟨?_, by omega, by omega, cMu.bk w12 w13 (by omega) hb.2.2⟩
              rw [w11 b (by omega) hb.2.2 (by omega) (by rcases q10 with y | y <;> omega), R12 b hb2 (by omega) (by omega)]
            have KQ : ∀ b ci gs, σ1.1 b = some (.inr (ci, gs)) → (ci = 6 ∨ ci = 7) → ∃ gs', σ3.1 b = some (.inr (ci, gs')) := fun b ci gs eb hci => by
              have hbp : b ≠ pa := fun z => by rw [z, l1.1] at eb; injection eb with eb; injection eb with eb; injection eb with eb; omega
              have hbd := d2n b _ eb (fun y z => by cases z)
              have hbd1 : b ≠ d := fun z => by
                rw [z] at eb
                rcases l1.2.1 with ⟨-, -, -, w⟩ | ⟨w, -⟩
                · rw [w] at eb; cases eb
                · rw [w] at eb; cases eb
              have eb2 := (q9 b hbp hbd).trans eb
              exact ⟨gs, (w11 b (alt v2.1.1.1 eb2) (cMu.no v2 eb2 (by omega)) hbp hbd).trans eb2⟩
            exact ⟨G1, fun b gs eb => KQ b 6 gs eb (by omega), fun b gs eb => KQ b 7 gs eb (by omega), w2.low⟩
          have TA := cTr.gk KA c3.2.1 y3 (Nat.le_refl _) (by omega) y6 c2
          refine ⟨sh_tr c1 ((w9 x3 (by omega)).trans q8) TA ?_, ?_, fun u hu => ?_, ?_, ?_, fun x hx => ?_⟩
          · rw [c6] at y1
            rw [show x3 + (q + 1) = x3 + 1 + q by omega]
            exact y1
          · rw [sh_nT c1]; exact y2
          · rw [y3 u (by omega), c4 u hu]
          · rw [y4, c5, sh_fE c1 tr]
          · rw [y5, c6, sh_nF c1 tr]; omega
          · rw [y6 x (by omega), c7 x hx]
      · rw [if_neg cb, if_pos rfl]
        have na : ∀ i, s = .inr i → ¬ aAr kk i = true := fun i hs z => by subst hs; exact cb (by rw [aAr_cb] at z; exact z)
        refine STOP ?_ (fl_to _ _) (fun i t j hi ht => ?_)
        · cases s with
          | inl j => exact Or.inl ho
          | inr i => rw [aTo_ok, aAs_no (na i rfl)]; exact Or.inl ho
        · rw [aAs_no (na i hi)] at ht
          injection ht with ht; injection ht with w1 w2; exact ⟨w1.symm, w2.symm⟩
  termination_by r => r
end CRF
