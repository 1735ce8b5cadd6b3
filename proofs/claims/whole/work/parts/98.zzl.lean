/-! the class's parser: fun -/
section CQW
variable {κ : oKv} {sz T n m len cnt : Nat} {kk pp ee f : Nat → Int32} {A : Nat → Nat} {nq ni : Int32} {rt : Value} {σ σ' : oSt} {D D' : cDt} {at' cd : Nat} {cn am bd nf ff : Int32} {s : Sum Nat Nat} {nm nm' : Nat → Option Nat} {ν : nSt} {lo lo' e i : Nat}
theorem cMu.n1 {a : Nat} {fs : List Value} (h : cV κ sz len cnt kk pp ee f A nq ni rt σ D at' cd cn am bd nf ff) (ha : σ.1 a = some (.inr (1, fs))) (h8 : a ≠ A 8) (h9 : a ≠ A 9) : ¬ cMu A D a := fun hm => by
  obtain ⟨⟨-, -, c1, ⟨⟨mc, d1⟩, ⟨mc', d2⟩, -⟩, -⟩, h0, -⟩ := h
  unfold cMu at hm
  rcases hm with z | z | z | z | z | z
  · rw [z, h0] at ha; cases ha
  · rw [z, c1] at ha; cases ha
  · exact h8 z
  · exact h9 z
  · rcases d1.2.1 with ⟨-, -, -, q⟩ | ⟨q, -⟩
    · rw [z, q] at ha; cases ha
    · rw [z, q] at ha; cases ha
  · rcases d2.2.1 with ⟨-, -, -, q⟩ | ⟨q, -⟩
    · rw [z, q] at ha; cases ha
    · rw [z, q] at ha; cases ha
theorem cV.tyE {fs : List Value} (h : cV κ sz len cnt kk pp ee f A nq ni rt σ D at' cd cn am bd nf ff) (he : σ.1 e = some (.inr (7, fs))) (hr : cFe A e σ D σ' D') : ∀ a c, σ.1 a = some c → cTy c → σ'.1 a = some c := fun a c ea hc => by
  have hne : a ≠ e := fun z => by
    rw [z, he] at ea; injection ea with ea; subst ea
    rcases hc with ⟨x, hx⟩ | ⟨x, hx⟩ | ⟨x, hx⟩ <;> cases hx
  have h2 := h
  rw [hr.2.1 a (alt h.1.1.1 ea) (fun hm => ?_) hne]
  · exact ea
  · obtain ⟨⟨-, -, c1, ⟨⟨mc, d1⟩, ⟨mc', d2⟩, -⟩, -⟩, h0, -⟩ := h
    unfold cMu at hm
    rcases hm with z | z | z | z | z | z
    · rw [z, h0] at ea; injection ea with ea; rw [← ea] at hc; exact hc.n9
    · rw [z, c1] at ea; injection ea with ea; rw [← ea] at hc; exact hc.no
    · rw [z, d1.1] at ea; injection ea with ea; rw [← ea] at hc; exact hc.n1
    · rw [z, d2.1] at ea; injection ea with ea; rw [← ea] at hc; exact hc.n1
    · rcases d1.2.1 with ⟨-, -, -, q⟩ | ⟨q, -⟩
      · rw [z, q] at ea; cases ea
      · rw [z, q] at ea; injection ea with ea; rw [← ea] at hc; exact hc.no
    · rcases d2.2.1 with ⟨-, -, -, q⟩ | ⟨q, -⟩
      · rw [z, q] at ea; cases ea
      · rw [z, q] at ea; injection ea with ea; rw [← ea] at hc; exact hc.no
theorem cQn.dd (h : cQn pp ee f σ D nm ν cd nf i) (hk : ∀ a c, σ.1 a = some c → cTy c → σ'.1 a = some c) (h1 : D'.2.1 = D.2.1) (h2 : D'.2.2.1 = D.2.2.1) (h3 : D'.1.2.2.2.2.1 = D.1.2.2.2.2.1) : cQn pp ee f σ' D' nm ν cd nf i := by
  obtain ⟨⟨a1, a2, a3, a4, a5, a6⟩, q⟩ := h
  refine ⟨⟨a1, fun k u e hk12 => ?_, ?_, a4, a5, fun u hu => (by
    obtain ⟨b, b1, b2⟩ := a6 u hu
    exact ⟨b, b1, b2.keep hk⟩)⟩, q⟩
  · obtain ⟨b, b1, b2, b3⟩ := a2 k u e hk12
    exact ⟨b, by rw [h2]; exact b1, b2, b3.keep hk⟩
  · rw [h1, h3]; exact a3
/-- behind tellParameter, but for e -/
theorem cFe.tp {pa d' : Nat} {σ2 σ3 : oSt} {D2 D3 : cDt} (h : cFe A e σ D σ2 D2) (hf : σ2.2.1 ≤ σ3.2.1 ∧ (∀ a, a < σ2.2.1 → ¬ cMu A D2 a → a ≠ pa → a ≠ d' → σ3.1 a = σ2.1 a) ∧ (D3.1.1 = D2.1.1 ∨ σ2.2.1 ≤ D3.1.1) ∧ (D3.1.2.1 = D2.1.2.1 ∨ σ2.2.1 ≤ D3.1.2.1)) (hp : σ.2.1 ≤ pa) (hd : σ.2.1 ≤ d') : cFe A e σ D σ3 D3 := by
  obtain ⟨a1, a2, a3, a4⟩ := h
  obtain ⟨b1, b2, b3, b4⟩ := hf
  refine ⟨by omega, fun a ha hm hne => ?_, ?_, ?_⟩
  · rw [b2 a (by omega) (cMu.bk a3 a4 ha hm) (by omega) (by omega)]
    exact a2 a ha hm hne
  · rcases b3 with z | z
    · rw [z]; exact a3
    · exact Or.inr (by omega)
  · rcases b4 with z | z
    · rw [z]; exact a4
    · exact Or.inr (by omega)
theorem aFn_st (kk : Nat → Int32) (G : Nat → aR tT) (i : Nat) : (aFn kk G i).st = aTo (aTo (aTo (.inr (i + 1)) (aMs kk 1)) (aMs kk 304)) G := by
  unfold aFn
  simp only [aTo]
  cases aMs kk 1 (i + 1) with
  | inl k => rfl
  | inr p =>
    obtain ⟨t, i1⟩ := p
    simp only [aR.on, aR.st]
    cases aMs kk 304 i1 with
    | inl k => rfl
    | inr p =>
      obtain ⟨t, i2⟩ := p
      simp only
      cases G i2 with
      | inl k => rfl
      | inr p => rfl
theorem sv_fn (kk : Nat → Int32) (G : Nat → aR tT) (i : Nat) : svR (aFn kk G i) + 600 * fl (aFn kk G i).st ≤ 600 + svA (aTo (aTo (.inr (i + 1)) (aMs kk 1)) (aMs kk 304)) G := by
  cases hF : aFn kk G i with
  | inl k => show 0 + 600 * 1 ≤ _; omega
  | inr p =>
    obtain ⟨t, j⟩ := p
    unfold aFn at hF
    obtain ⟨_, i2, d1, hF⟩ := on_inr hF
    obtain ⟨_, i4, d2, hF⟩ := on_inr hF
    obtain ⟨ta', i5, d3, hF⟩ := on_inr hF
    injection hF with hF
    injection hF with hF1 hF2
    subst hF1
    subst hF2
    have S3 := aTo_eq (s := .inr (i + 1)) rfl d1
    have S4 := aTo_eq S3 d2
    rw [svA_eq S4 d3]
    show 600 + (sv ta' + 0) + 600 * 0 ≤ 600 + sv ta'
    omega
set_option maxHeartbeats 2000000 in
theorem c_fun {dp : Nat} {G : Nat → aR tT} (hm : 10 ≤ m) (hdp : dp ≤ 31) (hT : 2010 ≤ T) (hwl : ∀ j, j < cnt → wL pp ee j ≤ 10) (HE : cEc κ sz T len cnt kk pp ee f A nq ni rt 135 (dp + 1) (m + 1) G) : cRc κ sz T len cnt kk pp ee f A nq ni rt 138 dp (m + 2) 206 (aFn kk G) := by
  intro σ D at' cd cn am bd nf ff nm ν e h ho hi hcd hq he
  rw [oE_X7_readFunction]
  unfold ob_X7_readFunction
  have hle : e < σ.2.1 := alt h.1.1.1 he
  obtain ⟨σ1, a1, v1, o1, r1, z1, k1⟩ := w_next (κ := κ) (T := T) (n := m + 1) h ho hi (by omega)
  rw [oob_at h.2.1, obn_at, a1, ocv_at, oob_at v1.2.1, obn_at]
  have e1 := h.kd r1 he (by omega)
  have q1 : cQn pp ee f σ1 D nm ν cd nf at' := hq.kf h r1
  have l1 : σ1.2.1 = σ.2.1 := by rw [z1]
  obtain ⟨σ2, D2, pa, b1, v2, ⟨b2, b2a, b2b⟩, ⟨b3, b3a⟩, ⟨e2, b5, b6, b7⟩, b8, ⟨b9, b10⟩⟩ := c_befun (κ := κ) (T := T) (m := m) v1 e1 rfl (by have := h.2.2.2.2.2; omega) (by omega)
  have f2 : cFe A e σ1 D σ2 D2 := b8
  rw [b1, ocv_at, oob_at v2.2.1, obn_at]
  have D2t : D2.1.2.2.2.2.1 = D.1.2.2.2.2.1 := by rw [b2]
  have D2f : D2.1.2.2.2.2.2 = D.1.2.2.2.2.2 + 1 := by rw [b2]
  have q2 : cQn pp ee f σ2 D2 nm ν cd nf at' := q1.dd (v1.tyE e1 f2) b2a b2b D2t
  have A8 : A 8 < σ1.2.1 := v1.1.lt (by unfold cSt; simp)
  have A9 : A 9 < σ1.2.1 := v1.1.lt (by unfold cSt; simp)
  have okp : cOk A D2 σ1.2.1 σ2 pa := ⟨b6, b7, cMu.n1 v2 b5 (by omega) (by omega)⟩
  have lst : cLs κ σ2 pa κ.2.2.1 0 0 0 (fun _ => none) 6 := ⟨b5, Or.inl ⟨rfl, rfl, rfl, v2.low⟩, fun j hj => by omega⟩
  obtain ⟨σ3, D3, at3, bd3, nf3, b, d', cap', g', c1, v3, o3, ⟨l3, ok3, ok3p, c4, c5, c6⟩, c7, ⟨c8, c9, c10⟩, ⟨c11, c12⟩, ⟨c13, c14, c15, c16, -⟩, c17⟩ := c_tpar (κ := κ) (T := T) (m := m) (lo := σ1.2.1) (nm := nm) (ν := ν) v2 o1 (fun i hi => by cases hi; exact q2.le (Nat.le_succ _)) e2 rfl v1.lo lst (Or.inr ⟨rfl, v2.low⟩) okp (by omega) (by omega) (by omega) (by omega) hT hwl
  rw [c1, ocv_at, oob_at v3.2.1, obn_at]
  have l12 : σ1.2.1 ≤ σ2.2.1 := b8.1
  have e3 := (c7.2.1 e (by omega) (cMu.no v2 e2 (by omega)) (by omega) (by have := ok3.1; omega)).trans e2
  have f3 : cFe A e σ1 D σ3 D3 := f2.tp c7 b6 ok3.1
  obtain ⟨σ4, at4, bd4, x1, v4, o4, r4, z4, k4, x5⟩ := c_expect (κ := κ) (T := T) (k := 304) (n := m + 1) v3 o3 (by decide) (by omega)
  have x1' : oF κ T (m + 1) 108 [va_rf (some (A 0)), .int 304] σ3 = some (none, σ4) := x1
  rw [x1', ocv_at, oob_at v4.2.1, obn_at]
  have e4 := v3.kd r4 e3 (by omega)
  have g4 := fl_ms o4 (fun i hi => (o3.at hi).1) x5
  have N4 : ∀ i, aTo (aTo (.inr (at' + 1)) (aMs kk 1)) (aMs kk 304) = .inr i → cQn pp ee f σ4 D3 (nPut nm (at' + 1) b) (nCnt (at' + 1) (nTell f pp ee (at' + 1) ν)) (cd + 1) nf3 i ∧ i = at' + 3 := fun i hi => by
    obtain ⟨i2, u, h2, m2⟩ := aTo_inr hi
    obtain ⟨i1, t, h1, y1⟩ := aTo_inr h2
    injection h1 with h1
    subst h1
    have i2e := (aMs_inr y1).2
    have ie := (aMs_inr m2).2
    exact ⟨((c17 _ rfl (aMs_inr y1).1).le (by omega)).kf v3 r4, by omega⟩
  rw [show nI dp + 1 = nI (dp + 1) by rw [nI_1]]
  obtain ⟨σ5, D5, at5, am5, bd5, nf5, ff5, nm5, x, fx, y1, v5, o5, r5, ⟨y2, y3, y3b⟩, y4, y5⟩ := HE σ4 D3 at4 (cd + 1) cn am bd4 nf3 ff _ (nPut nm (at' + 1) b) (nCnt (at' + 1) (nTell f pp ee (at' + 1) ν)) v4 o4 (by omega) (fun i hi => (N4 i hi).1)
  rw [y1, orn_at]
  have e5 := v4.kd r5 e4 (by omega)
  obtain ⟨σ6, p6, v6, e6, f6, z6, k6, Q6⟩ := w_put (k := 12) (v := va_rf (some x)) v5 e5 rfl (by decide)
  rw [p6, obn_at, w_f12 v6, ovi_i, obn_at]
  obtain ⟨σF, pF, vF, rF, zF, kF⟩ := w_cd (cd2 := cd) (v := nI (cd + 1) - 1) v6 (nI_s1 cd) (by omega)
  rw [pF, obn_at]
  have eF := v6.kd rF e6 (by omega)
  have F5 : cFe A e σ5 D5 σF D5 := f6.tr (rF.fe e)
  have l4 : e < σ4.2.1 := alt v4.1.1.1 e4
  have G3 : cKp κ A D3 σ1.2.1 σ3 D5 (e + 1) σF := cKp.fe v3 (((r4.fe e).tr (r5.fe e)).tr F5) e3 eF (by omega) (by omega) vF.low
  have hst := aFn_st kk G at'
  refine ⟨σF, D5, at5, am5, bd5, nf5, ff5, nm5, _, rfl, vF, by rw [hst]; exact o5, (((r1.fe e).tr f3).tr (r4.fe e)).tr ((r5.fe e).tr F5), ⟨eF, rfl⟩, ?_, fun t j hF => ?_⟩
  · have S := sv_fn kk G at'
    rw [hst] at S ⊢
    have t4 := y4
    unfold cEx at t4 ⊢
    have n1 := fl_to (aTo (.inr (at' + 1)) (aMs kk 1)) (aMs kk 304)
    have n2 := fl_to (aTo (aTo (.inr (at' + 1)) (aMs kk 1)) (aMs kk 304)) G
    have n5 := fl_le (aTo (aTo (aTo (.inr (at' + 1)) (aMs kk 1)) (aMs kk 304)) G)
    rw [show fl (.inr at') = 0 from rfl]
    have q1 : σ1.2.2 = σ.2.2 := by rw [z1]
    have q3 : σ4.2.2 = σ3.2.2 := by rw [z4]
    have qF : σF.2.2 = σ5.2.2 := by rw [zF, z6]
    rw [q1] at b9 b10
    rw [q3] at t4
    rw [qF]
    omega
  · unfold aFn at hF
    obtain ⟨_, i2, d1, hF⟩ := on_inr hF
    obtain ⟨_, i4, d2, hF⟩ := on_inr hF
    obtain ⟨ta', i5, d3, hF⟩ := on_inr hF
    injection hF with hF
    injection hF with hF1 hF2
    subst hF1
    subst hF2
    have S3 := aTo_eq (s := .inr (at' + 1)) rfl d1
    have S4 := aTo_eq S3 d2
    have M := N4 i4 S4
    obtain ⟨t1, t2, t3, t4, t5, t6⟩ := y5 i4 ta' i5 S4 d3
    have n12t := nTell_12 (f := f) (pp := pp) (ee := ee) (at' + 1) ν
    have nE : (nCnt (at' + 1) (nTell f pp ee (at' + 1) ν)).1 = ν.1 ++ [at' + 1] := by
      show (nTell f pp ee (at' + 1) ν).1 ++ _ = _
      rw [n12t.1]
    have y41 := y4.1
    have D3f : D3.1.2.2.2.2.2 = D.1.2.2.2.2.2 + 1 := by rw [c14, D2f]
    refine ⟨?_, ?_, fun u hu => ?_, ?_, ?_, fun x hx => ?_⟩
    · refine ⟨⟨Nat.le_refl _, alt vF.1.1.1 eF, cMu.no vF eF (by omega)⟩, x, pa, pp at', ?_, ?_, ?_, ?_⟩
      · rw [eF, hq.1.1]; rfl
      · rw [t6 _ (by omega), c13]; exact b3a
      · refine cNl.kp (nm := nPut nm (at' + 1) b) G3 (fun x hx => t3 _ (by omega)) ⟨d', cap', _, g', l3, Or.inl ok3, ok3p, fun x hx => ⟨b, ?_, ?_, c9, ?_⟩⟩
        · rw [show x = 0 by omega]; exact c6
        · rw [show at' + 1 + x = at' + 1 by omega]; exact nPut_eq
        · rw [hq.1.1, show cd + x = cd by omega]; exact c10
      · have G := cTr.go (lo := e + 1) (fk := D3.1.2.2.2.2.2) (g := fun _ => none) (k := 0) (x := x) v5 F5 e5 eF l4 (by omega) vF.low t2.2.1 (fun _ _ => rfl) (Nat.le_refl _) (by omega) (fun _ _ => rfl) t1
        rw [nE, D3f] at G
        exact G
    · have Q := Q6 _ _ _ t2
      exact Q.off (v6.ty rF) rfl
    · rw [t3 u (by omega), nPut_lt (by omega)]
    · rw [t4, nE]
      rfl
    · rw [t5, D3f]
      show _ = _ + (1 + nF ta' + nF tZ)
      rw [show nF tZ = 0 from rfl]
      omega
    · rw [t6 x (by omega), c13, b3 x hx]
end CQW
