/-! the class's parser: readCall -/
section CRG
variable {κ : oKv} {sz T n m len cnt : Nat} {kk pp ee f : Nat → Int32} {A : Nat → Nat} {nq ni : Int32} {rt : Value} {σ σ' : oSt} {D D' : cDt} {at' cd : Nat} {cn am bd nf ff : Int32} {s : Sum Nat Nat} {nm nm' : Nat → Option Nat} {ν : nSt} {lo e i : Nat}
theorem sv_call (kk : Nat → Int32) (T : Nat) (G : Nat → aR tT) (i : Nat) : svR ((aAs kk T G 4 (i + 1)).on fun as j => .inr (tN 15 i 0 0 s0 s0 as tZ, j)) + 161 * fl (aTo (.inr (i + 1)) (aAs kk T G 4)) ≤ 161 + svA (.inr (i + 1)) (aAs kk T G 4) := by
  rw [aTo_ok, svA_ok]
  cases hF : aAs kk T G 4 (i + 1) with
  | inl k => show 0 + 161 * 1 ≤ _; omega
  | inr p =>
    obtain ⟨t, j⟩ := p
    show 161 + (sv t + 0) + 161 * 0 ≤ 161 + sv t
    omega
set_option maxHeartbeats 2000000 in
theorem c_call {dp : Nat} {G : Nat → aR tT} (hm : 12 ≤ m) (hT : 2010 ≤ T) (hwl : ∀ j, j < cnt → wL pp ee j ≤ 10) (HA : cAc κ sz T len cnt kk pp ee f A nq ni rt dp m G) (h : cV κ sz len cnt kk pp ee f A nq ni rt σ D at' cd cn am bd nf ff) (ho : cO pp cnt at' bd (.inr at')) (hn1 : aIs kk 1 at' = true) (hcd : cd ≤ 12 + 6 * dp) (hq : cQn pp ee f σ D nm ν cd nf at') : ∃ σ' D' at2 am2 bd2 nf2 ff2 nm' e fs, oF κ T (m + 1) 137 [va_rf (some (A 0)), .int (nI dp)] σ = some (some (va_rf (some e)), σ') ∧ cV κ sz len cnt kk pp ee f A nq ni rt σ' D' at2 cd cn am2 bd2 nf2 ff2 ∧ cL kk pp cnt at2 bd2 (aTo (.inr (at' + 1)) (aAs kk T G 4)) ∧ cFr A σ D σ' D' ∧ (σ.2.1 ≤ e ∧ σ'.1 e = some (.inr (7, fs)) ∧ fs.length = 21) ∧ cEx 1 21 (svR ((aAs kk T G 4 (at' + 1)).on fun as j => .inr (tN 15 at' 0 0 s0 s0 as tZ, j))) σ D at' (.inr at') σ' D' at2 (aTo (.inr (at' + 1)) (aAs kk T G 4)) ∧ (∀ t j, aAs kk T G 4 (at' + 1) = .inr (t, j) → cPo κ T kk pp ee f A σ.2.1 D cd cn ff nm ν σ' D' nf2 ff2 nm' e at' (tN 15 at' 0 0 s0 s0 t tZ) j) := by
  rw [oE_X7_readCall]
  unfold ob_X7_readCall
  obtain ⟨d1, v1, r1⟩ := c_node (κ := κ) (T := T) (n := m) (k := 401) h (by omega)
  rw [oob_at h.2.1, obn_at, d1, orn_at]
  have n1 : (onew σ (.inr (7, cNd 401 (pp at') (nI cd))) 21).1 σ.2.1 = some (.inr (7, cNd 401 (pp at') (nI cd))) := onew_eq _ _ _
  have z1 : (onew σ (.inr (7, cNd 401 (pp at') (nI cd))) 21).2 = (σ.2.1 + 1, σ.2.2.1 + 1, σ.2.2.2 + 21) := rfl
  generalize onew σ (.inr (7, cNd 401 (pp at') (nI cd))) 21 = σ1 at v1 r1 n1 z1 ⊢
  have z11 : σ1.2.1 = σ.2.1 + 1 := by rw [z1]
  have q1 : cQn pp ee f σ1 D nm ν cd nf at' := hq.kf h r1
  obtain ⟨σ2, p2, v2, e2, f2, z2, k2, Q2⟩ := w_put (k := 4) (v := .int (pp at')) v1 n1 rfl (by decide)
  rw [oob_at v1.2.1, obn_at, c_here (n := m) v1 (by omega), oin_at, p2, obn_at, oob_at v2.2.1, obn_at]
  obtain ⟨σ3, at3, bd3, nf3, r, b1, v3, o3, r3, ⟨b5, b6⟩, ⟨b7, b7b⟩, b8, b9⟩ := c_useQ (κ := κ) (T := T) (n := m) v2 ho (fun i hi => by cases hi; exact Q2 _ _ _ q1) (by omega) hT hwl
  have eM : aMs kk 1 at' = .inr ((), at' + 1) := by unfold aMs; rw [if_pos hn1]
  have eT : aTo (.inr at') (aMs kk 1) = .inr (at' + 1) := by rw [aTo_ok, eM]; rfl
  rw [eT] at o3
  obtain ⟨hr, Q3'⟩ := b8 _ rfl hn1
  have at3e : at3 = at' + 1 := o3.2.1
  subst at3e
  rw [b1, orn_va]
  have e3 := v2.kd r3 e2 (by omega)
  obtain ⟨σ4, p4, v4, e4, f4, z4, k4, Q4⟩ := w_put (k := 9) (v := va_rf r) v3 e3 rfl (by decide)
  rw [p4, obn_at, olet_at, oq_1, obn_at]
  -- the list of ARGS
  have l4 : σ.2.1 < σ4.2.1 := alt v4.1.1.1 e4
  have n14 : (onew σ4 (.inr (1, odef 1)) 3).1 σ4.2.1 = some (.inr (1, odef 1)) := onew_eq _ _ _
  have k14 : ∀ a, a ≠ σ4.2.1 → (onew σ4 (.inr (1, odef 1)) 3).1 a = σ4.1 a := fun a ha => onew_ne ha
  have z14 : (onew σ4 (.inr (1, odef 1)) 3).2 = (σ4.2.1 + 1, σ4.2.2.1 + 1, σ4.2.2.2 + 3) := rfl
  generalize onew σ4 (.inr (1, odef 1)) 3 = σ14 at n14 k14 z14 ⊢
  obtain ⟨m3, hm3⟩ : ∃ m3, m = m3 + 3 := ⟨m - 3, by omega⟩
  have LI := l_init (κ := κ) (T := T) (n := m3) n14
  rw [← hm3] at LI
  rw [LI, ocv_at]
  have n15 : (oput σ14 σ4.2.1 (.inr (1, [.int 0, .ref κ.2.2.1, .int 0]))).1 σ4.2.1 = some (.inr (1, [.int 0, .ref κ.2.2.1, .int 0])) := oput_eq _ _ _
  have k15 : ∀ a, a ≠ σ4.2.1 → (oput σ14 σ4.2.1 (.inr (1, [.int 0, .ref κ.2.2.1, .int 0]))).1 a = σ4.1 a := fun a ha => by rw [oput_ne ha]; exact k14 a ha
  have z15 : (oput σ14 σ4.2.1 (.inr (1, [.int 0, .ref κ.2.2.1, .int 0]))).2 = (σ4.2.1 + 1, σ4.2.2.1 + 1, σ4.2.2.2 + 3) := z14
  generalize oput σ14 σ4.2.1 (.inr (1, [.int 0, .ref κ.2.2.1, .int 0])) = σ5 at n15 k15 z15 ⊢
  have z151 : σ5.2.1 = σ4.2.1 + 1 := by rw [z15]
  obtain ⟨v5, r5⟩ := v4.ex (σ' := σ5) (fun a ha => k15 a (by omega)) (fun q hq => by rw [k15 q (by omega)]; exact v4.1.1.1 q (by omega)) (by omega)
  have e5 := (k15 σ.2.1 (by omega)).trans e4
  obtain ⟨σ6, p6, v6, e6, f6, z6, k6, Q6⟩ := w_put (k := 18) (v := va_rf (some σ4.2.1)) v5 e5 rfl (by decide)
  rw [p6, obn_at]
  have pa6 := (k6 σ4.2.1 (by omega)).trans n15
  have A8 : A 8 < σ4.2.1 := v4.1.lt (by unfold cSt; simp)
  have A9 : A 9 < σ4.2.1 := v4.1.lt (by unfold cSt; simp)
  have z61 : σ6.2.1 = σ4.2.1 + 1 := by rw [z6, z151]
  have okp : cOk A D σ4.2.1 σ6 σ4.2.1 := ⟨Nat.le_refl _, by omega, cMu.n1 v6 pa6 (by omega) (by omega)⟩
  have lst : cLs κ σ6 σ4.2.1 κ.2.2.1 0 0 0 (fun _ => none) 7 := ⟨pa6, Or.inl ⟨rfl, rfl, rfl, v6.low⟩, fun j hj => by omega⟩
  have N6 : cQn pp ee f σ6 D nm (nUse f pp ee at' ν) cd nf3 (at' + 1) := Q6 _ _ _ ((Q4 _ _ _ Q3').kf v4 r5)
  obtain ⟨σ7, D7, at7, am7, bd7, nf7, ff7, nm7, d7, cap7, mc7, g7, q, w1, v7, o7, e7, ⟨w5, w6, w7, w8, w9⟩, ⟨w10, w11, w12, w13⟩, ⟨w14, w15, w16⟩, w17⟩ := c_clp (κ := κ) (T := T) (m := m) (lo := σ4.2.1) (e := σ.2.1) (pa := σ4.2.1) v4.lo (by omega) HA rfl (by omega) 4 0 T σ6 D (at' + 1) cd cn am bd3 nf3 ff (.inr (at' + 1)) nm (nUse f pp ee at' ν) κ.2.2.1 0 0 (fun _ => none) (by omega) (by omega) v6 o3 hcd (fun i hi => by cases hi; exact N6) e6 lst (Or.inr ⟨rfl, v6.low⟩) okp (Or.inl rfl)
  have w1' : ol_X7_readCall_37 T (oF κ T m) κ T (some (A 0)) (nI dp) (some σ.2.1) 0 σ6 = some (some (va_rf (some σ.2.1)), σ7) := w1
  rw [w1']
  have lows : κ.2.2.1 < σ.2.1 := by have := h.1.1.2.2.1; have := h.1.1.2.2.2; omega
  have F06 : cFe A σ.2.1 σ D σ6 D := (((((r1.fe _).tr f2).tr (r3.fe _)).tr f4).tr (r5.fe _)).tr f6
  have R07 : cFr A σ D σ7 D7 := by
    obtain ⟨y1, y2, y3, y4⟩ := F06
    refine ⟨by omega, fun a ha hmu => ?_, ?_, ?_⟩
    · by_cases c : a = κ.2.2.1
      · rw [c, v7.low, h.low]
      · rw [w11 a (by omega) (cMu.bk y3 y4 ha hmu) (by omega) c, y2 a ha hmu (by omega)]
    · rcases w12 with z | z
      · rw [z]; exact y3
      · exact Or.inr (by omega)
    · rcases w13 with z | z
      · rw [z]; exact y4
      · exact Or.inr (by omega)
  refine ⟨σ7, D7, at7, am7, bd7, nf7, ff7, nm7, σ.2.1, _, rfl, v7, o7, R07, ⟨Nat.le_refl _, e7, rfl⟩, ?_, fun t j hF => ?_⟩
  · have S := sv_call kk T G at'
    unfold cEx
    rw [show fl (.inr (at' + 1)) = 0 from rfl] at w15 w16
    rw [show fl (.inr at') = 0 from rfl]
    have q2 : σ2.2.2.1 = σ.2.2.1 + 1 := by rw [z2, z1]
    have q2' : σ2.2.2.2 = σ.2.2.2 + 21 := by rw [z2, z1]
    have q4 : σ4.2.2 = σ3.2.2 := by rw [z4]
    have q6 : σ6.2.2.1 = σ4.2.2.1 + 1 := by rw [z6, z15]
    have q6' : σ6.2.2.2 = σ4.2.2.2 + 3 := by rw [z6, z15]
    rw [q4] at q6 q6'
    omega
  · obtain ⟨t1, t2, t3, t4, t5, t6⟩ := w17 (at' + 1) t j rfl hF
    have nU := nUse_12 (f := f) (pp := pp) (ee := ee) at' ν
    rw [nU.1] at t1 t4
    have envlt : ∀ u ∈ ν.1, u < at' := fun u hu => hq.2.1 u (Or.inl hu)
    have ER : nR f pp ee nm7 ν.1 = nRes f pp ee nm ν := by rw [nRes_R]; exact nR_cg (fun u hu => t3 u (by have := envlt u hu; omega))
    have KL : cKp κ A D7 σ4.2.1 σ7 D7 σ.2.1 σ7 := ⟨fun a w => ⟨rfl, by have := w.1; omega, w.2⟩, fun a gs ea => ⟨gs, ea⟩, fun a gs ea => ⟨gs, ea⟩, v7.low⟩
    refine ⟨?_, t2, fun u hu => t3 u (by omega), t4, ?_, t6⟩
    · unfold cTr
      rw [ER, hq.1.1]
      refine ⟨⟨Nat.le_refl _, alt v7.1.1.1 e7, cMu.no v7 e7 (by omega)⟩, σ4.2.1, 0 + q, g7, ?_, ?_, ?_⟩
      · rw [e7, hr]; rfl
      · exact cLn.kp KL ⟨d7, cap7, mc7, w5, w6, w7, by omega⟩
      · exact cTr.kp KL (P := fun _ => True) (fun _ _ => rfl) _ _ _ _ _ _ (fun _ _ => trivial) (fun _ _ => trivial) (fun _ _ => rfl) t1
    · rw [t5, show nF (tN 15 at' 0 0 s0 s0 t tZ) = 0 + nF t + 0 from rfl]; omega
end CRG
