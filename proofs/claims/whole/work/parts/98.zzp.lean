/-! the class's parser: use over NAMES in one word; readIndex -/
/-- NAME [ S ] -/
def aIx (kk : Nat → Int32) (T : Nat) (i : Nat) : aR tS := (aMs kk 1 i).on fun _ i1 => (aMs kk 91 i1).on fun _ i2 => (aSm kk T i2).on fun s i3 => (aMs kk 93 i3).on fun _ i4 => .inr (s, i4)
theorem orn_va (o : Option Nat) (s : oSt) (g : Option Nat → oSt → oRs) : orn (some (some (va_rf o), s)) g = g o s := by cases o <;> rfl
section CRA
variable {κ : oKv} {sz T n m len cnt : Nat} {kk pp ee f : Nat → Int32} {A : Nat → Nat} {nq ni : Int32} {rt : Value} {σ σ' : oSt} {D D' : cDt} {at' cd : Nat} {cn am bd nf ff : Int32} {s : Sum Nat Nat} {nm nm' : Nat → Option Nat} {ν : nSt} {lo e i : Nat}
theorem nRes_use (w : Nat) : nRes f pp ee nm (nUse f pp ee w ν) = nRes f pp ee nm ν := by rw [nRes_R, nRes_R, (nUse_12 _ _).1]
theorem nRes_ps (ps : List tP) : nRes f pp ee nm (nPs f pp ee ps ν) = nRes f pp ee nm ν := by rw [nRes_R, nRes_R, (nPs_12 _ _).1]
theorem c_useQ (h : cV κ sz len cnt kk pp ee f A nq ni rt σ D at' cd cn am bd nf ff) (ho : cO pp cnt at' bd s) (hn : ∀ i, s = .inr i → cQn pp ee f σ D nm ν cd nf i) (hm : 8 ≤ n) (hT : 2010 ≤ T) (hwl : ∀ j, j < cnt → wL pp ee j ≤ 10) : ∃ σ' at2 bd2 nf2 r, oF κ T n 119 [va_rf (some (A 0))] σ = some (some (va_rf r), σ') ∧ cV κ sz len cnt kk pp ee f A nq ni rt σ' D at2 cd cn am bd2 nf2 ff ∧ cO pp cnt at2 bd2 (aTo s (aMs kk 1)) ∧ cFr A σ D σ' D ∧ (σ'.2.2.1 ≤ σ.2.2.1 + 2 ∧ σ'.2.2.2 ≤ σ.2.2.2 + 24) ∧ (at' ≤ at2 ∧ at' + 1 ≤ at2 + fl (aTo s (aMs kk 1))) ∧ (∀ i, s = .inr i → aIs kk 1 i = true → r = nRes f pp ee nm ν i ∧ cQn pp ee f σ' D nm (nUse f pp ee i ν) cd nf2 (i + 1)) ∧ (∀ b, r = some b → ∃ fs, σ'.1 b = some (.inr (6, fs))) := by
  obtain ⟨σ1, at1, bd1, nf1, r, a1, a2, a3, a4, ⟨a5, a6, a7⟩, a8, a9⟩ := c_use (κ := κ) (T := T) (n := n) h ho (fun i hi => (hn i hi).1) hm hT
  have hw : (if cK kk s = 1 then wL pp ee at' else 0) ≤ 10 := by
    split
    · rename_i ck
      obtain ⟨i, hs, hi⟩ := cK_1 ck
      subst hs
      refine hwl at' ?_
      have ck' : kk i = nI 1 := ck
      by_cases q : i < cnt
      · rw [ho.2.1]; exact q
      · have : i = cnt := by have := ho.2.2; omega
        rw [this, h.1.2.2.2.2.2.1] at ck'
        exact absurd ck' (by decide)
    · omega
  refine ⟨σ1, at1, bd1, nf1, r, a1, a2, a3, a4, ⟨a5, by omega⟩, ⟨a7, fl_ms a3 (fun i hi => (ho.at hi).1) a7⟩, fun i hi g => ?_, a9⟩
  obtain ⟨b1, b2⟩ := a8 i hi g
  exact ⟨b1, ((hn i hi).nn b2 (nUse_12 _ _).1 (nUse_12 _ _).2).le (by omega)⟩
theorem aIx_st (kk : Nat → Int32) (T : Nat) (i : Nat) : (aIx kk T i).st = aTo (aTo (aTo (aTo (.inr i) (aMs kk 1)) (aMs kk 91)) (aSm kk T)) (aMs kk 93) := by
  unfold aIx
  simp only [aTo]
  cases aMs kk 1 i with
  | inl k => rfl
  | inr p =>
    obtain ⟨t, i1⟩ := p
    simp only [aR.on, aR.st]
    cases aMs kk 91 i1 with
    | inl k => rfl
    | inr p =>
      obtain ⟨t, i2⟩ := p
      simp only
      cases aSm kk T i2 with
      | inl k => rfl
      | inr p =>
        obtain ⟨t, i3⟩ := p
        simp only
        cases aMs kk 93 i3 with
        | inl k => rfl
        | inr p => rfl
set_option maxHeartbeats 4000000 in
theorem c_idx {fs : List Value} (h : cV κ sz len cnt kk pp ee f A nq ni rt σ D at' cd cn am bd nf ff) (ho : cO pp cnt at' bd (.inr at')) (hq : cQn pp ee f σ D nm ν cd nf at') (he : σ.1 e = some (.inr (7, fs))) (hfs : fs.length = 21) (hb1 : 1 ≤ at' ∨ aIs kk 1 at' = true) (hm : 12 ≤ m) (hT : 2010 ≤ T) (hwl : ∀ j, j < cnt → wL pp ee j ≤ 10) : ∃ σ' at2 bd2 nf2 r mk l nd, oF κ T (m + 1) 133 [va_rf (some (A 0)), va_rf (some e)] σ = some (none, σ') ∧ cV κ sz len cnt kk pp ee f A nq ni rt σ' D at2 cd cn am bd2 nf2 ff ∧ cO pp cnt at2 bd2 (aIx kk T at').st ∧ cFe A e σ D σ' D ∧ σ'.1 e = some (.inr (7, ((((fs.set 4 (.int (pp at'))).set 9 (va_rf r)).set 3 (.int mk)).set 15 (.ref l)).set 17 (.ref nd))) ∧ (σ'.2.2.1 + 8 * at' ≤ σ.2.2.1 + 27 + 8 * at2 ∧ σ'.2.2.2 + 77 * at' ≤ σ.2.2.2 + 265 + 77 * at2) ∧ (at' ≤ at2 ∧ at' + 4 ≤ at2 + 4 * fl (aIx kk T at').st ∧ (aIs kk 1 at' = true → at' + 1 ≤ at2)) ∧ (∀ S j, aIx kk T at' = .inr (S, j) → ∃ su, r = nRes f pp ee nm ν at' ∧ mk = pp (at' + 1) ∧ cSq κ T pp ee f A D σ.2.1 σ' l (pp S.1) cd (nRes f pp ee nm ν) S (tAl kk S) su ∧ cIn κ T pp ee f A D σ.2.1 σ' nd su cd (nRes f pp ee nm ν) at' S ∧ cQn pp ee f σ' D nm (nPs f pp ee S.2 (nUse f pp ee at' ν)) cd nf2 j ∧ at' + 4 ≤ j) := by
  have hcn : cnt ≤ 2000 := by have := h.1.2.1.2.2.2.2.2; have := h.1.2.1.2.2.2.2.1; omega
  have le0 : e < σ.2.1 := alt h.1.1.1 he
  rw [oE_X7_readIndex]
  unfold ob_X7_readIndex
  obtain ⟨σ1, p1, v1, e1, f1, z1, k1, Q1⟩ := w_put (k := 4) (v := .int (pp at')) h he hfs (by decide)
  rw [oob_at h.2.1, obn_at, c_here (n := m) h (by omega), oin_at, p1, obn_at, oob_at v1.2.1, obn_at]
  obtain ⟨σ2, at2, bd2, nf2, r, a1, v2, o2, r2, ⟨a5, a6⟩, ⟨a7, a7b⟩, a8, a9⟩ := c_useQ (κ := κ) (T := T) (n := m) v1 ho (fun i hi => by cases hi; exact Q1 _ _ _ hq) (by omega) hT hwl
  rw [a1, orn_va]
  have e2 := v1.kd r2 e1 (by omega)
  obtain ⟨σ3, p3, v3, e3, f3, z3, k3, Q3⟩ := w_put (k := 9) (v := va_rf r) v2 e2 (by rw [List.length_set]; exact hfs) (by decide)
  rw [p3, obn_at, oob_at v3.2.1, obn_at, c_here (n := m) v3 (by omega), oin_at]
  obtain ⟨σ4, p4, v4, e4, f4, z4, k4, Q4⟩ := w_put (k := 3) (v := .int (pp at2)) v3 e3 (by rw [List.length_set, List.length_set]; exact hfs) (by decide)
  rw [p4, obn_at, oob_at v4.2.1, obn_at]
  obtain ⟨σ5, at5, bd5, x1, v5, o5, r5, z5, k5, x5⟩ := c_expect (κ := κ) (T := T) (k := 91) (n := m) v4 o2 (by decide) (by omega)
  have x1' : oF κ T m 108 [va_rf (some (A 0)), .int 91] σ4 = some (none, σ5) := x1
  rw [x1', ocv_at, oob_at v5.2.1, obn_at]
  have e5 := v4.kd r5 e4 (by omega)
  have g5 := fl_ms o5 (fun i hi => (o2.at hi).1) x5
  have N5 : ∀ i, aTo (aTo (.inr at') (aMs kk 1)) (aMs kk 91) = .inr i → cQn pp ee f σ5 D nm (nUse f pp ee at' ν) cd nf2 i ∧ i = at' + 2 ∧ r = nRes f pp ee nm ν at' ∧ at2 = at' + 1 := fun i hi => by
    obtain ⟨i2, u, h2, m2⟩ := aTo_inr hi
    obtain ⟨i1, t, h1, c1⟩ := aTo_inr h2
    injection h1 with h1
    subst h1
    obtain ⟨w1, w2⟩ := a8 _ rfl (aMs_inr c1).1
    have i2e := (aMs_inr c1).2
    have ie := (aMs_inr m2).2
    have := (o2.at h2).1
    exact ⟨((Q4 _ _ _ (Q3 _ _ _ w2)).le (by omega)).kf v4 r5, by omega, w1, by omega⟩
  obtain ⟨σ6, at6, bd6, nf6, fl6, su, na, ta, cap, L, pl, b1, v6, o6, r6, ⟨b2, b3, b4, b4b⟩, ⟨b5, b6, b7, b8, b9⟩, ⟨b10, b11⟩, ⟨b12, b13⟩, b14⟩ := c_sumQ (κ := κ) (T := T) (m := m) (nm := nm) (ν := nUse f pp ee at' ν) v5 o5 (fun i hi => (N5 i hi).1) (by omega) hT hwl
  rw [b1, orn_at]
  have e6 := v5.kd r6 e5 (by omega)
  have l5 : e < σ5.2.1 := alt v5.1.1.1 e5
  obtain ⟨σ7, p7, v7, e7, f7, z7, k7, Q7⟩ := w_put (k := 15) (v := va_rf (some σ5.2.1)) v6 e6 (by simp [hfs]) (by decide)
  rw [p7, obn_at, oob_at v7.2.1, obn_at]
  obtain ⟨σ8, at8, bd8, y1, v8, o8, r8, z8, k8, y5⟩ := c_expect (κ := κ) (T := T) (k := 93) (n := m) v7 o6 (by decide) (by omega)
  have y1' : oF κ T m 108 [va_rf (some (A 0)), .int 93] σ7 = some (none, σ8) := y1
  rw [y1', ocv_at, olet_at, obn_at]
  have e8 := v7.kd r8 e7 (by omega)
  have g8 := fl_ms o8 (fun i hi => (o6.at hi).1) y5
  -- the S as it is now
  have f68 : cFe A e σ6 D σ8 D := f7.tr (r8.fe e)
  have G68 : cKp κ A D σ5.2.1 σ6 D σ5.2.1 σ8 := cKp.fe v6 f68 e6 e8 l5 (Nat.le_refl _) v8.low
  have S8 : cSm σ8 su na ta cap L pl := b5.kp G68 b7 b8 b9
  have lk : ∀ a, a < σ8.2.1 → ¬ cMu A D a → a ≠ e → True := fun _ _ _ _ => trivial
  have okl : cOk A D σ5.2.1 σ6 σ5.2.1 := ⟨Nat.le_refl _, alt v6.1.1.1 b2, cMu.no v6 b2 (by omega)⟩
  have l8 : σ8.1 σ5.2.1 = some (.inr (7, fl6)) := (G68.1 _ okl).1.trans b2
  have r8' : ∀ b, r = some b → ∃ gs, σ8.1 b = some (.inr (6, gs)) := fun b hb => by
    obtain ⟨gs, eg⟩ := a9 b hb
    obtain ⟨gs5, eg5⟩ : ∃ gs5, σ5.1 b = some (.inr (6, gs5)) := by
      have c3 := (k3 b (fun z => by rw [z, e2] at eg; cases eg)).trans eg
      have c4 := (k4 b (fun z => by rw [z, e3] at c3; cases c3)).trans c3
      exact ⟨gs, v4.kd r5 c4 (by omega)⟩
    exact G68.2.1 b gs5 (v5.kd r6 eg5 (by omega))
  have at8c : at8 ≤ cnt := v8.2.2.1
  have at5p : 1 ≤ at5 := by
    rcases hb1 with z | z
    · omega
    · rw [aTo_ok, show aMs kk 1 at' = .inr ((), at' + 1) by unfold aMs; rw [if_pos z]] at a7b
      have : fl (aR.st (.inr ((), at' + 1) : aR Unit)) = 0 := rfl
      omega
  obtain ⟨σ9, σ10, σ11, na', ta', cap', c1, c2, c3, ⟨A9, A10, A11⟩, ⟨⟨h9, w9⟩, ⟨h10, w10⟩⟩, v11, r11, ⟨S11, s1, s2, s3, s4, s5⟩, ⟨c10, c11⟩⟩ := c_byd (κ := κ) (T := T) (m := m) (r := r) (v := -1) v8 S8 (by omega) r8' (by omega) hT
  have e9 := (A9 e (alt v8.1.1.1 e8)).trans e8
  have e10 := (A10 e (alt v8.1.1.1 e8)).trans e8
  have e11 := (A11 e (alt v8.1.1.1 e8)).trans e8
  have l9 := (A9 _ (alt v8.1.1.1 l8)).trans l8
  have l11 := (A11 _ (alt v8.1.1.1 l8)).trans l8
  have f15 : ofd σ9 (some e) 7 15 = some (.ref σ5.2.1) := by rw [ofd_at e9]; simp [hfs, va_rf]
  have f19 : ofd σ9 (some σ5.2.1) 7 19 = some (.ref su) := by rw [ofd_at l9]; exact b4
  have f9 : ofd σ10 (some e) 7 9 = some (va_rf r) := by rw [ofd_at e10]; simp [hfs]
  rw [c1, ocv_at, f15, ovr_rf, obn_at, f19, ovr_rf, obn_at, oob_at w9, obn_at, c2, ocv_at, f9, ovr_va, obn_at, oob_at w10, obn_at, c3, ocv_at, oob_at v11.2.1, obn_at]
  -- the node of both
  obtain ⟨d1, v12, r12⟩ := c_node (κ := κ) (T := T) (n := m) (k := 302) v11 (by omega)
  rw [d1, orn_at]
  have n12 : (onew σ11 (.inr (7, cNd 302 (pp at8) (nI cd))) 21).1 σ11.2.1 = some (.inr (7, cNd 302 (pp at8) (nI cd))) := onew_eq _ _ _
  have k12 : ∀ a, a ≠ σ11.2.1 → (onew σ11 (.inr (7, cNd 302 (pp at8) (nI cd))) 21).1 a = σ11.1 a := fun a ha => onew_ne ha
  have z12 : (onew σ11 (.inr (7, cNd 302 (pp at8) (nI cd))) 21).2 = (σ11.2.1 + 1, σ11.2.2.1 + 1, σ11.2.2.2 + 21) := rfl
  generalize onew σ11 (.inr (7, cNd 302 (pp at8) (nI cd))) 21 = σ12 at v12 r12 n12 k12 z12 ⊢
  have z121 : σ12.2.1 = σ11.2.1 + 1 := by rw [z12]
  have l11e : e < σ11.2.1 := alt v11.1.1.1 e11
  have e12 := (k12 e (by omega)).trans e11
  obtain ⟨σ13, p13, v13, e13, f13, z13, k13, Q13⟩ := w_put (k := 17) (v := va_rf (some σ11.2.1)) v12 e12 (by simp [hfs]) (by decide)
  have n13 := (k13 _ (by omega)).trans n12
  have f17 : ofd σ13 (some e) 7 17 = some (.ref σ11.2.1) := by rw [ofd_at e13]; simp [hfs, va_rf]
  rw [p13, obn_at, f17, ovr_rf, obn_at, olet_at, oq_1, obn_at]
  -- its list
  obtain ⟨v14, r14⟩ := v13.nw (.inr (1, odef 1)) 3
  have n14 : (onew σ13 (.inr (1, odef 1)) 3).1 σ13.2.1 = some (.inr (1, odef 1)) := onew_eq _ _ _
  have k14 : ∀ a, a ≠ σ13.2.1 → (onew σ13 (.inr (1, odef 1)) 3).1 a = σ13.1 a := fun a ha => onew_ne ha
  have z14 : (onew σ13 (.inr (1, odef 1)) 3).2 = (σ13.2.1 + 1, σ13.2.2.1 + 1, σ13.2.2.2 + 3) := rfl
  generalize onew σ13 (.inr (1, odef 1)) 3 = σ14 at v14 r14 n14 k14 z14 ⊢
  have z131 : σ13.2.1 = σ11.2.1 + 1 := by rw [z13, z12]
  obtain ⟨m3, hm3⟩ : ∃ m3, m = m3 + 3 := ⟨m - 3, by omega⟩
  have LI := l_init (κ := κ) (T := T) (n := m3) n14
  rw [← hm3] at LI
  rw [LI, ocv_at]
  have n15 : (oput σ14 σ13.2.1 (.inr (1, [.int 0, .ref κ.2.2.1, .int 0]))).1 σ13.2.1 = some (.inr (1, [.int 0, .ref κ.2.2.1, .int 0])) := oput_eq _ _ _
  have k15 : ∀ a, a ≠ σ13.2.1 → (oput σ14 σ13.2.1 (.inr (1, [.int 0, .ref κ.2.2.1, .int 0]))).1 a = σ13.1 a := fun a ha => by rw [oput_ne ha]; exact k14 a ha
  have z15 : (oput σ14 σ13.2.1 (.inr (1, [.int 0, .ref κ.2.2.1, .int 0]))).2 = (σ13.2.1 + 1, σ13.2.2.1 + 1, σ13.2.2.2 + 3) := z14
  generalize oput σ14 σ13.2.1 (.inr (1, [.int 0, .ref κ.2.2.1, .int 0])) = σ15 at n15 k15 z15 ⊢
  have z151 : σ15.2.1 = σ13.2.1 + 1 := by rw [z15]
  obtain ⟨v15, r15⟩ := v13.ex (σ' := σ15) (fun a ha => k15 a (by omega)) (fun q hq => by rw [k15 q (by omega)]; exact v13.1.1.1 q (by omega)) (by omega)
  have e15 := (k15 e (by have := alt v13.1.1.1 e13; omega)).trans e13
  have nd15 := (k15 σ11.2.1 (by omega)).trans n13
  obtain ⟨σ16, p16, v16, n16, f16, z16, k16, Q16⟩ := w_put (e := σ11.2.1) (k := 18) (v := va_rf (some σ13.2.1)) v15 nd15 rfl (by decide)
  have e16 := (k16 e (by omega)).trans e15
  have pa16 := (k16 σ13.2.1 (by omega)).trans n15
  have l12 := (k12 σ5.2.1 (by have := alt v11.1.1.1 l11; omega)).trans l11
  have l13 := (k13 σ5.2.1 (by omega)).trans l12
  have l15 := (k15 σ5.2.1 (by have := alt v13.1.1.1 l13; omega)).trans l13
  have l16 := (k16 σ5.2.1 (by have := alt v11.1.1.1 l11; omega)).trans l15
  have f17' : ofd σ16 (some e) 7 17 = some (.ref σ11.2.1) := by rw [ofd_at e16]; simp [hfs, va_rf]
  have f18' : ofd σ16 (some σ11.2.1) 7 18 = some (.ref σ13.2.1) := by rw [ofd_at n16]; rfl
  have f15' : ofd σ16 (some e) 7 15 = some (.ref σ5.2.1) := by rw [ofd_at e16]; simp [hfs, va_rf]
  have f19' : ofd σ16 (some σ5.2.1) 7 19 = some (.ref su) := by rw [ofd_at l16]; exact b4
  rw [p16, obn_at, f17', ovr_rf, obn_at, f18', ovr_rf, obn_at, f15', ovr_rf, obn_at, f19', ovr_rf, obn_at, oob_at v16.2.1, obn_at]
  -- the first comparison
  obtain ⟨m1, hm1⟩ : ∃ m1, m = m1 + 1 := ⟨m - 1, by omega⟩
  obtain ⟨σ17, t1, v17, r17, t2, k17, z17⟩ := c_cpr (κ := κ) (T := T) (m := m1) (su := some su) (rl := 301) v16 (by omega)
  rw [← hm1] at t1
  have z171 : σ17.2.1 = σ16.2.1 + 1 := by rw [z17]
  have z161 : σ16.2.1 = σ13.2.1 + 1 := by rw [z16, z151]
  have pa17 := (k17 σ13.2.1 (by omega)).trans pa16
  rw [t1, orn_at, oob_at pa17, obn_at]
  have lst17 : cLs κ σ17 σ13.2.1 κ.2.2.1 0 0 0 (fun _ => none) 7 := ⟨pa17, Or.inl ⟨rfl, rfl, rfl, v17.low⟩, fun j hj => by omega⟩
  have A8 : A 8 < σ.2.1 := h.1.lt (by unfold cSt; simp)
  have A9' : A 9 < σ.2.1 := h.1.lt (by unfold cSt; simp)
  have L08 : σ.2.1 ≤ σ8.2.1 := by have q1 : σ1.2.1 = σ.2.1 := by rw [z1]
                                  have q2 := r2.1
                                  have q4 : σ4.2.1 = σ2.2.1 := by rw [z4, z3]
                                  have q5 := r5.1
                                  have q6 := r6.1
                                  have q8 : σ8.2.1 = σ6.2.1 := by rw [z8, z7]
                                  omega
  have L811 : σ8.2.1 ≤ σ11.2.1 := r11.1
  have okp17 : cOk A D σ.2.1 σ17 σ13.2.1 := ⟨by omega, by omega, cMu.n1 v17 pa17 (by omega) (by omega)⟩
  obtain ⟨σ18, d18, cap18, g18, q1, v18, ls18, q4, q5, q6, ⟨q7, q8⟩, q9, q10, q11, ⟨q12, q13⟩⟩ := c_ladd (κ := κ) (T := T) (m := m) (lo := σ.2.1) v17 h.lo lst17 (Or.inr ⟨rfl, v17.low⟩) okp17 (by omega) (by omega) t2 (by omega)
  rw [q1, oin_at]
  -- cells that stay
  have d18n : ∀ a c, σ17.1 a = some c → (∀ y, c ≠ .inl (.object "java/lang/Object", y)) → a ≠ d18 := fun a c ea hc z => by
    rcases q10 with y | y
    · rw [z, y, v17.low] at ea; cases ea
    · have := alt v17.1.1.1 ea; omega
  have e17 := (k17 e (by have := alt v16.1.1.1 e16; omega)).trans e16
  have e18 := (q9 e (fun z => by rw [z, pa17] at e17; cases e17) (d18n e _ e17 (fun y z => by cases z))).trans e17
  have n17 := (k17 σ11.2.1 (by omega)).trans n16
  have n18 := (q9 σ11.2.1 (by omega) (d18n _ _ n17 (fun y z => by cases z))).trans n17
  have f17'' : ofd σ18 (some e) 7 17 = some (.ref σ11.2.1) := by rw [ofd_at e18]; simp [hfs, va_rf]
  have f18'' : ofd σ18 (some σ11.2.1) 7 18 = some (.ref σ13.2.1) := by rw [ofd_at n18]; rfl
  rw [f17'', ovr_rf, obn_at, f18'', ovr_rf, obn_at, oob_at v18.2.1, obn_at]
  obtain ⟨σ19, t1', v19, r19, t2', k19, z19⟩ := c_cpr (κ := κ) (T := T) (m := m1) (su := some σ8.2.1) (rl := 60) v18 (by omega)
  rw [← hm1] at t1'
  have z191 : σ19.2.1 = σ18.2.1 + 1 := by rw [z19]
  have pa18 := ls18.1
  have pa19 := (k19 σ13.2.1 (by have := alt v18.1.1.1 pa18; omega)).trans pa18
  rw [t1', orn_at, oob_at pa19, obn_at]
  have ls19 := ls18.keep (σ' := σ19) (k19 σ13.2.1 (by have := alt v18.1.1.1 pa18; omega)) (k19 d18 (by have := q4.2.1; omega)) (fun a gs ea => ⟨gs, (k19 a (by have := alt v18.1.1.1 ea; omega)).trans ea⟩)
  have okd19 : cOk A D σ.2.1 σ19 d18 := q4.to r19
  have okp19 : cOk A D σ.2.1 σ19 σ13.2.1 := q5.to r19
  obtain ⟨σF, dF, capF, gF, u1, vF, lsF, u4, u5, u6, ⟨u7, u8⟩, u9, u10, u11, ⟨u12, u13⟩⟩ := c_ladd (κ := κ) (T := T) (m := m) (lo := σ.2.1) v19 h.lo ls19 (Or.inl okd19) okp19 (by omega) (by omega) t2' (by omega)
  rw [u1, oin_at]
  have dFn : ∀ a c, σ19.1 a = some c → (∀ y, c ≠ .inl (.object "java/lang/Object", y)) → a ≠ dF := fun a c ea hc z => by
    rcases u10 with y | y
    · rw [z, y] at ea
      rcases ls19.2.1 with ⟨-, -, -, w⟩ | ⟨w, -⟩
      · rw [w] at ea; cases ea
      · rw [w] at ea; injection ea with ea; exact hc _ ea.symm
    · have := alt v19.1.1.1 ea; omega
  have e19 := (k19 e (by have := alt v18.1.1.1 e18; omega)).trans e18
  have eF := (u9 e (fun z => by rw [z, pa19] at e19; cases e19) (dFn e _ e19 (fun y z => by cases z))).trans e19
  -- below what was there behind the sum, but for e, all is kept
  have d18e : d18 = σ17.2.1 := by
    rcases q10 with y | y
    · exfalso
      have w1 := q4.1
      have w2 := v17.1.1.2.2.2
      have w3 := h.1.1.2.2.1
      omega
    · exact y
  have dFe : σ17.2.1 ≤ dF := by
    rcases u10 with y | y
    · omega
    · omega
  have KF : ∀ a, a < σ17.2.1 → a ≠ σ13.2.1 → σF.1 a = σ17.1 a := fun a ha hne => by
    rw [u9 a hne (by omega), k19 a (by omega), q9 a hne (by omega)]
  have K11 : ∀ a, a < σ11.2.1 → a ≠ e → σF.1 a = σ11.1 a := fun a ha hne => by
    rw [KF a (by omega) (by omega), k17 a (by omega), k16 a (by omega), k15 a (by omega), k13 a hne, k12 a (by omega)]
  have z41 : σ4.2.1 = σ2.2.1 := by rw [z4, z3]
  have z81 : σ8.2.1 = σ6.2.1 := by rw [z8, z7]
  have le8 : e < σ8.2.1 := alt v8.1.1.1 e8
  have F8F : cFe A e σ8 D σF D := ⟨by omega, fun a ha _ hne => (K11 a (by omega) hne).trans (A11 a ha), Or.inl rfl, Or.inl rfl⟩
  have F08 : cFe A e σ D σ8 D := ((((((f1.tr (r2.fe e)).tr f3).tr f4).tr (r5.fe e)).tr (r6.fe e)).tr f68)
  have nF := (KF σ11.2.1 (by omega) (by omega)).trans n17
  have xF := (KF σ16.2.1 (by omega) (by omega)).trans t2
  have q42 := q4.2.1
  have L05 : σ.2.1 ≤ σ5.2.1 := by
    have w1 := r5.1
    have w2 := r2.1
    have w3 : σ1.2.1 = σ.2.1 := by rw [z1]
    omega
  have yF := (u9 σ18.2.1 (by omega) (by omega)).trans t2'
  have hst := aIx_st kk T at'
  refine ⟨σF, at8, bd8, nf6, r, pp at2, σ5.2.1, σ11.2.1, rfl, vF, by rw [hst]; exact o8, F08.tr F8F, eF, ⟨?_, ?_⟩, ⟨by omega, ?_, fun z => ?_⟩, fun S j hF => ?_⟩
  · have w1 : σ1.2.2.1 = σ.2.2.1 := by rw [z1]
    have w2 : σ5.2.2.1 = σ2.2.2.1 := by rw [z5, z4, z3]
    have w3 : σ8.2.2.1 = σ6.2.2.1 := by rw [z8, z7]
    have w4 : σ13.2.2.1 = σ11.2.2.1 + 1 := by rw [z13, z12]
    have w5 : σ16.2.2.1 = σ13.2.2.1 + 1 := by rw [z16, z15]
    have w6 : σ17.2.2.1 = σ16.2.2.1 + 1 := by rw [z17]
    have w7 : σ19.2.2.1 = σ18.2.2.1 + 1 := by rw [z19]
    omega
  · have w1 : σ1.2.2.2 = σ.2.2.2 := by rw [z1]
    have w2 : σ5.2.2.2 = σ2.2.2.2 := by rw [z5, z4, z3]
    have w3 : σ8.2.2.2 = σ6.2.2.2 := by rw [z8, z7]
    have w4 : σ13.2.2.2 = σ11.2.2.2 + 21 := by rw [z13, z12]
    have w5 : σ16.2.2.2 = σ13.2.2.2 + 3 := by rw [z16, z15]
    have w6 : σ17.2.2.2 = σ16.2.2.2 + 21 := by rw [z17]
    have w7 : σ19.2.2.2 = σ18.2.2.2 + 21 := by rw [z19]
    omega
  · rw [hst]
    have n1 := fl_to (aTo (.inr at') (aMs kk 1)) (aMs kk 91)
    have n2 := fl_to (aTo (aTo (.inr at') (aMs kk 1)) (aMs kk 91)) (aSm kk T)
    have n3 := fl_to (aTo (aTo (aTo (.inr at') (aMs kk 1)) (aMs kk 91)) (aSm kk T)) (aMs kk 93)
    omega
  · rw [aTo_ok, show aMs kk 1 at' = .inr ((), at' + 1) by unfold aMs; rw [if_pos z]] at a7b
    have : fl (aR.st (.inr ((), at' + 1) : aR Unit)) = 0 := rfl
    omega
  · unfold aIx at hF
    obtain ⟨_, i1, h1, hF⟩ := on_inr hF
    obtain ⟨_, i5, h2, hF⟩ := on_inr hF
    obtain ⟨S', i6, h3, hF⟩ := on_inr hF
    obtain ⟨_, i8, h4, hF⟩ := on_inr hF
    injection hF with hF
    injection hF with hF1 hF2
    subst hF1
    subst hF2
    have S2 := aTo_eq (s := .inr at') rfl h1
    have S5 := aTo_eq S2 h2
    obtain ⟨N1, N2, N3, N4⟩ := N5 i5 S5
    obtain ⟨B1, B2, B3, B4⟩ := b14 i5 S' i6 S5 h3
    rw [nRes_use] at B1 B3
    have l6 := (aSm_1 h3).2
    have i8e := (aMs_inr h4).2
    have okn : ∀ a, σ.2.1 ≤ a → a < σF.2.1 → cOk A D σ.2.1 σF a := fun a w1 w2 => h.new w1 w2
    refine ⟨su, N3, by rw [N4], ?_, ?_, ?_, by omega⟩
    · exact cSq.kp (cKp.fe v6 (f68.tr F8F) e6 eF l5 L05 vF.low) B3
    · refine ⟨okn _ (by omega) (by omega), pp at8, σ13.2.1, gF, σ16.2.1, σ18.2.1, σ8.2.1, na', ta', cap', nF, ⟨dF, capF, _, lsF, Or.inl u4, u5, u6⟩, (u7 0 (by omega)).trans q8, u8, ⟨okn _ (by omega) (by omega), _, xF⟩, ⟨okn _ (by omega) (by omega), _, yF⟩, ?_, okn _ (by omega) (by omega), okn _ (by omega) (by omega), okn _ (by omega) (by omega)⟩
      rw [N3, B1, B2] at S11
      exact S11.keep (fun a ha => K11 a (by rcases ha with z | z | z <;> omega) (by rcases ha with z | z | z <;> omega)) (fun a gs ea => ⟨gs, (K11 a (alt v11.1.1.1 ea) (fun z => by rw [z, e11] at ea; cases ea)).trans ea⟩)
    · have Q8 := ((Q7 _ _ _ B4).le (show i6 ≤ i8 by omega)).kf v7 r8
      exact ⟨Q8.1.gn (v8.tyE e8 F8F), Q8.2⟩
end CRA
