/-! the class's parser: argument -/
/-- an ARG is there, NAMES and forms are as it says -/
def cPa (κ : oKv) (T : Nat) (kk pp ee f : Nat → Int32) (A : Nat → Nat) (lo : Nat) (D : cDt) (cd : Nat) (cn ff : Int32) (nm : Nat → Option Nat) (ν : nSt) (σ' : oSt) (D' : cDt) (nf2 ff2 : Int32) (nm' : Nat → Option Nat) (x i : Nat) (a : tT → tT) (j : Nat) : Prop := aSh a ∧ cTr κ T kk pp ee f A D' lo σ' nm' (a tZ) ν.1 D.1.2.2.2.2.2 (fun _ => some x) 0 1 ∧ cQn pp ee f σ' D' nm' (nT f pp ee (a tZ) ν) cd nf2 j ∧ (∀ u, u < i → nm' u = nm u) ∧ ff2 = fE f pp ee (a tZ) ν.1 cn ff ∧ D'.1.2.2.2.2.2 = D.1.2.2.2.2.2 + nF (a tZ) ∧ (∀ x, x < D.1.2.2.2.2.2 → D'.2.2.2 x = D.2.2.2 x)
/-- a reader of an ARG -/
def cAc (κ : oKv) (sz T len cnt : Nat) (kk pp ee f : Nat → Int32) (A : Nat → Nat) (nq ni : Int32) (rt : Value) (dp m : Nat) (G : Nat → aR tT) : Prop := ∀ (σ : oSt) (D : cDt) (at' cd : Nat) (cn am bd nf ff : Int32) (nm : Nat → Option Nat) (ν : nSt), cV κ sz len cnt kk pp ee f A nq ni rt σ D at' cd cn am bd nf ff → cO pp cnt at' bd (.inr at') → aAr kk at' = true → cd ≤ 12 + 6 * dp → cQn pp ee f σ D nm ν cd nf at' → ∃ σ' D' at2 am2 bd2 nf2 ff2 nm' x fs, oF κ T m 134 [va_rf (some (A 0)), .int (nI dp)] σ = some (some (va_rf (some x)), σ') ∧ cV κ sz len cnt kk pp ee f A nq ni rt σ' D' at2 cd cn am2 bd2 nf2 ff2 ∧ cO pp cnt at2 bd2 (aA1 kk T G at').st ∧ cFr A σ D σ' D' ∧ (σ.2.1 ≤ x ∧ σ'.1 x = some (.inr (7, fs))) ∧ cEx 0 0 (svP (aA1 kk T G at')) σ D at' (.inr at') σ' D' at2 (aA1 kk T G at').st ∧ (∀ a j, aA1 kk T G at' = .inr (a, j) → cPa κ T kk pp ee f A σ.2.1 D cd cn ff nm ν σ' D' nf2 ff2 nm' x at' a j)
section CRE
variable {κ : oKv} {sz T n m len cnt : Nat} {kk pp ee f : Nat → Int32} {A : Nat → Nat} {nq ni : Int32} {rt : Value} {σ σ' : oSt} {D D' : cDt} {at' cd : Nat} {cn am bd nf ff : Int32} {s : Sum Nat Nat} {nm nm' : Nat → Option Nat} {ν : nSt} {lo e i : Nat}
theorem aAr_lt (h : cV κ sz len cnt kk pp ee f A nq ni rt σ D at' cd cn am bd nf ff) (hi : i ≤ cnt) (ha : aAr kk i = true) : i < cnt := by
  by_cases q : i < cnt
  · exact q
  · have hc : i = cnt := by omega
    rw [aAr_cb, hc, h.1.2.2.2.2.2.1] at ha
    exact absurd ha (by decide)
/-- the sum of one PART -/
theorem aS1_eq (h : aIs kk 1 i = true ∨ aIs kk 2 i = true) : aS1 kk i = .inr ((i, [(if aIs kk 2 i = true then 0 else 1, false, i)]), i + 1) := by
  have ne : ∀ k, k ≠ 1 → k ≠ 2 → k < 400 → aIs kk k i = false := fun k h1 h2 h3 => by
    rw [Bool.eq_false_iff]
    intro z
    have z' : kk i = nI k := of_decide_eq_true z
    rcases h with y | y
    · have y' : kk i = nI 1 := of_decide_eq_true y
      exact h1 (nI_inj' (by omega) (by omega) (z'.symm.trans y'))
    · have y' : kk i = nI 2 := of_decide_eq_true y
      exact h2 (nI_inj' (by omega) (by omega) (z'.symm.trans y'))
  have nt : ¬ (false = true) := by decide
  unfold aS1
  rw [ne 45 (by decide) (by decide) (by decide), if_neg nt]
  unfold aPt
  rw [ne 211 (by decide) (by decide) (by decide), if_neg nt, ne 221 (by decide) (by decide) (by decide), if_neg nt]
  by_cases c : aIs kk 2 i = true
  · rw [if_pos c, if_pos c]; rfl
  · rw [if_neg c, if_neg c]
    have c1 : aIs kk 1 i = true := by
      rcases h with y | y
      · exact y
      · exact absurd y c
    unfold aMs
    rw [if_pos c1]; rfl
theorem c_sum1Q (h : cV κ sz len cnt kk pp ee f A nq ni rt σ D at' cd cn am bd nf ff) (ho : cO pp cnt at' bd (.inr at')) (hn : cQn pp ee f σ D nm ν cd nf at') (h12 : aIs kk 1 at' = true ∨ aIs kk 2 at' = true) (hm : 10 ≤ m) (hT : 2010 ≤ T) (hwl : ∀ j, j < cnt → wL pp ee j ≤ 10) : ∃ σ' bd2 nf2 fs su, oF κ T m 120 [va_rf (some (A 0)), .int 1] σ = some (some (va_rf (some σ.2.1)), σ') ∧ cV κ sz len cnt kk pp ee f A nq ni rt σ' D (at' + 1) cd cn am bd2 nf2 ff ∧ cO pp cnt (at' + 1) bd2 (.inr (at' + 1)) ∧ cFr A σ D σ' D ∧ (σ'.1 σ.2.1 = some (.inr (7, fs)) ∧ fs.length = 21) ∧ (σ'.2.2.1 ≤ σ.2.2.1 + 11 ∧ σ'.2.2.2 ≤ σ.2.2.2 + 87) ∧ cSq κ T pp ee f A D σ.2.1 σ' σ.2.1 (pp at') cd (nRes f pp ee nm ν) (at', [(if aIs kk 2 at' = true then 0 else 1, false, at')]) (tAl kk (at', [(if aIs kk 2 at' = true then 0 else 1, false, at')])) su ∧ cQn pp ee f σ' D nm (nPs f pp ee [(if aIs kk 2 at' = true then 0 else 1, false, at')] ν) cd nf2 (at' + 1) := by
  obtain ⟨m2, hm2⟩ : ∃ m2, m = m2 + 1 := ⟨m - 1, by omega⟩
  obtain ⟨σ1, a1, at1, bd1, nf1, ns1, ps1, al1, pa1, su1, na1, ta1, cap1, pc1, a2, a3, a4, a5, ⟨a6, a6b⟩, ⟨a7, a7b, a7c⟩, a8⟩ := c_sum1 (κ := κ) (T := T) (m := m2) (nm := nm) (ν := ν) h ho (fun i hi => by cases hi; exact hn.1) (by omega) hT hwl
  rw [← hm2] at a1
  have eS := aS1_eq h12
  rw [aTo_eq (s := .inr at') rfl eS] at a3
  have at1e : at1 = at' + 1 := a3.2.1
  subst at1e
  obtain ⟨b1, b2, b3, b4, b5⟩ := a8 at' _ _ rfl eS
  have G := cSp.nsc (ns' := nRes f pp ee nm ν) a5 (fun p hp h0 => (b4 p (by rw [← b2]; exact hp) h0).symm)
  have a5' := a5.1
  have l1 : ps1.length = 1 := by rw [b2]; rfl
  refine ⟨σ1, bd1, nf1, _, su1, a1, a2, a3, a4, ⟨a5', rfl⟩, ⟨by omega, by omega⟩, ?_, ?_⟩
  · obtain ⟨k1, ⟨dd, mc, g, k2, k3, k4, -⟩, k5, k6⟩ := G
    rw [b2] at k1 k2 k3 k5
    rw [b5] at k1
    exact ⟨pa1, na1, ta1, cap1, pc1, k1, ⟨dd, mc, g, k2, k3, k4⟩, k5, k6⟩
  · exact (hn.nn b3 (nPs_12 _ ν).1 (nPs_12 _ ν).2).le (by omega)
theorem sv_a34 (kk : Nat → Int32) (G : Nat → aR tT) (i : Nat) : svP ((G (i + 1)).on fun e j => (aMs kk 41 j).on fun _ j' => .inr (tN 34 i 0 0 s0 s0 e, j')) + 450 * fl ((G (i + 1)).on fun e j => (aMs kk 41 j).on fun _ j' => (.inr (tN 34 i 0 0 s0 s0 e, j') : aR (tT → tT))).st ≤ 450 + svA (.inr (i + 1)) G := by
  cases hF : ((G (i + 1)).on fun e j => (aMs kk 41 j).on fun _ j' => (.inr (tN 34 i 0 0 s0 s0 e, j') : aR (tT → tT))) with
  | inl k => show 0 + 450 * 1 ≤ _; omega
  | inr p =>
    obtain ⟨t, j⟩ := p
    obtain ⟨e, i3, h1, hF⟩ := on_inr hF
    obtain ⟨_, i4, h2, hF⟩ := on_inr hF
    injection hF with hF
    injection hF with hF1 hF2
    subst hF1
    subst hF2
    rw [svA_eq rfl h1]
    show 450 + (sv e + 0) + 450 * 0 ≤ 450 + sv e
    omega
theorem sv_a33 (kk : Nat → Int32) (T i : Nat) : svP ((aSm kk T (i + 1)).on fun s j => (aMs kk 41 j).on fun _ j' => .inr (tN 33 i 1 0 s s0 tZ, j')) + 551 * fl ((aSm kk T (i + 1)).on fun s j => (aMs kk 41 j).on fun _ j' => (.inr (tN 33 i 1 0 s s0 tZ, j') : aR (tT → tT))).st ≤ 551 := by
  cases hF : ((aSm kk T (i + 1)).on fun s j => (aMs kk 41 j).on fun _ j' => (.inr (tN 33 i 1 0 s s0 tZ, j') : aR (tT → tT))) with
  | inl k => exact Nat.le_refl _
  | inr p =>
    obtain ⟨t, j⟩ := p
    obtain ⟨e, i3, h1, hF⟩ := on_inr hF
    obtain ⟨_, i4, h2, hF⟩ := on_inr hF
    injection hF with hF
    injection hF with hF1 hF2
    subst hF1
    subst hF2
    show 551 + (0 + 0) + 551 * 0 ≤ 551
    omega
set_option maxHeartbeats 2000000 in
theorem c_arg {dp : Nat} {G : Nat → aR tT} (hm : 13 ≤ m) (hT : 2010 ≤ T) (hwl : ∀ j, j < cnt → wL pp ee j ≤ 10) (HE : cEc κ sz T len cnt kk pp ee f A nq ni rt 135 (dp + 1) m G) (hG3 : ∀ i t j, aIs kk 206 i = true → G i = .inr (t, j) → ∃ a, t = tN 3 i 0 0 s0 s0 a tZ) : cAc κ sz T len cnt kk pp ee f A nq ni rt dp (m + 1) G := by
  intro σ D at' cd cn am bd nf ff nm ν h ho ha hcd hq
  have hi : at' < cnt := aAr_lt h h.2.2.1 ha
  rw [oE_X7_argument]
  unfold ob_X7_argument
  have cko : cK kk (.inr at') = kk at' := rfl
  obtain ⟨d1, v1, r1⟩ := c_node (κ := κ) (T := T) (n := m) (k := kk at') h (by omega)
  rw [oob_at h.2.1, obn_at, c_here (n := m) h (by omega), oin_at, oob_at h.2.1, obn_at, c_kind (n := m) h ho (by omega), oin_at, cko, oob_at h.2.1, obn_at, d1, orn_at]
  have n1 : (onew σ (.inr (7, cNd (kk at') (pp at') (nI cd))) 21).1 σ.2.1 = some (.inr (7, cNd (kk at') (pp at') (nI cd))) := onew_eq _ _ _
  have k1 : ∀ a, a ≠ σ.2.1 → (onew σ (.inr (7, cNd (kk at') (pp at') (nI cd))) 21).1 a = σ.1 a := fun a ha => onew_ne ha
  have z1 : (onew σ (.inr (7, cNd (kk at') (pp at') (nI cd))) 21).2 = (σ.2.1 + 1, σ.2.2.1 + 1, σ.2.2.2 + 21) := rfl
  generalize onew σ (.inr (7, cNd (kk at') (pp at') (nI cd))) 21 = σ1 at v1 r1 n1 k1 z1 ⊢
  have z11 : σ1.2.1 = σ.2.1 + 1 := by rw [z1]
  have z12 : σ1.2.2.1 = σ.2.2.1 + 1 := by rw [z1]
  have z13 : σ1.2.2.2 = σ.2.2.2 + 21 := by rw [z1]
  have q1 : cQn pp ee f σ1 D nm ν cd nf at' := hq.kf h r1
  rw [oob_at v1.2.1, obn_at, c_kind (n := m) v1 ho (by omega), oin_at, cko]
  -- a truth
  have TF : ∀ (k : Int32) (w : Nat), kk at' = k → ((w = 1 ∧ k = 223) ∨ (w = 0 ∧ k = 205)) → aA1 kk T G at' = .inr (tN 35 at' w 0 s0 s0 tZ, at' + 1) → ∃ σ' D' at2 am2 bd2 nf2 ff2 nm' x fs, oj_X7_argument_34 T (oF κ T m) κ (some (A 0)) (pp at') (some σ.2.1) σ1 = some (some (va_rf (some x)), σ') ∧ cV κ sz len cnt kk pp ee f A nq ni rt σ' D' at2 cd cn am2 bd2 nf2 ff2 ∧ cO pp cnt at2 bd2 (aA1 kk T G at').st ∧ cFr A σ D σ' D' ∧ (σ.2.1 ≤ x ∧ σ'.1 x = some (.inr (7, fs))) ∧ cEx 0 0 (svP (aA1 kk T G at')) σ D at' (.inr at') σ' D' at2 (aA1 kk T G at').st ∧ (∀ a j, aA1 kk T G at' = .inr (a, j) → cPa κ T kk pp ee f A σ.2.1 D cd cn ff nm ν σ' D' nf2 ff2 nm' x at' a j) := fun k w hk hkw eA => by
    unfold oj_X7_argument_34
    obtain ⟨σ2, a2, v2, o2, r2, z2, k2⟩ := w_next (κ := κ) (T := T) (n := m) v1 ho hi (by omega)
    rw [oob_at v1.2.1, obn_at, a2, ocv_at]
    unfold oj_X7_argument_115
    have n2 := v1.kd r2 n1 (by omega)
    obtain ⟨σ3, p3, v3, n3, f3, z3, k3, Q3⟩ := w_put (k := 3) (v := .int (pp at')) v2 n2 rfl (by decide)
    rw [p3, obn_at]
    have q3 : σ3.2 = (σ.2.1 + 1, σ.2.2.1 + 1, σ.2.2.2 + 21) := by rw [z3, z2, z1]
    refine ⟨σ3, D, at' + 1, am, bd, nf, ff, nm, σ.2.1, _, rfl, v3, by rw [eA]; exact o2, (((r1.fe σ.2.1).tr (r2.fe _)).tr f3).fr (Nat.le_refl _), ⟨Nat.le_refl _, n3⟩, ?_, fun a j hF => ?_⟩
    · rw [eA]
      unfold cEx
      have w1 : σ3.2.2.1 = σ.2.2.1 + 1 := by rw [q3]
      have w2 : σ3.2.2.2 = σ.2.2.2 + 21 := by rw [q3]
      have S : svP (.inr (tN 35 at' w 0 s0 s0 tZ, at' + 1) : aR (tT → tT)) = 160 := rfl
      rw [S, show fl (.inr at') = 0 from rfl, show fl (aR.st (.inr (tN 35 at' w 0 s0 s0 tZ, at' + 1) : aR (tT → tT))) = 0 from rfl]
      omega
    · rw [eA] at hF
      injection hF with hF
      injection hF with hF1 hF2
      subst hF1
      subst hF2
      refine ⟨Or.inr (Or.inr ⟨_, rfl⟩), ⟨σ.2.1, rfl, ⟨⟨Nat.le_refl _, alt v3.1.1.1 n3, cMu.no v3 n3 (by omega)⟩, ?_⟩, rfl⟩, ?_, fun _ _ => rfl, rfl, rfl, fun _ _ => rfl⟩
      · rw [n3, hq.1.1, hk]
        rcases hkw with ⟨rfl, rfl⟩ | ⟨rfl, rfl⟩ <;> rfl
      · exact (Q3 _ _ _ ((q1.kf v1 r2).le (Nat.le_succ _)))
  by_cases ct : aIs kk 223 at' = true
  · rw [if_pos (show kk at' = 223 from of_decide_eq_true ct)]
    exact TF 223 1 (of_decide_eq_true ct) (Or.inl ⟨rfl, rfl⟩) (by unfold aA1; rw [if_pos ct])
  rw [if_neg (show ¬ kk at' = 223 from fun z => ct (decide_eq_true z)), oob_at v1.2.1, obn_at, c_kind (n := m) v1 ho (by omega), oin_at, cko]
  by_cases cf : aIs kk 205 at' = true
  · rw [if_pos (show kk at' = 205 from of_decide_eq_true cf)]
    exact TF 205 0 (of_decide_eq_true cf) (Or.inr ⟨rfl, rfl⟩) (by unfold aA1; rw [if_neg ct, if_pos cf])
  rw [if_neg (show ¬ kk at' = 205 from fun z => cf (decide_eq_true z)), oob_at v1.2.1, obn_at, c_kind (n := m) v1 ho (by omega), oin_at, cko]
  by_cases cp : aIs kk 40 at' = true
  · rw [if_pos (show kk at' = 40 from of_decide_eq_true cp), oob_at v1.2.1, obn_at]
    obtain ⟨σ2, a2, v2, o2, r2, z2, k2⟩ := w_next (κ := κ) (T := T) (n := m) v1 ho hi (by omega)
    have ck2 : cK kk (.inr (at' + 1)) = kk (at' + 1) := rfl
    rw [a2, ocv_at, oob_at v2.2.1, obn_at, c_kind (n := m) v2 o2 (by omega), oin_at, ck2]
    have q2 : cQn pp ee f σ2 D nm ν cd nf (at' + 1) := (q1.kf v1 r2).le (Nat.le_succ _)
    have R02 : cFr A σ D σ2 D := r1.tr r2
    have z21 : σ2.2.1 = σ.2.1 + 1 := by rw [z2, z1]
    have z22 : σ2.2.2.1 = σ.2.2.1 + 1 := by rw [z2, z1]
    have z23 : σ2.2.2.2 = σ.2.2.2 + 21 := by rw [z2, z1]
    by_cases cf2 : aIs kk 206 (at' + 1) = true
    · -- a function
      have eA : aA1 kk T G at' = (G (at' + 1)).on fun e j => (aMs kk 41 j).on fun _ j' => .inr (tN 34 at' 0 0 s0 s0 e, j') := by
        unfold aA1; rw [if_neg ct, if_neg cf, if_pos cp, if_pos cf2]
      rw [if_pos (show kk (at' + 1) = 206 from of_decide_eq_true cf2), oob_at v2.2.1, obn_at, show nI dp + 1 = nI (dp + 1) by rw [nI_1]]
      obtain ⟨σ3, D3, at3, am3, bd3, nf3, ff3, nm3, x, fx, y1, v3, o3, r3, ⟨y2, y3, y3b⟩, y4, y5⟩ := HE σ2 D (at' + 1) cd cn am bd nf ff (.inr (at' + 1)) nm ν v2 o2 (by omega) (fun i hi => by cases hi; exact q2)
      rw [y1, orn_at]
      unfold oj_X7_argument_109
      obtain ⟨σ4, at4, bd4, x1, v4, o4, r4, z4, k4, x5⟩ := c_expL (κ := κ) (T := T) (k := 41) (n := m) v3 o3 (by decide) (by decide) (by omega)
      have x1' : oF κ T m 108 [va_rf (some (A 0)), .int 41] σ3 = some (none, σ4) := x1
      rw [oob_at v3.2.1, obn_at, x1', ocv_at]
      unfold oj_X7_argument_115
      have e4 := v3.kd r4 y3 (by omega)
      have g4 := fl_ms o4 (fun i hi => (o3.at hi).1) x5
      obtain ⟨σ5, p5, v5, e5, f5, z5, k5, Q5⟩ := w_put (k := 3) (v := .int (pp at')) v4 e4 y3b (by decide)
      rw [p5, obn_at]
      have st : (aA1 kk T G at').st = aTo (aTo (.inr (at' + 1)) G) (aMs kk 41) := by
        rw [eA]; simp only [aTo]
        cases G (at' + 1) with
        | inl k => rfl
        | inr p =>
          obtain ⟨t, i1⟩ := p
          simp only [aR.on, aR.st]
          cases aMs kk 41 i1 with
          | inl k => rfl
          | inr p => rfl
      have F25 : cFe A x σ2 D σ5 D3 := ((r3.tr r4).fe x).tr f5
      refine ⟨σ5, D3, at4, am3, bd4, nf3, ff3, nm3, x, _, rfl, v5, by rw [st]; exact o4, R02.tr (F25.fr y2), ⟨by omega, e5⟩, ?_, fun a j hF => ?_⟩
      · have S : svP (aA1 kk T G at') + 450 * fl (aA1 kk T G at').st ≤ 450 + svA (.inr (at' + 1)) G := by rw [eA]; exact sv_a34 kk G at'
        rw [st] at S ⊢
        have t4 := y4
        unfold cEx at t4 ⊢
        have n2 := fl_to (aTo (.inr (at' + 1)) G) (aMs kk 41)
        have n3 := fl_le (aTo (aTo (.inr (at' + 1)) G) (aMs kk 41))
        rw [show fl (.inr at') = 0 from rfl]
        rw [show fl (.inr (at' + 1)) = 0 from rfl] at t4
        have w1 : σ5.2.2 = σ3.2.2 := by rw [z5, z4]
        rw [w1]
        omega
      · rw [eA] at hF
        obtain ⟨t, i3, h1, hF⟩ := on_inr hF
        obtain ⟨_, i4, h2, hF⟩ := on_inr hF
        injection hF with hF
        injection hF with hF1 hF2
        subst hF1
        subst hF2
        obtain ⟨ta, rfl⟩ := hG3 _ _ _ cf2 h1
        obtain ⟨t1, t2, t3, t4, t5, t6⟩ := y5 (at' + 1) _ i3 rfl h1
        have je := (aMs_inr h2).2
        obtain ⟨c1, x', q', mk, c2, c3, c4, c5⟩ := t1
        have K34 : cKp κ A D3 (x + 1) σ3 D3 (x + 1) σ5 := (cKp.fr v3 r4 (Nat.le_refl _) v4.low).tr (cKp.fe v4 f5 e4 e5 (by omega) (Nat.le_refl _) v5.low)
        rw [y3] at c2
        injection c2 with c2; injection c2 with c2; injection c2 with _ c2
        subst c2
        refine ⟨Or.inr (Or.inl ⟨_, _, rfl⟩), ⟨x, _, rfl, ⟨⟨by omega, alt v5.1.1.1 e5, cMu.no v5 e5 (by omega)⟩, e5, rfl⟩, ⟨⟨by omega, alt v5.1.1.1 e5, cMu.no v5 e5 (by omega)⟩, x', q', pp at', e5, c3, c4.kp K34 (fun _ _ => rfl), ?_⟩, rfl⟩, ?_, fun u hu => t3 u (by omega), t4, ?_, t6⟩
        · exact cTr.kp K34 (P := fun _ => True) (fun _ _ => rfl) _ _ _ _ _ _ (fun _ _ => trivial) (fun _ _ => trivial) (fun _ _ => rfl) c5
        · exact (Q5 _ _ _ ((t2.le (by omega)).kf v3 r4))
        · rw [t5, show nF (tN 34 at' 0 0 s0 s0 (tN 3 (at' + 1) 0 0 s0 s0 ta tZ) tZ) = 0 + nF (tN 3 (at' + 1) 0 0 s0 s0 ta tZ) + 0 from rfl]; omega
    · -- an S
      have eA : aA1 kk T G at' = (aSm kk T (at' + 1)).on fun s j => (aMs kk 41 j).on fun _ j' => .inr (tN 33 at' 1 0 s s0 tZ, j') := by
        unfold aA1; rw [if_neg ct, if_neg cf, if_pos cp, if_neg cf2]
      rw [if_neg (show ¬ kk (at' + 1) = 206 from fun z => cf2 (decide_eq_true z)), oob_at v2.2.1, obn_at]
      obtain ⟨σ3, at3, bd3, nf3, fs3, su, na, ta, cap, L, pl, b1, v3, o3, r3, ⟨b2, b3, b4, b4b⟩, ⟨b5, b6, b7, b8, b9⟩, ⟨b10, b11⟩, ⟨b12, b13⟩, b14⟩ := c_sumQ (κ := κ) (T := T) (m := m) (nm := nm) (ν := ν) v2 o2 (fun i hi => by cases hi; exact q2) (by omega) hT hwl
      rw [b1, orn_at]
      obtain ⟨σ4, p4, v4, e4, f4, z4, k4, Q4⟩ := w_put (k := 6) (v := .int 0) v3 b2 b3 (by decide)
      have nS : su ≠ σ2.2.1 ∧ na ≠ σ2.2.1 ∧ ta ≠ σ2.2.1 := by
        obtain ⟨_, _, w1, w2, w3, -⟩ := b5
        exact ⟨fun z => (by rw [z, b2] at w1; cases w1), fun z => (by rw [z, b2] at w2; cases w2), fun z => (by rw [z, b2] at w3; cases w3)⟩
      have S4 : cSm σ4 su na ta cap L pl := b5.keep (fun a ha => k4 a (by rcases ha with z | z | z <;> rw [z]; exact nS.1; exact nS.2.1; exact nS.2.2)) (fun a gs ea => ⟨gs, (k4 a (fun z => by rw [z, b2] at ea; cases ea)).trans ea⟩)
      have f19 : ofd σ4 (some σ2.2.1) 7 19 = some (.ref su) := by rw [ofd_at e4, List.getElem?_set_ne (by decide)]; exact b4
      have w11 : ∃ gs, σ4.1 su = some (.inr (11, gs)) := by obtain ⟨_, _, w, -⟩ := S4; exact ⟨_, w⟩
      obtain ⟨gs11, w11⟩ := w11
      obtain ⟨m1, hm1⟩ : ∃ m1, m = m1 + 1 := ⟨m - 1, by omega⟩
      have XT := x_term (κ := κ) (T := T) (n := m1) S4
      rw [← hm1] at XT
      rw [p4, obn_at, f19, ovr_rf, obn_at, oob_at w11, obn_at, XT, oin_at]
      have st : (aA1 kk T G at').st = aTo (aTo (.inr (at' + 1)) (aSm kk T)) (aMs kk 41) := by
        rw [eA]; simp only [aTo]
        cases aSm kk T (at' + 1) with
        | inl k => rfl
        | inr p =>
          obtain ⟨t, i1⟩ := p
          simp only [aR.on, aR.st]
          cases aMs kk 41 i1 with
          | inl k => rfl
          | inr p => rfl
      -- behind the form
      have FIN : ∀ (σ5 : oSt) (ff5 : Int32), cV κ sz len cnt kk pp ee f A nq ni rt σ5 D at3 cd cn am bd3 nf3 ff5 → cFr A σ4 D σ5 D → σ5.2 = σ4.2 → (∀ a, a ≠ A 0 → σ5.1 a = σ4.1 a) → ff5 = (if sTe L = true then ff else fMin ff (pp at')) → ∃ σ' D' at2 am2 bd2 nf2 ff2 nm' x fs, oj_X7_argument_109 T (oF κ T m) κ (some (A 0)) (pp at') (some σ2.2.1) σ5 = some (some (va_rf (some x)), σ') ∧ cV κ sz len cnt kk pp ee f A nq ni rt σ' D' at2 cd cn am2 bd2 nf2 ff2 ∧ cO pp cnt at2 bd2 (aA1 kk T G at').st ∧ cFr A σ D σ' D' ∧ (σ.2.1 ≤ x ∧ σ'.1 x = some (.inr (7, fs))) ∧ cEx 0 0 (svP (aA1 kk T G at')) σ D at' (.inr at') σ' D' at2 (aA1 kk T G at').st ∧ (∀ a j, aA1 kk T G at' = .inr (a, j) → cPa κ T kk pp ee f A σ.2.1 D cd cn ff nm ν σ' D' nf2 ff2 nm' x at' a j) := fun σ5 ff5 v5 r5 z5 k5 hff => by
        unfold oj_X7_argument_109
        have e5 := v4.kd r5 e4 (by omega)
        obtain ⟨σ6, at6, bd6, x1, v6, o6, r6, z6, k6, x5⟩ := c_expect (κ := κ) (T := T) (k := 41) (n := m) v5 o3 (by decide) (by omega)
        have x1' : oF κ T m 108 [va_rf (some (A 0)), .int 41] σ5 = some (none, σ6) := x1
        rw [oob_at v5.2.1, obn_at, x1', ocv_at]
        unfold oj_X7_argument_115
        have e6 := v5.kd r6 e5 (by omega)
        have g6 := fl_ms o6 (fun i hi => (o3.at hi).1) x5
        obtain ⟨σ7, p7, v7, e7, f7, z7, k7, Q7⟩ := w_put (k := 3) (v := .int (pp at')) v6 e6 (by rw [List.length_set]; exact b3) (by decide)
        rw [p7, obn_at]
        have F37 : cFe A σ2.2.1 σ3 D σ7 D := (f4.tr ((r5.tr r6).fe _)).tr f7
        refine ⟨σ7, D, at6, am, bd6, nf3, ff5, nm, σ2.2.1, _, rfl, v7, by rw [st]; exact o6, R02.tr (((r3.fe _).tr F37).fr (Nat.le_refl _)), ⟨by omega, e7⟩, ?_, fun a j hF => ?_⟩
        · have S : svP (aA1 kk T G at') + 551 * fl (aA1 kk T G at').st ≤ 551 := by rw [eA]; exact sv_a33 kk T at'
          rw [st] at S
          rw [st]
          unfold cEx
          have n2 := fl_to (aTo (.inr (at' + 1)) (aSm kk T)) (aMs kk 41)
          have n3 := fl_le (aTo (aTo (.inr (at' + 1)) (aSm kk T)) (aMs kk 41))
          rw [show fl (.inr at') = 0 from rfl]
          have w1 : σ7.2.2 = σ3.2.2 := by rw [z7, z6, z5, z4]
          rw [w1]
          omega
        · rw [eA] at hF
          obtain ⟨S, i3, h1, hF⟩ := on_inr hF
          obtain ⟨_, i4, h2, hF⟩ := on_inr hF
          injection hF with hF
          injection hF with hF1 hF2
          subst hF1
          subst hF2
          obtain ⟨B1, B2, B3, B4⟩ := b14 (at' + 1) S i3 rfl h1
          have je := (aMs_inr h2).2
          obtain ⟨pa, hfs, PUT⟩ := B3.put (σ' := σ7) (mk' := pp at') (al' := 0) b2
          have z73 : σ7.2.1 = σ3.2.1 := by rw [z7, z6, z5, z4]
          have K37 : cKp κ A D σ2.2.1 σ3 D σ2.2.1 σ3 := ⟨fun a w => ⟨rfl, w⟩, fun a gs ea => ⟨gs, ea⟩, fun a gs ea => ⟨gs, ea⟩, v3.low⟩
          -- cells but the S's own node are as they were
          obtain ⟨pa', na', ta', cap', pc', s1, ⟨dd, mc, gg, s2, s3, s4⟩, s5, t1, t2, t3, t4, t5⟩ := B3
          rw [b2] at s1
          injection s1 with s1; injection s1 with s1; injection s1 with _ s1
          have KK : ∀ a, cOk A D σ2.2.1 σ3 a → a ≠ σ2.2.1 → σ7.1 a = σ3.1 a ∧ cOk A D σ.2.1 σ7 a := fun a w hne => ⟨F37.2.1 a w.2.1 w.2.2 hne, by have := w.1; omega, by rw [z73]; exact w.2.1, w.2.2⟩
          have npa : pa' ≠ σ2.2.1 := fun z => by have w := s2.1; rw [z, b2] at w; cases w
          have nd : dd ≠ σ2.2.1 := fun z => by
            rcases s2.2.1 with ⟨-, -, -, w⟩ | ⟨w, -⟩
            · rw [z, b2] at w; cases w
            · rw [z, b2] at w; cases w
          have nT' : su ≠ σ2.2.1 ∧ na' ≠ σ2.2.1 ∧ ta' ≠ σ2.2.1 := by
            obtain ⟨_, _, w1, w2, w3, -⟩ := s5
            exact ⟨fun z => (by rw [z, b2] at w1; cases w1), fun z => (by rw [z, b2] at w2; cases w2), fun z => (by rw [z, b2] at w3; cases w3)⟩
          have K7 : ∀ a gs, σ3.1 a = some (.inr (7, gs)) → ∃ gs', σ7.1 a = some (.inr (7, gs')) := fun a gs ea => by
            by_cases z : a = σ2.2.1
            · rw [z]; exact ⟨_, e7⟩
            · exact ⟨gs, (F37.2.1 a (alt v3.1.1.1 ea) (cMu.no v3 ea (by omega)) z).trans ea⟩
          have K6 : ∀ a gs, σ3.1 a = some (.inr (6, gs)) → ∃ gs', σ7.1 a = some (.inr (6, gs')) := fun a gs ea => ⟨gs, (F37.2.1 a (alt v3.1.1.1 ea) (cMu.no v3 ea (by omega)) (fun z => by rw [z, b2] at ea; cases ea)).trans ea⟩
          have hd7 : σ7.1 dd = σ3.1 dd ∧ (cOk A D σ.2.1 σ7 dd ∨ (dd = κ.2.2.1 ∧ σ7.1 dd = none)) := by
            rcases s4 with y | ⟨y, y'⟩
            · exact ⟨(KK dd y nd).1, Or.inl (KK dd y nd).2⟩
            · have : σ7.1 dd = none := by rw [y]; exact v7.low
              exact ⟨by rw [this, y'], Or.inr ⟨y, this⟩⟩
          have SQ : cSq κ T pp ee f A D σ.2.1 σ7 σ2.2.1 (pp at') cd (nRes f pp ee nm ν) S 0 su := by
            refine ⟨pa', na', ta', cap', pc', ?_, ⟨dd, mc, gg, s2.keep (KK pa' t2 npa).1 hd7.1 K7, fun k p hk => ?_, hd7.2⟩, s5.keep (fun a ha => ?_) K6, ⟨by omega, alt v7.1.1.1 e7, cMu.no v7 e7 (by omega)⟩, (KK _ t2 npa).2, (KK _ t3 nT'.1).2, (KK _ t4 nT'.2.1).2, (KK _ t5 nT'.2.2).2⟩
            · rw [e7, s1]; rfl
            · obtain ⟨a, u1, u2, u3, u4⟩ := s3 k p hk
              exact ⟨a, u1, u2, (KK a u3 u2).2, (KK a u3 u2).1.trans u4⟩
            · rcases ha with z | z | z
              · rw [z]; exact (KK _ t3 nT'.1).1
              · rw [z]; exact (KK _ t4 nT'.2.1).1
              · rw [z]; exact (KK _ t5 nT'.2.2).1
          refine ⟨Or.inl ⟨_, rfl⟩, ⟨σ2.2.1, su, rfl, ?_, rfl⟩, ?_, fun _ _ => rfl, ?_, rfl, fun _ _ => rfl⟩
          · rw [hq.1.1]; exact SQ
          · have Q := Q7 _ _ _ ((((Q4 _ _ _ B4).kf v4 r5).kf v5 r6).le (show i3 ≤ i4 by omega))
            exact Q
          · rw [hff, B1, hq.te]
            show _ = if (1 : Nat) = 1 ∧ ¬ sTe (sL (nFind f pp ee ν.1) S.2) = true then fMin ff (pp at') else ff
            by_cases c : sTe (sL (nFind f pp ee ν.1) S.2) = true
            · rw [if_pos c, if_neg (fun z => z.2 c)]
            · rw [if_neg c, if_pos ⟨rfl, c⟩]
      by_cases c : sTe L = true
      · rw [if_pos c, if_neg (by decide)]
        exact FIN σ4 ff v4 (cFr.rf _ _ _) rfl (fun _ _ => rfl) (by rw [if_pos c])
      · rw [if_neg c, if_pos rfl]
        obtain ⟨σ5, x1, x2, x3, x4, x5⟩ := c_blame (κ := κ) (T := T) (n := m1) (x := pp at') v4
        rw [← hm1] at x1
        rw [oob_at v4.2.1, obn_at, x1, ocv_at]
        exact FIN σ5 _ x2 x3 x4 x5 (by rw [if_neg c])
  · -- one PART
    have h12 : aIs kk 1 at' = true ∨ aIs kk 2 at' = true := by
      unfold aAr at ha
      simp only [Bool.or_eq_true] at ha
      rcases ha with (((y | y) | y) | y) | y
      · exact Or.inl y
      · exact Or.inr y
      · exact absurd y cp
      · exact absurd y ct
      · exact absurd y cf
    have eA : aA1 kk T G at' = .inr (tN 33 at' 0 0 (at', [(if aIs kk 2 at' = true then 0 else 1, false, at')]) s0 tZ, at' + 1) := by
      unfold aA1; rw [if_neg ct, if_neg cf, if_neg cp]
    rw [if_neg (show ¬ kk at' = 40 from fun z => cp (decide_eq_true z)), oob_at v1.2.1, obn_at]
    obtain ⟨σ2, bd2, nf2, fs2, su, b1, v2, o2, r2, ⟨b2, b3⟩, ⟨b4, b5⟩, b6, b7⟩ := c_sum1Q (κ := κ) (T := T) (m := m) (nm := nm) (ν := ν) v1 ho q1 h12 (by omega) hT hwl
    rw [b1, orn_at]
    unfold oj_X7_argument_115
    obtain ⟨σ3, p3, v3, e3, f3, z3, k3, Q3⟩ := w_put (k := 3) (v := .int (pp at')) v2 b2 b3 (by decide)
    rw [p3, obn_at]
    refine ⟨σ3, D, at' + 1, am, bd2, nf2, ff, nm, σ1.2.1, _, rfl, v3, by rw [eA]; exact o2, r1.tr (((r2.fe _).tr f3).fr (Nat.le_refl _)), ⟨by omega, e3⟩, ?_, fun a j hF => ?_⟩
    · rw [eA]
      unfold cEx
      have w1 : σ3.2.2 = σ2.2.2 := by rw [z3]
      have S : svP (.inr (tN 33 at' 0 0 (at', [(if aIs kk 2 at' = true then 0 else 1, false, at')]) s0 tZ, at' + 1) : aR (tT → tT)) = 132 := rfl
      rw [S, w1, show fl (.inr at') = 0 from rfl, show fl (aR.st (.inr (tN 33 at' 0 0 (at', [(if aIs kk 2 at' = true then 0 else 1, false, at')]) s0 tZ, at' + 1) : aR (tT → tT))) = 0 from rfl]
      omega
    · rw [eA] at hF
      injection hF with hF
      injection hF with hF1 hF2
      subst hF1
      subst hF2
      obtain ⟨pa, hfs, PUT⟩ := b6.put (σ' := σ3) (mk' := pp at') (al' := tAl kk (at', [(if aIs kk 2 at' = true then 0 else 1, false, at')])) b2
      have SQ := PUT (by rw [e3, hfs]; rfl) k3 z3
      refine ⟨Or.inl ⟨_, rfl⟩, ⟨σ1.2.1, su, rfl, ?_, rfl⟩, ?_, fun _ _ => rfl, ?_, rfl, fun _ _ => rfl⟩
      · rw [hq.1.1]
        have KL : cKp κ A D σ1.2.1 σ3 D σ.2.1 σ3 := ⟨fun a w => ⟨rfl, by have := w.1; omega, w.2⟩, fun a gs ea => ⟨gs, ea⟩, fun a gs ea => ⟨gs, ea⟩, v3.low⟩
        exact SQ.kp KL
      · exact Q3 _ _ _ b7
      · show ff = if (0 : Nat) = 1 ∧ ¬ sTe (sL (nFind f pp ee ν.1) [(if aIs kk 2 at' = true then 0 else 1, false, at')]) = true then fMin ff (pp at') else ff
        rw [if_neg (fun z => absurd z.1 (by decide))]
end CRE
