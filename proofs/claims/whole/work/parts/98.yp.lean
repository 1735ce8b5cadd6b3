/-! the reference reads its QUALS, its INPUTS -/
theorem st2 {α β γ : Type} (r : aR α) (F : Nat → aR β) (c : γ) : (r.on fun _ j3 => (F j3).on fun _ j4 => (Sum.inr (c, j4) : aR γ)).st = aTo r.st F := on_st (H := fun s => aTo s F) (fun _ => rfl) (fun _ _ => on_st (H := fun s => s) (fun _ => rfl) (fun _ _ => rfl))
theorem st1 {α γ : Type} (r : aR α) (c : γ) : (r.on fun _ j4 => (Sum.inr (c, j4) : aR γ)).st = r.st := on_st (H := fun s => s) (fun _ => rfl) (fun _ _ => rfl)
theorem QST (kk : Nat → Int32) (g g' r j : Nat) : (aQt kk g r j).st = (aQt kk g' r j).st := by
  unfold aQt
  simp only [aR.on.eq_2]
  generalize (if aIs kk 45 j = true then j + 1 else j) = j1
  by_cases c : aIs kk 42 j1 = true
  · rw [if_pos c, if_pos c]
    by_cases c2 : (aIs kk 45 (j1 + 1) || aIs kk 43 (j1 + 1)) = true
    · rw [if_pos c2, if_pos c2, st2, st2]
    · rw [if_neg c2, if_neg c2, st1, st1]
  · rw [if_neg c, if_neg c, st2, st2]
section RQW
variable {κ : oKv} {ks : Nat → Nat} {qs : List Nat} {T m h0 len cnt sz d N S P A C z i k zc n q : Nat} {τ τ0 : zSt} {s : Sum Nat Nat} {kk pp ee f : Nat → Int32}
theorem rR.pb {j : Nat} (h : rR T len cnt kk pp ee f d τ N S P A 0 (.inl j)) : pB pp τ j := by
  obtain ⟨w, w1, w2⟩ := h.wd
  have := h.1.cn
  exact ⟨h.2.2.1, h.2.2.2.1, w, by omega, w2, h.2.1.2.2.2.2.2⟩
/-- one of three words, as the reference takes it -/
theorem q_base3 {a b c : Nat} {ka kb kc : Nat} {ta tb tc : String} (hf : lFacts κ ks sz) (hT : 2010 ≤ T) (hm : 2 ≤ m) (pa : (ka, ta, a) ∈ zKp) (pb' : (kb, tb, b) ∈ zKp) (pc : (kc, tc, c) ∈ zKp) (h : rR T len cnt kk pp ee f d τ N S P A C s) (K1 K2 : zSt → zRs) : ∃ τ', (zci (zF h0 qs ks T m 11 [.ref h0, .ref (ks ka)] τ) fun r6 s4 => if r6 = 0 then zci (zF h0 qs ks T m 11 [.ref h0, .ref (ks kb)] s4) fun r10 s8 => if r10 = 0 then zci (zF h0 qs ks T m 11 [.ref h0, .ref (ks kc)] s8) fun r14 s12 => if r14 = 0 then zcv (zF h0 qs ks T m 13 [.ref h0] s12) K2 else zlet (zI s12 10 (s12.1 10 + 1)) K2 else zlet (zI s8 10 (s8.1 10 + 1)) K2 else zlet (zI s4 10 (s4.1 10 + 1)) K2) = K2 τ' ∧ rR T len cnt kk pp ee f d τ' N S P A C (aTo s (aBs kk a b c)) ∧ rAg N S P A C τ τ' := by
  obtain ⟨b1, g1, q1⟩ := q_here (h0 := h0) (qs := qs) (ks := ks) (m := m) hf hT h pa hm
  obtain ⟨b2, g2, q2⟩ := q_here (h0 := h0) (qs := qs) (ks := ks) (m := m) hf hT h pb' hm
  obtain ⟨b3, g3, q3⟩ := q_here (h0 := h0) (qs := qs) (ks := ks) (m := m) hf hT h pc hm
  have e1 : zF h0 qs ks T m 11 [.ref h0, .ref (ks ka)] τ = some (some (.int (b01 b1)), τ) := g1
  have e2 : zF h0 qs ks T m 11 [.ref h0, .ref (ks kb)] τ = some (some (.int (b01 b2)), τ) := g2
  have e3 : zF h0 qs ks T m 11 [.ref h0, .ref (ks kc)] τ = some (some (.int (b01 b3)), τ) := g3
  have W : ∀ (x i : Nat), s = .inr i → aIs kk x i = true → 0 < x ∧ x < 400 → (aTo s (aBs kk a b c) = .inr (i + 1)) → ∃ τ', zlet (zI τ 10 (τ.1 10 + 1)) K2 = K2 τ' ∧ rR T len cnt kk pp ee f d τ' N S P A C (aTo s (aBs kk a b c)) ∧ rAg N S P A C τ τ' := fun x i es hx hx2 ea => by
    subst es
    have w10 : τ.1 10 = nI i := h.2.2.2.1
    rw [zlet_at, w10, show nI i + 1 = nI (i + 1) by rw [nI_1], ea]
    obtain ⟨k1, k2⟩ := h.nx (h.1.lt h.2.2.2.2 hx2 hx)
    exact ⟨_, rfl, k1, k2⟩
  have P1 := of_decide_eq_true (List.all_eq_true.mp zKp_pos _ pa)
  have P2 := of_decide_eq_true (List.all_eq_true.mp zKp_pos _ pb')
  have P3 := of_decide_eq_true (List.all_eq_true.mp zKp_pos _ pc)
  rw [e1, zci_at]
  cases b1 with
  | true =>
    rw [if_neg (show ¬ b01 true = 0 by decide)]
    cases s with
    | inl j => cases q1
    | inr i =>
      have c1 : aIs kk a i = true := q1.symm
      exact W a i rfl c1 P1 (by rw [aTo_ok]; unfold aBs; rw [if_pos c1]; rfl)
  | false =>
    rw [if_pos (show b01 false = 0 from rfl), e2, zci_at]
    cases b2 with
    | true =>
      rw [if_neg (show ¬ b01 true = 0 by decide)]
      cases s with
      | inl j => cases q2
      | inr i =>
        have c1 : ¬ aIs kk a i = true := fun e => by have q1' : false = aIs kk a i := q1; rw [← q1'] at e; cases e
        have c2 : aIs kk b i = true := q2.symm
        exact W b i rfl c2 P2 (by rw [aTo_ok]; unfold aBs; rw [if_neg c1, if_pos c2]; rfl)
    | false =>
      rw [if_pos (show b01 false = 0 from rfl), e3, zci_at]
      cases b3 with
      | true =>
        rw [if_neg (show ¬ b01 true = 0 by decide)]
        cases s with
        | inl j => cases q3
        | inr i =>
          have c1 : ¬ aIs kk a i = true := fun e => by have q1' : false = aIs kk a i := q1; rw [← q1'] at e; cases e
          have c2 : ¬ aIs kk b i = true := fun e => by have q1' : false = aIs kk b i := q2; rw [← q1'] at e; cases e
          have c3 : aIs kk c i = true := q3.symm
          exact W c i rfl c3 P3 (by rw [aTo_ok]; unfold aBs; rw [if_neg c1, if_neg c2, if_pos c3]; rfl)
      | false =>
        rw [if_pos (show b01 false = 0 from rfl)]
        obtain ⟨τ1, f1, f2, f3⟩ := q_form (h0 := h0) (qs := qs) (ks := ks) (m := m) h hm
        rw [f1, zcv_at]
        refine ⟨τ1, rfl, ?_, f3⟩
        cases s with
        | inl j => exact f2
        | inr i =>
          have c1 : ¬ aIs kk a i = true := fun e => by have q1' : false = aIs kk a i := q1; rw [← q1'] at e; cases e
          have c2 : ¬ aIs kk b i = true := fun e => by have q1' : false = aIs kk b i := q2; rw [← q1'] at e; cases e
          have c3 : ¬ aIs kk c i = true := fun e => by have q1' : false = aIs kk c i := q3; rw [← q1'] at e; cases e
          rw [aTo_ok]
          unfold aBs
          rw [if_neg c1, if_neg c2, if_neg c3]
          exact f2
set_option maxHeartbeats 1000000 in
/-- one QUAL -/
theorem q_qual (hf : lFacts κ ks sz) (hT : 2010 ≤ T) (hm : 5 ≤ m) (k35 : zSt → zRs) (hq : q < 6) (h39 : τ.1 39 = nI q) (h : rR T len cnt kk pp ee f 0 τ 0 0 0 0 0 (.inr i)) (c0 : aIs kk 218 i = true) : ∃ τ', j_program_58 T (zF h0 qs ks T m) h0 qs ks k35 τ = k35 τ' ∧ τ'.1 39 = nI (q + 1) ∧ rQf q τ τ' ∧ (∀ x j, aQl kk i = .inr (x, j) → i < j ∧ rR T len cnt kk pp ee f 0 τ' 0 0 0 0 0 (.inr j) ∧ qR T f pp ee τ' q x) ∧ (∀ j, aQl kk i = .inl j → pB pp τ' j) := by
  have hcn := h.1.cn
  have hi := h.2.2.2.2
  have hlt := h.1.lt hi (by decide) c0
  have z6 := zin_n hq (show 6 < 2 ^ 31 by decide)
  have cq : (nI q).toNatClampNeg = q := nI_clamp (by omega)
  have w10 : τ.1 10 = nI i := h.2.2.2.1
  obtain ⟨k1, k2⟩ := h.nx hlt
  unfold j_program_58
  rw [if_pos h.2.2.1, zlet_at, w10, show nI i + 1 = nI (i + 1) by rw [nI_1]]
  have d0 : (zI τ 10 (nI (i + 1))).1 39 = nI q := h39
  generalize zI τ 10 (nI (i + 1)) = τ1 at k1 k2 d0 ⊢
  obtain ⟨b1, g1, q1⟩ := q_here (h0 := h0) (qs := qs) (ks := ks) (m := m) hf hT k1 (show (489, "array", 200) ∈ zKp by decide) (by omega)
  obtain ⟨b2, g2, q2⟩ := q_here (h0 := h0) (qs := qs) (ks := ks) (m := m) hf hT k1 (show (491, "list", 213) ∈ zKp by decide) (by omega)
  have q1' : b1 = aIs kk 200 (i + 1) := q1
  have q2' : b2 = aIs kk 213 (i + 1) := q2
  -- the base
  have e0 : (zci (zF h0 qs ks T m 11 [.ref h0, .ref (ks 489)] τ1) fun r6 s4 => if r6 = 0 then zci (zF h0 qs ks T m 11 [.ref h0, .ref (ks 491)] s4) fun r10 s8 => if r10 = 0 then j_program_113 T (zF h0 qs ks T m) h0 qs ks k35 (τ1.1 39) 0 s8 else j_program_113 T (zF h0 qs ks T m) h0 qs ks k35 (τ1.1 39) 2 s8 else j_program_113 T (zF h0 qs ks T m) h0 qs ks k35 (τ1.1 39) 1 s4) = j_program_113 T (zF h0 qs ks T m) h0 qs ks k35 (nI q) (nI (if aIs kk 200 (i + 1) = true then 1 else if aIs kk 213 (i + 1) = true then 2 else 0)) τ1 := by
    have g1' : zF h0 qs ks T m 11 [.ref h0, .ref (ks 489)] τ1 = some (some (.int (b01 b1)), τ1) := g1
    have g2' : zF h0 qs ks T m 11 [.ref h0, .ref (ks 491)] τ1 = some (some (.int (b01 b2)), τ1) := g2
    rw [g1', zci_at, g2', zci_at, d0, ← q1', ← q2']
    cases b1 <;> cases b2 <;> rfl
  rw [e0]
  generalize hgv : (if aIs kk 200 (i + 1) = true then 1 else if aIs kk 213 (i + 1) = true then 2 else 0) = gv
  unfold j_program_113
  rw [zgd_at z6, zlet_at, cq]
  have h2 := k1.a (upd (τ1.2.2.1 22) q (nI gv)) (show 6 ≤ 22 by omega)
  have g2 : rQf q τ (zA τ1 22 (upd (τ1.2.2.1 22) q (nI gv))) := (k2.qf q).a (by omega) (by omega)
  have d2 : (zA τ1 22 (upd (τ1.2.2.1 22) q (nI gv))).1 39 = nI q := d0
  have r2 : (zA τ1 22 (upd (τ1.2.2.1 22) q (nI gv))).2.2.1 22 q = nI gv := by rw [zAe, upd_at]
  generalize zA τ1 22 (upd (τ1.2.2.1 22) q (nI gv)) = τ2 at h2 g2 d2 r2 ⊢
  unfold j_program_144
  obtain ⟨τ3, e1, h3, a3⟩ := q_base3 (h0 := h0) (qs := qs) (ks := ks) (m := m) (a := 210) (b := 200) (c := 213) (ka := 493) (kb := 489) (kc := 491) (ta := "int") (tb := "array") (tc := "list") hf hT (by omega) (by decide) (by decide) (by decide) h2 (j_program_161 T (zF h0 qs ks T m) h0 qs ks k35) (j_program_161 T (zF h0 qs ks T m) h0 qs ks k35)
  rw [e1]
  unfold j_program_161
  obtain ⟨τ4, f4, h4, a4⟩ := q_must (h0 := h0) (qs := qs) (ks := ks) (m := m) hf hT h3 (show (495, ":", 58) ∈ zKp by decide) (by omega)
  rw [f4, zcv_at]
  obtain ⟨τ5, f5, h5, a5⟩ := q_must (h0 := h0) (qs := qs) (ks := ks) (m := m) hf hT h4 (show (501, "v", 224) ∈ zKp by decide) (by omega)
  rw [f5, zcv_at, q_rel (h0 := h0) (qs := qs) (ks := ks) (m := m) hf hT h5 (by omega), zci_at]
  have a35 := (a3.tr a4 (Nat.le_refl _) (Nat.le_refl _) (Nat.le_refl _) (Nat.le_refl _) (Nat.le_refl _)).tr a5 (Nat.le_refl _) (Nat.le_refl _) (Nat.le_refl _) (Nat.le_refl _) (Nat.le_refl _)
  have d5 : τ5.1 39 = nI q := (a35.s39 (by omega)).trans d2
  have r5 : τ5.2.2.1 22 q = nI gv := by rw [a35.r22 (by omega) (by omega)]; exact r2
  have g5 := g2.tr (a35.qf q)
  have h5' : rR T len cnt kk pp ee f 0 τ5 0 0 0 0 0 (aTo (aTo (aTo (.inr (i + 1)) (aBs kk 210 200 213)) (aMs kk 58)) (aMs kk 224)) := h5
  have eS : (aQl kk i).st = aTo (aTo (aTo (aTo (.inr (i + 1)) (aBs kk 210 200 213)) (aMs kk 58)) (aMs kk 224)) (fun i3 => if aRl kk i3 < 5 then aQt kk 0 (aRl kk i3) (i3 + 1) else .inl i3) := by
    unfold aQl
    refine on_st (H := fun s => aTo (aTo (aTo s (aMs kk 58)) (aMs kk 224)) (fun i3 => if aRl kk i3 < 5 then aQt kk 0 (aRl kk i3) (i3 + 1) else .inl i3)) (fun _ => rfl) (fun g _ => on_st (H := fun s => aTo (aTo s (aMs kk 224)) (fun i3 => if aRl kk i3 < 5 then aQt kk 0 (aRl kk i3) (i3 + 1) else .inl i3)) (fun _ => rfl) (fun _ _ => on_st (H := fun s => aTo s (fun i3 => if aRl kk i3 < 5 then aQt kk 0 (aRl kk i3) (i3 + 1) else .inl i3)) (fun _ => rfl) (fun _ i3 => ?_)))
    rw [aTo_ok]
    split
    · exact QST kk _ _ _ _
    · rfl
  -- where the REL stands
  generalize hs3 : aTo (aTo (aTo (.inr (i + 1)) (aBs kk 210 200 213)) (aMs kk 58)) (aMs kk 224) = s3 at h5' eS
  have h5'' : rR T len cnt kk pp ee f 0 τ5 0 0 0 0 0 s3 := h5'
  have BAD : ∀ j (x : Int32) (τ6 : zSt), pB pp τ6 j → (∃ w, w < 2009 ∧ τ6.1 10 = nI w) → rAg 0 0 0 0 0 τ5 τ6 → (aQl kk i).st = .inl j → ∃ τ', j_program_193 T (zF h0 qs ks T m) h0 qs ks k35 x τ6 = k35 τ' ∧ τ'.1 39 = nI (q + 1) ∧ rQf q τ τ' ∧ (∀ x j, aQl kk i = .inr (x, j) → i < j ∧ rR T len cnt kk pp ee f 0 τ' 0 0 0 0 0 (.inr j) ∧ qR T f pp ee τ' q x) ∧ (∀ j, aQl kk i = .inl j → pB pp τ' j) := fun j x τ6 b6 w6 a6 es => by
    obtain ⟨τ', l1, l2, l3, l4⟩ := q_193B (h0 := h0) (qs := qs) (ks := ks) (m := m) k35 x (by omega) hq ((a6.s39 (by omega)).trans d5) ⟨b6.1, b6.2.1, b6.c⟩ w6
    refine ⟨τ', l1, l2, (g5.tr (a6.qf q)).tr l3, fun y j' e => ?_, fun j' e => ?_⟩
    · rw [e] at es; cases es
    · rw [e] at es
      have : j' = j := Sum.inl.inj es
      rw [this]; exact l4
  cases s3 with
  | inl j =>
    have hv : aRv kk (Sum.inl j) = -1 := rfl
    have eR' := hv
    have hb := h5''.pb
    obtain ⟨w, w1, w2⟩ := h5''.wd
    have LHS : (if aRv kk (Sum.inl j) < 0 then j_program_189 T (zF h0 qs ks T m) h0 qs ks k35 (aRv kk (Sum.inl j)) τ5 else if aRv kk (Sum.inl j) = 5 then j_program_189 T (zF h0 qs ks T m) h0 qs ks k35 (aRv kk (Sum.inl j)) τ5 else j_program_193 T (zF h0 qs ks T m) h0 qs ks k35 (aRv kk (Sum.inl j)) τ5) = j_program_193 T (zF h0 qs ks T m) h0 qs ks k35 (-1) τ5 := by
      rw [eR', if_pos (by decide)]
      unfold j_program_189
      rw [B_form hb (by omega), zcv_at]
    obtain ⟨τ', l1, l2⟩ := BAD j (-1) τ5 hb ⟨w, by omega, w2⟩ (rAg.rf _) eS
    exact ⟨τ', LHS.trans l1, l2⟩
  | inr i3 =>
    have hi3 := h5''.2.2.2.2
    have w10' : τ5.1 10 = nI i3 := h5''.2.2.2.1
    by_cases c5 : aRl kk i3 < 5
    · have hlt3 := aRl_lt h5''.1 hi3 (by omega)
      have hv : aRv kk (Sum.inr i3) = nI (aRl kk i3) := if_pos (by omega)
      have eR' := hv
      have LHS : (if aRv kk (Sum.inr i3) < 0 then j_program_189 T (zF h0 qs ks T m) h0 qs ks k35 (aRv kk (Sum.inr i3)) τ5 else if aRv kk (Sum.inr i3) = 5 then j_program_189 T (zF h0 qs ks T m) h0 qs ks k35 (aRv kk (Sum.inr i3)) τ5 else j_program_193 T (zF h0 qs ks T m) h0 qs ks k35 (aRv kk (Sum.inr i3)) τ5) = j_program_193 T (zF h0 qs ks T m) h0 qs ks k35 (nI (aRl kk i3)) τ5 := by
        rw [eR']
        have : aRl kk i3 = 0 ∨ aRl kk i3 = 1 ∨ aRl kk i3 = 2 ∨ aRl kk i3 = 3 ∨ aRl kk i3 = 4 := by omega
        rcases this with e | e | e | e | e <;> rw [e] <;> rfl
      obtain ⟨τ', l1, l2, l3, l4, l5⟩ := q_193 (h0 := h0) (qs := qs) (ks := ks) (m := m) (g := gv) (r := aRl kk i3) hf hT (by omega) k35 hq d5 r5 h5'' hlt3
      -- the abstract reading comes here too
      have eQ : ∀ x j, aQl kk i = .inr (x, j) → aQt kk gv (aRl kk i3) (i3 + 1) = .inr (x, j) := fun x j e => by
        unfold aQl at e
        obtain ⟨g, i1, z1, e⟩ := on_ok e
        obtain ⟨u, i2, z2, e⟩ := on_ok e
        obtain ⟨u', i4, z3, e⟩ := on_ok e
        have : i4 = i3 := by
          have := hs3
          rw [aTo_ok, z1] at this
          have t2 : aTo (aTo (.inr i1) (aMs kk 58)) (aMs kk 224) = .inr i3 := this
          rw [aTo_ok, z2] at t2
          have t3 : aTo (.inr i2) (aMs kk 224) = .inr i3 := t2
          rw [aTo_ok, z3] at t3
          exact Sum.inr.inj t3
        subst this
        rw [if_pos c5] at e
        have eg : g = gv := by
          unfold aBs at z1
          rw [← hgv]
          by_cases c1 : aIs kk 210 (i + 1) = true
          · rw [if_pos c1] at z1
            cases z1
            have n1 : ¬ aIs kk 200 (i + 1) = true := fun e => by
              have a1 : kk (i + 1) = nI 210 := of_decide_eq_true c1
              have a2 : kk (i + 1) = nI 200 := of_decide_eq_true e
              rw [a1] at a2; exact absurd a2 (by decide)
            have n2 : ¬ aIs kk 213 (i + 1) = true := fun e => by
              have a1 : kk (i + 1) = nI 210 := of_decide_eq_true c1
              have a2 : kk (i + 1) = nI 213 := of_decide_eq_true e
              rw [a1] at a2; exact absurd a2 (by decide)
            rw [if_neg n1, if_neg n2]
          · rw [if_neg c1] at z1
            by_cases c2 : aIs kk 200 (i + 1) = true
            · rw [if_pos c2] at z1; cases z1; rw [if_pos c2]
            · rw [if_neg c2] at z1
              by_cases c3 : aIs kk 213 (i + 1) = true
              · rw [if_pos c3] at z1; cases z1; rw [if_neg c2, if_pos c3]
              · rw [if_neg c3] at z1; cases z1
        rw [← eg]; exact e
      have hi1 : i < i3 := by
        have y0 : i + 1 ≤ aPo cnt (aTo (.inr (i + 1)) (aBs kk 210 200 213)) := by
          rw [aTo_ok]
          unfold aBs
          split
          · show i + 1 ≤ i + 1 + 1; omega
          · split
            · show i + 1 ≤ i + 1 + 1; omega
            · split
              · show i + 1 ≤ i + 1 + 1; omega
              · show i + 1 ≤ cnt; omega
        have y1 := aMs_po h4
        have y2 := aMs_po h5
        have y3 : aPo cnt (aTo (aTo (aTo (.inr (i + 1)) (aBs kk 210 200 213)) (aMs kk 58)) (aMs kk 224)) = i3 := by rw [hs3]; rfl
        have y1' : aPo cnt (aTo (.inr (i + 1)) (aBs kk 210 200 213)) ≤ aPo cnt (aTo (aTo (.inr (i + 1)) (aBs kk 210 200 213)) (aMs kk 58)) := y1
        have y2' : aPo cnt (aTo (aTo (.inr (i + 1)) (aBs kk 210 200 213)) (aMs kk 58)) ≤ aPo cnt (aTo (aTo (aTo (.inr (i + 1)) (aBs kk 210 200 213)) (aMs kk 58)) (aMs kk 224)) := y2
        omega
      have eS' : (aQl kk i).st = (aQt kk 0 (aRl kk i3) (i3 + 1)).st := by
        rw [eS, aTo_ok, if_pos c5]
      refine ⟨τ', LHS.trans l1, l2, g5.tr l3, fun x j e => ?_, fun j e => ?_⟩
      · have e2 := eQ x j e
        obtain ⟨p1, p2⟩ := l5 x j e2
        have l4' : rR T len cnt kk pp ee f 0 τ' 0 0 0 0 0 (.inr j) := by
          have : aTo (.inr (i3 + 1)) (aQt kk gv (aRl kk i3)) = .inr j := by rw [aTo_ok, e2]; rfl
          rw [this] at l4
          exact l4
        exact ⟨by omega, l4', p2⟩
      · have es : (aQt kk gv (aRl kk i3) (i3 + 1)).st = .inl j := by
          cases eq : aQt kk gv (aRl kk i3) (i3 + 1) with
          | inl j' =>
            have z : (aQt kk 0 (aRl kk i3) (i3 + 1)).st = .inl j := by rw [← eS', e]; rfl
            have z2 : (aQt kk 0 (aRl kk i3) (i3 + 1)).st = (aQt kk gv (aRl kk i3) (i3 + 1)).st := QST kk 0 gv _ _
            rw [eq] at z2
            rw [z] at z2
            exact z2.symm
          | inr r =>
            have z : (aQt kk 0 (aRl kk i3) (i3 + 1)).st = .inl j := by rw [← eS', e]; rfl
            have z2 : (aQt kk 0 (aRl kk i3) (i3 + 1)).st = (aQt kk gv (aRl kk i3) (i3 + 1)).st := QST kk 0 gv _ _
            rw [eq] at z2
            rw [z] at z2
            cases z2
        have : aTo (.inr (i3 + 1)) (aQt kk gv (aRl kk i3)) = .inl j := by rw [aTo_ok]; exact es
        rw [this] at l4
        exact l4.pb
    · have e5 : aRv kk (Sum.inr i3) = -1 ∨ aRv kk (Sum.inr i3) = 5 := by
        by_cases c6 : aRl kk i3 < 6
        · right
          have : aRl kk i3 = 5 := by omega
          show (if aRl kk i3 < 6 then nI (aRl kk i3) else -1) = 5
          rw [if_pos c6, this]
          rfl
        · left
          exact if_neg c6
      obtain ⟨τ6, f6, h6, a6⟩ := q_form (h0 := h0) (qs := qs) (ks := ks) (m := m) h5'' (by omega)
      have LHS : ∃ x, (if aRv kk (Sum.inr i3) < 0 then j_program_189 T (zF h0 qs ks T m) h0 qs ks k35 (aRv kk (Sum.inr i3)) τ5 else if aRv kk (Sum.inr i3) = 5 then j_program_189 T (zF h0 qs ks T m) h0 qs ks k35 (aRv kk (Sum.inr i3)) τ5 else j_program_193 T (zF h0 qs ks T m) h0 qs ks k35 (aRv kk (Sum.inr i3)) τ5) = j_program_193 T (zF h0 qs ks T m) h0 qs ks k35 x τ6 := by
        rcases e5 with e5 | e5
        · have eR' := e5
          refine ⟨-1, ?_⟩
          rw [eR', if_pos (by decide)]
          unfold j_program_189
          rw [f6, zcv_at]
        · have eR' := e5
          refine ⟨5, ?_⟩
          rw [eR', if_neg (by decide), if_pos rfl]
          unfold j_program_189
          rw [f6, zcv_at]
      obtain ⟨x, LHS⟩ := LHS
      have eS' : (aQl kk i).st = .inl i3 := by rw [eS, aTo_ok, if_neg c5]; rfl
      obtain ⟨w, w1, w2⟩ := h6.wd
      obtain ⟨τ', l1, l2⟩ := BAD i3 x τ6 h6.pb ⟨w, by omega, w2⟩ a6 eS'
      exact ⟨τ', LHS.trans l1, l2⟩
end RQW
