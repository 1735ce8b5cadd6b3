/-! the reference reads its INPUTS, a PROGRAM -/
section RPI
variable {κ : oKv} {ks : Nat → Nat} {qs : List Nat} {T m h0 len cnt sz d N S P A C z i k zc n q : Nat} {τ τ0 : zSt} {s : Sum Nat Nat} {kk pp ee f : Nat → Int32}
set_option maxHeartbeats 1000000 in
/-- one INPUT -/
theorem q_input (hf : lFacts κ ks sz) (hT : 2010 ≤ T) (hm : 5 ≤ m) (k396 : zSt → zRs) (hq : q < 6) (h42 : τ.1 42 = nI q) (h : rR T len cnt kk pp ee f 0 τ 0 0 0 0 0 (.inr i)) (c0 : aIs kk 209 i = true) (a : Nat) : ∃ τ', j_program_419 T (zF h0 qs ks T m) h0 qs ks k396 τ = k396 τ' ∧ τ'.1 42 = nI (q + 1) ∧ τ'.1 39 = τ.1 39 ∧ rPg a q τ τ' ∧ rR T len cnt kk pp ee f 0 τ' 0 0 0 0 0 (aTo (.inr i) (aNp kk)) ∧ (∀ x j, aNp kk i = .inr (x, j) → i < j ∧ iR τ' q x) := by
  have hcn := h.1.cn
  have hi := h.2.2.2.2
  have hlt := h.1.lt hi (by decide) c0
  have z6 := zin_n hq (show 6 < 2 ^ 31 by decide)
  have cq : (nI q).toNatClampNeg = q := nI_clamp (by omega)
  have w10 : τ.1 10 = nI i := h.2.2.2.1
  obtain ⟨k1, k2⟩ := h.nx hlt
  unfold j_program_419
  rw [if_pos h.2.2.1, zlet_at, w10, show nI i + 1 = nI (i + 1) by rw [nI_1]]
  have d0 : (zI τ 10 (nI (i + 1))).1 42 = nI q := h42
  have d0' : (zI τ 10 (nI (i + 1))).1 39 = τ.1 39 := rfl
  generalize zI τ 10 (nI (i + 1)) = τ1 at k1 k2 d0 d0' ⊢
  obtain ⟨x1, τ2, f2, h2, a2, n2⟩ := q_name (h0 := h0) (qs := qs) (ks := ks) (m := m) k1 (by omega)
  rw [f2, zci_at, d0, zgd_at z6, zlet_at, cq]
  have h3 := h2.a (upd (τ2.2.2.1 27) q x1) (show 6 ≤ 27 by omega)
  have g3 : rPg a q τ (zA τ2 27 (upd (τ2.2.2.1 27) q x1)) := ((k2.tr a2 (Nat.le_refl _) (Nat.le_refl _) (Nat.le_refl _) (Nat.le_refl _) (Nat.le_refl _)).pg a q).a (by omega) (by omega) (Nat.le_refl _)
  have d3 : (zA τ2 27 (upd (τ2.2.2.1 27) q x1)).1 42 = nI q := (a2.s39 (by omega)).trans d0
  have d3' : (zA τ2 27 (upd (τ2.2.2.1 27) q x1)).1 39 = τ.1 39 := (a2.s39 (by omega)).trans d0'
  have r3 : (zA τ2 27 (upd (τ2.2.2.1 27) q x1)).2.2.1 27 q = x1 := by rw [zAe, upd_at]
  generalize zA τ2 27 (upd (τ2.2.2.1 27) q x1) = τ3 at h3 g3 d3 d3' r3 ⊢
  obtain ⟨τ4, f4, h4, a4⟩ := q_must (h0 := h0) (qs := qs) (ks := ks) (m := m) hf hT h3 (show (495, ":", 58) ∈ zKp by decide) (by omega)
  rw [f4, zcv_at]
  have d4 : τ4.1 42 = nI q := (a4.s39 (by omega)).trans d3
  obtain ⟨b1, g1, q1⟩ := q_here (h0 := h0) (qs := qs) (ks := ks) (m := m) hf hT h4 (show (493, "int", 210) ∈ zKp by decide) (by omega)
  obtain ⟨b2, g2, q2⟩ := q_here (h0 := h0) (qs := qs) (ks := ks) (m := m) hf hT h4 (show (522, "bool", 202) ∈ zKp by decide) (by omega)
  have e0 : (zci (zF h0 qs ks T m 11 [.ref h0, .ref (ks 493)] τ4) fun r14 s12 => if r14 = 0 then zci (zF h0 qs ks T m 11 [.ref h0, .ref (ks 522)] s12) fun r18 s16 => if r18 = 0 then j_program_494 T (zF h0 qs ks T m) h0 qs ks k396 (τ4.1 42) 2 s16 else j_program_494 T (zF h0 qs ks T m) h0 qs ks k396 (τ4.1 42) 1 s16 else j_program_494 T (zF h0 qs ks T m) h0 qs ks k396 (τ4.1 42) 0 s12) = j_program_494 T (zF h0 qs ks T m) h0 qs ks k396 (nI q) (nI (if b1 = true then 0 else if b2 = true then 1 else 2)) τ4 := by
    have g1' : zF h0 qs ks T m 11 [.ref h0, .ref (ks 493)] τ4 = some (some (.int (b01 b1)), τ4) := g1
    have g2' : zF h0 qs ks T m 11 [.ref h0, .ref (ks 522)] τ4 = some (some (.int (b01 b2)), τ4) := g2
    rw [g1', zci_at, g2', zci_at, d4]
    cases b1 <;> cases b2 <;> rfl
  rw [e0]
  generalize hgv : (if b1 = true then 0 else if b2 = true then 1 else 2) = gv
  unfold j_program_494
  rw [zgd_at z6, zlet_at, cq]
  have h5 := h4.a (upd (τ4.2.2.1 28) q (nI gv)) (show 6 ≤ 28 by omega)
  have g5 : rPg a q τ (zA τ4 28 (upd (τ4.2.2.1 28) q (nI gv))) := (g3.tr (a4.pg a q) (Nat.le_refl _) (Nat.le_refl _)).a (by omega) (by omega) (Nat.le_refl _)
  have d5 : (zA τ4 28 (upd (τ4.2.2.1 28) q (nI gv))).1 42 = nI q := d4
  have d5' : (zA τ4 28 (upd (τ4.2.2.1 28) q (nI gv))).1 39 = τ.1 39 := (a4.s39 (by omega)).trans d3'
  have r27 : (zA τ4 28 (upd (τ4.2.2.1 28) q (nI gv))).2.2.1 27 q = x1 := by rw [zAn _ _ (by decide), a4.r22 (by omega) (by omega)]; exact r3
  have r28 : (zA τ4 28 (upd (τ4.2.2.1 28) q (nI gv))).2.2.1 28 q = nI gv := by rw [zAe, upd_at]
  generalize zA τ4 28 (upd (τ4.2.2.1 28) q (nI gv)) = τ5 at h5 g5 d5 d5' r27 r28 ⊢
  unfold j_program_525
  obtain ⟨τ6, e1, h6, a6⟩ := q_base3 (h0 := h0) (qs := qs) (ks := ks) (m := m) (a := 210) (b := 202) (c := 200) (ka := 493) (kb := 522) (kc := 489) (ta := "int") (tb := "bool") (tc := "array") hf hT (by omega) (by decide) (by decide) (by decide) h5 (j_program_542 T (zF h0 qs ks T m) h0 qs ks k396) (j_program_542 T (zF h0 qs ks T m) h0 qs ks k396)
  rw [e1]
  unfold j_program_542
  obtain ⟨τ7, f7, h7, a7⟩ := q_must (h0 := h0) (qs := qs) (ks := ks) (m := m) hf hT h6 (show (515, ";", 59) ∈ zKp by decide) (by omega)
  have a67 := a6.tr a7 (Nat.le_refl _) (Nat.le_refl _) (Nat.le_refl _) (Nat.le_refl _) (Nat.le_refl _)
  have d7 : τ7.1 42 = nI q := (a67.s39 (by omega)).trans d5
  rw [f7, zcv_at, zlet_at, d7, show nI q + 1 = nI (q + 1) by rw [nI_1]]
  have eT : aTo (.inr i) (aNp kk) = aTo (aTo (aTo (aTo (.inr (i + 1)) (aMs kk 1)) (aMs kk 58)) (aBs kk 210 202 200)) (aMs kk 59) := by
    rw [aTo_ok]
    exact on_st (H := fun s => aTo (aTo (aTo s (aMs kk 58)) (aBs kk 210 202 200)) (aMs kk 59)) (fun _ => rfl) (fun _ _ => on_st (H := fun s => aTo (aTo s (aBs kk 210 202 200)) (aMs kk 59)) (fun _ => rfl) (fun _ _ => on_st (H := fun s => aTo s (aMs kk 59)) (fun _ => rfl) (fun _ _ => on_st (H := fun s => s) (fun _ => rfl) (fun _ _ => rfl))))
  refine ⟨_, rfl, zIe _ _ _, ?_, (g5.tr (a67.pg a q) (Nat.le_refl _) (Nat.le_refl _)).i (by omega), ?_, fun x j e => ?_⟩
  · rw [zIn _ _ (by decide)]; exact (a67.s39 (by omega)).trans d5'
  · rw [eT]; exact h7.sc (by omega)
  · unfold aNp at e
    obtain ⟨u, i1, z1, e⟩ := on_ok e
    obtain ⟨u1, rfl⟩ := aMs_ok z1
    obtain ⟨u', i2, z2, e⟩ := on_ok e
    obtain ⟨u2, rfl⟩ := aMs_ok z2
    obtain ⟨b, i3, z3, e⟩ := on_ok e
    obtain ⟨u', i4, z4, e⟩ := on_ok e
    obtain ⟨u4, rfl⟩ := aMs_ok z4
    cases e
    have es : aTo (aTo (Sum.inr (i + 1)) (aMs kk 1)) (aMs kk 58) = .inr (i + 1 + 1 + 1) := by
      rw [aTo_ok, z1]
      show aTo (Sum.inr (i + 1 + 1)) (aMs kk 58) = _
      rw [aTo_ok, z2]
      rfl
    have q1' : b1 = aHr kk 210 (aTo (aTo (Sum.inr (i + 1)) (aMs kk 1)) (aMs kk 58)) := q1
    have q2' : b2 = aHr kk 202 (aTo (aTo (Sum.inr (i + 1)) (aMs kk 1)) (aMs kk 58)) := q2
    rw [es] at q1' q2'
    have q1'' : b1 = aIs kk 210 (i + 1 + 1 + 1) := q1'
    have q2'' : b2 = aIs kk 202 (i + 1 + 1 + 1) := q2'
    have eb : b = gv ∧ i + 3 ≤ i3 := by
      rw [← hgv, q1'', q2'']
      unfold aBs at z3
      by_cases c1 : aIs kk 210 (i + 1 + 1 + 1) = true
      · rw [if_pos c1] at z3; cases z3; rw [if_pos c1]; exact ⟨rfl, by omega⟩
      · rw [if_neg c1] at z3
        by_cases c2 : aIs kk 202 (i + 1 + 1 + 1) = true
        · rw [if_pos c2] at z3; cases z3; rw [if_neg c1, if_pos c2]; exact ⟨rfl, by omega⟩
        · rw [if_neg c2] at z3
          by_cases c3 : aIs kk 200 (i + 1 + 1 + 1) = true
          · rw [if_pos c3] at z3; cases z3; rw [if_neg c1, if_neg c2]; exact ⟨rfl, by omega⟩
          · rw [if_neg c3] at z3; cases z3
    refine ⟨by omega, ?_, ?_⟩
    · show τ7.2.2.1 27 q = nI (i + 1)
      rw [a67.r22 (by omega) (by omega), r27]; exact n2 (i + 1) rfl u1
    · show τ7.2.2.1 28 q = nI b
      rw [a67.r22 (by omega) (by omega), r28, eb.1]
/-- behind the INPUTS: the E and the end -/
theorem q_end (hf : lFacts κ ks sz) (hT : 2010 ≤ T) (hm : 133 ≤ m) (h : rR T len cnt kk pp ee f 0 τ 0 0 0 0 0 (.inr i)) (hne : aIs kk 209 i = false) {t : Nat} (ht : 0 < t) (a b : Nat) : ∃ τ', l_program_396 T (zF h0 qs ks T m) h0 qs ks t τ = some (none, τ') ∧ rPg a b τ τ' ∧ (τ'.1 39 = τ.1 39 ∧ τ'.1 42 = τ.1 42) ∧ (∀ j, aE kk T 31 i = .inl j → τ'.1 11 = 2 ∧ τ'.1 12 = pp j ∧ τ'.1 45 = 0) ∧ (∀ e j, aE kk T 31 i = .inr (e, j) → j ≠ cnt → τ'.1 11 = 2 ∧ τ'.1 12 = pp j ∧ τ'.1 45 = 0) ∧ (∀ e, aE kk T 31 i = .inr (e, cnt) → ∃ N S P A x, rR T len cnt kk pp ee f 0 τ' N S P A 0 (.inr cnt) ∧ (N ≤ cnt ∧ S ≤ cnt ∧ P ≤ cnt ∧ A ≤ cnt) ∧ τ'.1 43 = nI x ∧ rTr pp τ' 0 N S P A e 0 0 x) := by
  obtain ⟨t, rfl⟩ : ∃ t', t = t' + 1 := ⟨t - 1, by omega⟩
  have hcn := h.1.cn
  have hi := h.2.2.2.2
  obtain ⟨b1, g1, q1⟩ := q_here (h0 := h0) (qs := qs) (ks := ks) (m := m) hf hT h (show (517, "input", 209) ∈ zKp by decide) (by omega)
  have q1' : b1 = false := (show b1 = aIs kk 209 i from q1).trans hne
  subst q1'
  rw [l_program_396, g1, zci_at, if_pos (show b01 false = 0 from rfl)]
  obtain ⟨v, τ1, f1, N, S, P, A, x, o1, o2, o3, o4, ⟨rfl, o5⟩, o6⟩ := q_expr (h0 := h0) (qs := qs) (ks := ks) hf hT 30 0 m 0 (by omega) (by omega) (by omega) (.inr i) τ 0 0 0 0 h (fun i e => by cases e; omega)
  rw [f1, zci_at, zlet_at]
  have o1' := o1.sc (k := 43) (v := nI x) (by omega)
  have e39 : (zI τ1 43 (nI x)).1 39 = τ.1 39 := (zIn _ _ (by decide)).trans (o2.s39 (by omega))
  have e42 : (zI τ1 43 (nI x)).1 42 = τ.1 42 := (zIn _ _ (by decide)).trans (o2.s39 (by omega))
  have g2 : rPg a b τ (zI τ1 43 (nI x)) := (o2.pg a b).i (by omega)
  have e43 : (zI τ1 43 (nI x)).1 43 = nI x := zIe _ _ _
  have t2 : rAt 0 N S P A τ1 (zI τ1 43 (nI x)) := ⟨fun _ _ _ => rfl, fun _ _ _ _ _ => rfl, fun _ _ _ _ _ => rfl, fun _ _ => rfl⟩
  have hbd := (o3 i rfl).bd (by omega) o1.po
  have hpo := o1.po
  generalize zI τ1 43 (nI x) = τ2 at o1' e39 e42 g2 e43 t2 ⊢
  cases ee : aE kk T 31 i with
  | inl j =>
    have eT : aTo (.inr i) (aE kk T (30 + 1)) = .inl j := by rw [aTo_ok]; show (aE kk T 31 i).st = _; rw [ee]; rfl
    rw [eT] at o1'
    rw [if_neg (show ¬ τ2.1 11 = 0 by rw [o1'.2.2.1]; decide)]
    refine ⟨τ2, rfl, g2, ⟨e39, e42⟩, fun j' e => ?_, fun e j' e' => (by cases e'), fun e e' => (by cases e')⟩
    cases e
    exact ⟨o1'.2.2.1, o1'.2.2.2.1, o1'.2.1.2.2.2.2.2⟩
  | inr r =>
    obtain ⟨e, j⟩ := r
    have eT : aTo (.inr i) (aE kk T (30 + 1)) = .inr j := by rw [aTo_ok]; show (aE kk T 31 i).st = _; rw [ee]; rfl
    rw [eT] at o1' hbd hpo
    have hj : j ≤ cnt := hpo
    have w10 : τ2.1 10 = nI j := o1'.2.2.2.1
    have kd := o1'.1.kd hj
    rw [if_pos o1'.2.2.1, w10, zgd_at (zin_n (show j < 2010 by omega) (show 2010 < 2 ^ 31 by decide)), nI_clamp (show j < 2 ^ 31 by omega), kd]
    by_cases c : j < cnt
    · have kn : ¬ kMap (kk j) = 0 := by
        unfold kMap
        split
        · decide
        · split <;> decide
      rw [if_pos c, if_neg kn]
      obtain ⟨τ3, p1, p2, p3⟩ := q_form (h0 := h0) (qs := qs) (ks := ks) (m := m) o1' (by omega)
      rw [p1, zcv_at]
      refine ⟨τ3, rfl, g2.tr (p3.pg a b) (Nat.le_refl _) (Nat.le_refl _), ⟨(p3.s39 (by omega)).trans e39, (p3.s39 (by omega)).trans e42⟩, fun j' e => (by cases e), fun e2 j' e' _ => ?_, fun e2 e' => ?_⟩
      · cases e'; exact ⟨p2.2.2.1, p2.2.2.2.1, p2.2.1.2.2.2.2.2⟩
      · cases e'; omega
    · have ej : j = cnt := by omega
      rw [if_neg c, if_pos rfl]
      refine ⟨τ2, rfl, g2, ⟨e39, e42⟩, fun j' e => (by cases e), fun e2 j' e' hne => ?_, fun e2 e' => ?_⟩
      · cases e'; exact absurd ej hne
      · cases e'
        obtain ⟨l1, l2, l3⟩ := o6 i e _ rfl ee
        have hb3 : P ≤ cnt := hbd.2.2.1
        have hb4 : A ≤ cnt := hbd.2.2.2
        have hen := (o3 i rfl)
        rw [eT] at hen
        have := hen.en (by omega) cnt rfl
        exact ⟨N, S, P, A, x, o1', by omega, e43, rTr.keep t2 (Nat.le_refl _) (Nat.le_refl _) (Nat.le_refl _) (Nat.le_refl _) (Nat.le_refl _) _ _ _ _ l3⟩
/-- the INPUTS and what is behind -/
theorem q_396 (hf : lFacts κ ks sz) (hT : 2010 ≤ T) (hm : 133 ≤ m) (a : Nat) : ∀ (q t i ni : Nat) (τ : zSt), ni + q = 6 → q + 1 < t → τ.1 42 = nI ni → rR T len cnt kk pp ee f 0 τ 0 0 0 0 0 (.inr i) → ∃ τ', l_program_396 T (zF h0 qs ks T m) h0 qs ks t τ = some (none, τ') ∧ rPg a ni τ τ' ∧ τ'.1 39 = τ.1 39 ∧ (∀ j, ((aNs kk q i).on fun is j' => (aE kk T 31 j').on fun e j2 => if j2 = cnt then (Sum.inr ((is, e), j2) : aR (List (Nat × Nat) × tT)) else .inl j2) = .inl j → τ'.1 11 = 2 ∧ τ'.1 12 = pp j ∧ τ'.1 45 = 0) ∧ (∀ is e j, ((aNs kk q i).on fun is j' => (aE kk T 31 j').on fun e j2 => if j2 = cnt then (Sum.inr ((is, e), j2) : aR (List (Nat × Nat) × tT)) else .inl j2) = .inr ((is, e), j) → j = cnt ∧ τ'.1 42 = nI (ni + is.length) ∧ (∀ b y, is[b]? = some y → iR τ' (ni + b) y) ∧ ∃ N S P A x, rR T len cnt kk pp ee f 0 τ' N S P A 0 (.inr cnt) ∧ (N ≤ cnt ∧ S ≤ cnt ∧ P ≤ cnt ∧ A ≤ cnt) ∧ τ'.1 43 = nI x ∧ rTr pp τ' 0 N S P A e 0 0 x) := by
  intro q
  -- no more INPUTS
  have END : ∀ (t i ni q : Nat) (τ : zSt), 0 < t → τ.1 42 = nI ni → rR T len cnt kk pp ee f 0 τ 0 0 0 0 0 (.inr i) → aIs kk 209 i = false → aNs kk q i = .inr ([], i) → ∃ τ', l_program_396 T (zF h0 qs ks T m) h0 qs ks t τ = some (none, τ') ∧ rPg a ni τ τ' ∧ τ'.1 39 = τ.1 39 ∧ (∀ j, ((aNs kk q i).on fun is j' => (aE kk T 31 j').on fun e j2 => if j2 = cnt then (Sum.inr ((is, e), j2) : aR (List (Nat × Nat) × tT)) else .inl j2) = .inl j → τ'.1 11 = 2 ∧ τ'.1 12 = pp j ∧ τ'.1 45 = 0) ∧ (∀ is e j, ((aNs kk q i).on fun is j' => (aE kk T 31 j').on fun e j2 => if j2 = cnt then (Sum.inr ((is, e), j2) : aR (List (Nat × Nat) × tT)) else .inl j2) = .inr ((is, e), j) → j = cnt ∧ τ'.1 42 = nI (ni + is.length) ∧ (∀ b y, is[b]? = some y → iR τ' (ni + b) y) ∧ ∃ N S P A x, rR T len cnt kk pp ee f 0 τ' N S P A 0 (.inr cnt) ∧ (N ≤ cnt ∧ S ≤ cnt ∧ P ≤ cnt ∧ A ≤ cnt) ∧ τ'.1 43 = nI x ∧ rTr pp τ' 0 N S P A e 0 0 x) := fun t i ni q τ ht h42 h hne ea => by
    obtain ⟨τ', e1, e2, ⟨e3, e4⟩, e5, e6, e7⟩ := q_end (h0 := h0) (qs := qs) (ks := ks) (m := m) hf hT hm h hne ht a ni
    refine ⟨τ', e1, e2, e3, fun j e => ?_, fun is e j he => ?_⟩
    · rw [ea] at e
      have e' : ((aE kk T 31 i).on fun e j2 => if j2 = cnt then (Sum.inr (([], e), j2) : aR (List (Nat × Nat) × tT)) else .inl j2) = .inl j := e
      cases ee : aE kk T 31 i with
      | inl j' => rw [ee] at e'; cases e'; exact e5 _ ee
      | inr r =>
        obtain ⟨tr, j'⟩ := r
        rw [ee] at e'
        have e'' : (if j' = cnt then (Sum.inr (([], tr), j') : aR (List (Nat × Nat) × tT)) else .inl j') = .inl j := e'
        by_cases c : j' = cnt
        · rw [if_pos c] at e''; cases e''
        · rw [if_neg c] at e''; cases e''; exact e6 tr _ ee c
    · rw [ea] at he
      have he' : ((aE kk T 31 i).on fun e j2 => if j2 = cnt then (Sum.inr (([], e), j2) : aR (List (Nat × Nat) × tT)) else .inl j2) = .inr ((is, e), j) := he
      obtain ⟨tr, j', z1, he'⟩ := on_ok he'
      by_cases c : j' = cnt
      · rw [if_pos c] at he'
        cases he'
        subst c
        exact ⟨rfl, by rw [e4]; exact h42, fun b y ey => (by cases ey), e7 _ z1⟩
      · rw [if_neg c] at he'; cases he'
  induction q with
  | zero =>
    intro t i ni τ hn ht h42 h
    obtain rfl : ni = 6 := by omega
    cases c : aIs kk 209 i with
    | false => exact END t i 6 0 τ (by omega) h42 h c (by rw [aNs, c]; rfl)
    | true =>
      obtain ⟨t, rfl⟩ : ∃ t', t = t' + 1 := ⟨t - 1, by omega⟩
      obtain ⟨b1, g1, q1⟩ := q_here (h0 := h0) (qs := qs) (ks := ks) (m := m) hf hT h (show (517, "input", 209) ∈ zKp by decide) (by omega)
      have q1' : b1 = true := (show b1 = aIs kk 209 i from q1).trans c
      subst q1'
      have ea : aNs kk 0 i = .inl i := by rw [aNs, c]; rfl
      rw [l_program_396, g1, zci_at, if_neg (show ¬ b01 true = 0 by decide), h42, if_pos (show nI 6 = 6 from rfl)]
      obtain ⟨τ1, f1, f2, f3⟩ := q_form (h0 := h0) (qs := qs) (ks := ks) (m := m) h (by omega)
      rw [f1, zcv_at]
      unfold j_program_419
      rw [if_neg (show ¬ τ1.1 11 = 0 by rw [f2.2.2.1]; decide)]
      refine ⟨τ1, rfl, f3.pg _ _, f3.s39 (by omega), fun j e => ?_, fun is e j he => ?_⟩
      · rw [ea] at e; cases e; exact ⟨f2.2.2.1, f2.2.2.2.1, f2.2.1.2.2.2.2.2⟩
      · rw [ea] at he; cases he
  | succ q IH =>
    intro t i ni τ hn ht h42 h
    cases c : aIs kk 209 i with
    | false => exact END t i ni (q + 1) τ (by omega) h42 h c (by rw [aNs, c]; rfl)
    | true =>
      obtain ⟨t, rfl⟩ : ∃ t', t = t' + 1 := ⟨t - 1, by omega⟩
      obtain ⟨b1, g1, q1⟩ := q_here (h0 := h0) (qs := qs) (ks := ks) (m := m) hf hT h (show (517, "input", 209) ∈ zKp by decide) (by omega)
      have q1' : b1 = true := (show b1 = aIs kk 209 i from q1).trans c
      subst q1'
      have ea : aNs kk (q + 1) i = (aNp kk i).on fun x j => (aNs kk q j).on fun xs j' => .inr (x :: xs, j') := by rw [aNs, if_pos c]
      rw [l_program_396, g1, zci_at, if_neg (show ¬ b01 true = 0 by decide), h42, if_neg (show ¬ nI ni = 6 from fun e => by have := nI_inj' (by omega) (by decide) (e.trans (show (6 : Int32) = nI 6 from rfl)); omega)]
      obtain ⟨τ1, f1, f2, f3, f4, f5, f6⟩ := q_input (h0 := h0) (qs := qs) (ks := ks) (m := m) hf hT (by omega) (l_program_396 T (zF h0 qs ks T m) h0 qs ks t) (show ni < 6 by omega) h42 h c a
      rw [f1]
      cases ex : aNp kk i with
      | inl j0 =>
        have es : aTo (.inr i) (aNp kk) = .inl j0 := by rw [aTo_ok, ex]; rfl
        rw [es] at f5
        have hb := f5.pb
        rw [q_396B hb (by omega) (by omega)]
        refine ⟨_, rfl, f4.i (by omega), f3, fun j e => ?_, fun is e j he => ?_⟩
        · rw [ea, ex] at e; cases e; exact ⟨hb.1, hb.2.1, hb.c⟩
        · rw [ea, ex] at he; cases he
      | inr r =>
        obtain ⟨x, j1⟩ := r
        have es : aTo (.inr i) (aNp kk) = .inr j1 := by rw [aTo_ok, ex]; rfl
        rw [es] at f5
        obtain ⟨y1, y2⟩ := f6 x j1 ex
        obtain ⟨τ', l1, l2, l3, l4, l5⟩ := IH t j1 (ni + 1) τ1 (by omega) (by omega) f2 f5
        have eO : aNs kk (q + 1) i = (aNs kk q j1).on fun xs j' => .inr (x :: xs, j') := by rw [ea, ex]; rfl
        refine ⟨τ', l1, f4.tr l2 (Nat.le_refl _) (Nat.le_succ _), l3.trans f3, fun j e => ?_, fun is e j he => ?_⟩
        · rw [eO] at e
          refine l4 j ?_
          cases eN : aNs kk q j1 with
          | inl j' => rw [eN] at e; exact e
          | inr r =>
            obtain ⟨xs, j'⟩ := r
            rw [eN] at e
            have e' : ((aE kk T 31 j').on fun e j2 => if j2 = cnt then (Sum.inr ((x :: xs, e), j2) : aR (List (Nat × Nat) × tT)) else .inl j2) = .inl j := e
            show ((aE kk T 31 j').on fun e j2 => if j2 = cnt then (Sum.inr ((xs, e), j2) : aR (List (Nat × Nat) × tT)) else .inl j2) = .inl j
            cases eE : aE kk T 31 j' with
            | inl j2 => rw [eE] at e'; exact e'
            | inr r2 =>
              obtain ⟨tr, j2⟩ := r2
              rw [eE] at e'
              have e'' : (if j2 = cnt then (Sum.inr ((x :: xs, tr), j2) : aR (List (Nat × Nat) × tT)) else .inl j2) = .inl j := e'
              show (if j2 = cnt then (Sum.inr ((xs, tr), j2) : aR (List (Nat × Nat) × tT)) else .inl j2) = .inl j
              by_cases cc : j2 = cnt
              · rw [if_pos cc] at e''; cases e''
              · rw [if_neg cc] at e'' ⊢; exact e''
        · rw [eO] at he
          obtain ⟨is', j', z1, he⟩ := on_ok he
          obtain ⟨xs, j3, z2, z1⟩ := on_ok z1
          cases z1
          obtain ⟨tr, j2, z3, he⟩ := on_ok he
          by_cases cc : j2 = cnt
          · rw [if_pos cc] at he
            cases he
            obtain ⟨p1, p2, p3, p4⟩ := l5 xs e _ (by
              rw [z2]
              show ((aE kk T 31 _).on fun e j2 => if j2 = cnt then (Sum.inr ((xs, e), j2) : aR (List (Nat × Nat) × tT)) else .inl j2) = _
              rw [z3]
              show (if _ = cnt then _ else _) = _
              rw [if_pos cc])
            refine ⟨p1, ?_, fun b y ey => ?_, p4⟩
            · rw [p2, List.length_cons, show ni + 1 + xs.length = ni + (xs.length + 1) by omega]
            · cases b with
              | zero => cases ey; exact y2.pg l2 (by omega)
              | succ b =>
                have := p3 b y ey
                rw [show ni + (b + 1) = ni + 1 + b by omega]
                exact this
          · rw [if_neg cc] at he; cases he
/-- program() -/
theorem q_program (hf : lFacts κ ks sz) (hT : 2010 ≤ T) (hm : 134 ≤ m) (hw : rW τ T len cnt kk pp ee f) (h11 : τ.1 11 = 0) (h10 : τ.1 10 = 0) (h45 : τ.1 45 = 0) : ∃ τ', zF h0 qs ks T m 30 [.ref h0] τ = some (none, τ') ∧ rPg 0 0 τ τ' ∧ (∀ j, aPr kk T cnt = .inl j → τ'.1 11 = 2 ∧ τ'.1 12 = pp j ∧ τ'.1 45 = 0) ∧ (∀ xs is e j, aPr kk T cnt = .inr ((xs, is, e), j) → τ'.1 39 = nI xs.length ∧ τ'.1 42 = nI is.length ∧ (∀ a x, xs[a]? = some x → qR T f pp ee τ' a x) ∧ (∀ b y, is[b]? = some y → iR τ' b y) ∧ ∃ N S P A x, rR T len cnt kk pp ee f 0 τ' N S P A 0 (.inr cnt) ∧ (N ≤ cnt ∧ S ≤ cnt ∧ P ≤ cnt ∧ A ≤ cnt) ∧ τ'.1 43 = nI x ∧ rTr pp τ' 0 N S P A e 0 0 x) := by
  obtain ⟨n, rfl⟩ : ∃ n, m = n + 1 := ⟨m - 1, by omega⟩
  rw [zE_program]
  unfold b_program
  simp only [zlet]
  have h1 : rR T len cnt kk pp ee f 0 (zI (zI (zI (zI (zI (zI (zI τ 20 0) 24 0) 28 0) 32 0) 39 0) 42 0) 33 0) 0 0 0 0 0 (.inr 0) := ⟨hw, ⟨rfl, rfl, rfl, rfl, rfl, h45⟩, h11, h10, Nat.zero_le _⟩
  have g1 : rPg 0 0 τ (zI (zI (zI (zI (zI (zI (zI τ 20 0) 24 0) 28 0) 32 0) 39 0) 42 0) 33 0) := by
    refine ⟨rfl, rfl, fun k a1 a2 a3 a4 a5 a6 a7 a8 a9 a10 a11 a12 => ?_, fun _ _ _ _ _ _ => rfl⟩
    rw [zIn _ _ a8, zIn _ _ a11, zIn _ _ a10, zIn _ _ a7, zIn _ _ a6, zIn _ _ a5, zIn _ _ a4]
  have d39 : (zI (zI (zI (zI (zI (zI (zI τ 20 0) 24 0) 28 0) 32 0) 39 0) 42 0) 33 0).1 39 = nI 0 := rfl
  have d42 : (zI (zI (zI (zI (zI (zI (zI τ 20 0) 24 0) 28 0) 32 0) 39 0) 42 0) 33 0).1 42 = nI 0 := rfl
  generalize zI (zI (zI (zI (zI (zI (zI τ 20 0) 24 0) 28 0) 32 0) 39 0) 42 0) 33 0 = τ1 at h1 g1 d39 d42 ⊢
  obtain ⟨Q1, Q2⟩ := q_35 (h0 := h0) (qs := qs) (ks := ks) (m := n) hf hT (by omega) 6 T 0 0 τ1 (by omega) (by omega) d39 h1
  cases eq : aQs kk 6 0 with
  | inl j0 =>
    obtain ⟨τ', l1, l2, l3⟩ := Q2 j0 eq
    refine ⟨τ', l1, g1.tr l3 (Nat.le_refl _) (Nat.le_refl _), fun j e => ?_, fun xs is e j he => ?_⟩
    · unfold aPr at e; rw [eq] at e; cases e; exact l2
    · unfold aPr at he; rw [eq] at he; cases he
  | inr r =>
    obtain ⟨xs, j1⟩ := r
    obtain ⟨τ2, l1, l2, l3, l4, l5, l6, l7⟩ := Q1 xs j1 eq
    obtain ⟨τ', p1, p2, p3, p4, p5⟩ := q_396 (h0 := h0) (qs := qs) (ks := ks) (m := n) hf hT (by omega) xs.length 6 T j1 0 τ2 (by omega) (by omega) (l4.trans d42) l2
    have eP : aPr kk T cnt = (aNs kk 6 j1).on fun is j' => (aE kk T 31 j').on fun t j2 => if j2 = cnt then .inr ((xs, is, t), j2) else .inl j2 := by
      unfold aPr; rw [eq]; rfl
    refine ⟨τ', l1.trans p1, g1.tr (l5.tr p2 (Nat.zero_le _) (Nat.le_refl _)) (Nat.le_refl _) (Nat.le_refl _), fun j e => ?_, fun ys is e j he => ?_⟩
    · rw [eP] at e
      refine p4 j ?_
      cases eN : aNs kk 6 j1 with
      | inl j' => rw [eN] at e; cases e; rfl
      | inr r =>
        obtain ⟨is, j'⟩ := r
        rw [eN] at e
        have e' : ((aE kk T 31 j').on fun t j2 => if j2 = cnt then (Sum.inr ((xs, is, t), j2) : aR (List tQ × List (Nat × Nat) × tT)) else .inl j2) = .inl j := e
        show ((aE kk T 31 j').on fun e j2 => if j2 = cnt then (Sum.inr ((is, e), j2) : aR (List (Nat × Nat) × tT)) else .inl j2) = .inl j
        cases eE : aE kk T 31 j' with
        | inl j2 => rw [eE] at e'; cases e'; rfl
        | inr r2 =>
          obtain ⟨tr, j2⟩ := r2
          rw [eE] at e'
          have e'' : (if j2 = cnt then (Sum.inr ((xs, is, tr), j2) : aR (List tQ × List (Nat × Nat) × tT)) else .inl j2) = .inl j := e'
          show (if j2 = cnt then (Sum.inr ((is, tr), j2) : aR (List (Nat × Nat) × tT)) else .inl j2) = .inl j
          by_cases cc : j2 = cnt
          · rw [if_pos cc] at e''; cases e''
          · rw [if_neg cc] at e'' ⊢; cases e''; rfl
    · rw [eP] at he
      obtain ⟨is', j', z1, he⟩ := on_ok he
      obtain ⟨tr, j2, z3, he⟩ := on_ok he
      by_cases cc : j2 = cnt
      · rw [if_pos cc] at he
        cases he
        obtain ⟨r1, r2, r3, r4⟩ := p5 is e _ (by
          rw [z1]
          show ((aE kk T 31 _).on fun e j2 => if j2 = cnt then (Sum.inr ((is, e), j2) : aR (List (Nat × Nat) × tT)) else .inl j2) = _
          rw [z3]
          show (if _ = cnt then _ else _) = _
          rw [if_pos cc])
        refine ⟨?_, ?_, fun a x ex => ?_, fun b y ey => ?_, r4⟩
        · rw [p3, l3, Nat.zero_add]
        · rw [r2, Nat.zero_add]
        · have hlt : a < xs.length := by
            by_cases c : a < xs.length
            · exact c
            · rw [List.getElem?_eq_none (by omega)] at ex; cases ex
          have := l7 a x ex
          rw [Nat.zero_add] at this
          exact this.pg p2 hlt
        · have := r3 b y ey
          rw [Nat.zero_add] at this
          exact this
      · rw [if_neg cc] at he; cases he
end RPI
