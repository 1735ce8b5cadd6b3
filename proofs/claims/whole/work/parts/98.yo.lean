/-! the reference reads a QUAL, from its REL on -/
section RQV
variable {κ : oKv} {ks : Nat → Nat} {qs : List Nat} {T m h0 len cnt sz d N S P A C z i k zc n q : Nat} {τ τ0 : zSt} {s : Sum Nat Nat} {kk pp ee f : Nat → Int32}
theorem rAg.s39 {k : Nat} (h : rAg N S P A C τ τ0) (hk : k = 39 ∨ k = 42 ∨ k = 43) : τ0.1 k = τ.1 k := h.2.2.1 k (by omega) (by omega) (by omega) (by omega) (by omega) (by omega) (by omega) (by omega) (by omega)
theorem rAg.r22 {k j : Nat} (h : rAg N S P A C τ τ0) (h1 : 22 ≤ k) (h2 : k ≤ 28) : τ0.2.2.1 k j = τ.2.2.1 k j := h.2.2.2 k j ⟨fun _ _ => by omega, fun _ _ => by omega, fun _ _ => by omega, fun _ _ => by omega, fun _ => by omega⟩
/-- a NUMBER's value is put down, and ; -/
theorem q_num376 (hf : lFacts κ ks sz) (hT : 2010 ≤ T) (hm : 4 ≤ m) (k35 : zSt → zRs) (hq : q < 6) (v : Int32) (h39 : τ.1 39 = nI q) (h : rR T len cnt kk pp ee f 0 τ 0 0 0 0 0 s) : ∃ τ', (zgd (zin (nI q) 6) (zlet (zA τ 26 (upd (τ.2.2.1 26) (nI q).toNatClampNeg v)) fun s2 => j_program_376 T (zF h0 qs ks T m) h0 qs ks k35 s2)) = k35 τ' ∧ τ'.1 39 = nI (q + 1) ∧ rQf q τ τ' ∧ rR T len cnt kk pp ee f 0 τ' 0 0 0 0 0 (aTo s (aMs kk 59)) ∧ (∀ k, 22 ≤ k → k ≤ 25 → τ'.2.2.1 k q = τ.2.2.1 k q) ∧ τ'.2.2.1 26 q = v := by
  rw [zgd_at (zin_n hq (show 6 < 2 ^ 31 by decide)), zlet_at, nI_clamp (show q < 2 ^ 31 by omega)]
  obtain ⟨τ', e1, e2, e3, e4, e5⟩ := q_376 (h0 := h0) (qs := qs) (ks := ks) (m := m) hf hT hm k35 hq (τ := zA τ 26 (upd (τ.2.2.1 26) q v)) h39 (h.a _ (by omega))
  refine ⟨τ', e1, e2, ((rQf.rf q τ).a (by omega) (by omega)).tr e3, e4, fun k a b => ?_, ?_⟩
  · rw [e5 k a (by omega), zAn _ _ (by omega)]
  · rw [e5 26 (by omega) (by omega), zAe, upd_at]
set_option maxHeartbeats 1000000 in
theorem q_193 {g r : Nat} (hf : lFacts κ ks sz) (hT : 2010 ≤ T) (hm : 5 ≤ m) (k35 : zSt → zRs) (hq : q < 6) (h39 : τ.1 39 = nI q) (h22 : τ.2.2.1 22 q = nI g) (h : rR T len cnt kk pp ee f 0 τ 0 0 0 0 0 (.inr i)) (hi : i < cnt) : ∃ τ', j_program_193 T (zF h0 qs ks T m) h0 qs ks k35 (nI r) τ = k35 τ' ∧ τ'.1 39 = nI (q + 1) ∧ rQf q τ τ' ∧ rR T len cnt kk pp ee f 0 τ' 0 0 0 0 0 (aTo (.inr (i + 1)) (aQt kk g r)) ∧ (∀ x j, aQt kk g r (i + 1) = .inr (x, j) → i < j ∧ qR T f pp ee τ' q x) := by
  have hcn := h.1.cn
  have z6 := zin_n hq (show 6 < 2 ^ 31 by decide)
  have cq : (nI q).toNatClampNeg = q := nI_clamp (by omega)
  have w10 : τ.1 10 = nI i := h.2.2.2.1
  unfold j_program_193
  rw [zlet_at, w10, show nI i + 1 = nI (i + 1) by rw [nI_1], zIn _ _ (show 39 ≠ 10 by decide), h39, zgd_at z6, zlet_at, cq]
  obtain ⟨k1, k2⟩ := h.nx hi
  have h1 := k1.a (upd ((zI τ 10 (nI (i + 1))).2.2.1 23) q (nI r)) (show 6 ≤ 23 by omega)
  have g1 : rQf q τ (zA (zI τ 10 (nI (i + 1))) 23 (upd ((zI τ 10 (nI (i + 1))).2.2.1 23) q (nI r))) := (k2.qf q).a (by omega) (by omega)
  have d1 : (zA (zI τ 10 (nI (i + 1))) 23 (upd ((zI τ 10 (nI (i + 1))).2.2.1 23) q (nI r))).1 39 = nI q := h39
  have r22 : (zA (zI τ 10 (nI (i + 1))) 23 (upd ((zI τ 10 (nI (i + 1))).2.2.1 23) q (nI r))).2.2.1 22 q = nI g := by rw [zAn _ _ (by decide)]; exact h22
  have r23 : (zA (zI τ 10 (nI (i + 1))) 23 (upd ((zI τ 10 (nI (i + 1))).2.2.1 23) q (nI r))).2.2.1 23 q = nI r := by rw [zAe, upd_at]
  generalize zA (zI τ 10 (nI (i + 1))) 23 (upd ((zI τ 10 (nI (i + 1))).2.2.1 23) q (nI r)) = τ1 at h1 g1 d1 r22 r23 ⊢
  -- a - ahead
  obtain ⟨b, τ2, s1, q1, y1, n1⟩ := q_skip (h0 := h0) (qs := qs) (ks := ks) (m := m) hf hT h1 (show (506, "-", 45) ∈ zKp by decide) (by omega)
  have q1' : b = aIs kk 45 (i + 1) := q1
  rw [s1, zci_at, d1]
  have e0 : (if b01 b = 0 then j_program_236 T (zF h0 qs ks T m) h0 qs ks k35 (nI q) 0 τ2 else j_program_236 T (zF h0 qs ks T m) h0 qs ks k35 (nI q) 1 τ2) = j_program_236 T (zF h0 qs ks T m) h0 qs ks k35 (nI q) (b01 b) τ2 := by cases b <;> rfl
  rw [e0]
  obtain ⟨j1, ej1, h2, a2⟩ : ∃ j1, j1 = (if aIs kk 45 (i + 1) = true then i + 1 + 1 else i + 1) ∧ rR T len cnt kk pp ee f 0 τ2 0 0 0 0 0 (.inr j1) ∧ rAg 0 0 0 0 0 τ1 τ2 := by
    cases b with
    | true =>
      obtain ⟨i', ei, x1, x2, x3, x4⟩ := n1 rfl
      cases ei
      exact ⟨i + 1 + 1, by rw [← q1']; rfl, x3, x4⟩
    | false =>
      rw [y1 rfl]
      exact ⟨i + 1, by rw [← q1']; rfl, h1, rAg.rf _⟩
  have eQ : aQt kk g r (i + 1) = if aIs kk 42 j1 = true then
    (if (aIs kk 45 (j1 + 1) || aIs kk 43 (j1 + 1)) = true then (aMs kk 2 (j1 + 2)).on fun _ j3 => (aMs kk 59 j3).on fun _ j4 => .inr ((g, r, b, true, some (aIs kk 45 (j1 + 1), j1 + 2)), j4)
    else (aMs kk 59 (j1 + 1)).on fun _ j4 => .inr ((g, r, b, true, none), j4))
    else (aMs kk 2 j1).on fun _ j3 => (aMs kk 59 j3).on fun _ j4 => .inr ((g, r, b, false, some (b, j1)), j4) := by
    unfold aQt
    rw [ej1, q1']
    rfl
  have hj1 : i + 1 ≤ j1 := by rw [ej1]; split <;> omega
  have hj1c : j1 ≤ cnt := h2.2.2.2.2
  unfold j_program_236
  rw [zgd_at z6, zlet_at, cq]
  have h3 := h2.a (upd (τ2.2.2.1 24) q (b01 b)) (show 6 ≤ 24 by omega)
  have g3 : rQf q τ (zA τ2 24 (upd (τ2.2.2.1 24) q (b01 b))) := (g1.tr (a2.qf q)).a (by omega) (by omega)
  have d3 : (zA τ2 24 (upd (τ2.2.2.1 24) q (b01 b))).1 39 = nI q := (a2.s39 (by omega)).trans d1
  have r22b : (zA τ2 24 (upd (τ2.2.2.1 24) q (b01 b))).2.2.1 22 q = nI g := by rw [zAn _ _ (by decide), a2.r22 (by omega) (by omega)]; exact r22
  have r23b : (zA τ2 24 (upd (τ2.2.2.1 24) q (b01 b))).2.2.1 23 q = nI r := by rw [zAn _ _ (by decide), a2.r22 (by omega) (by omega)]; exact r23
  have r24b : (zA τ2 24 (upd (τ2.2.2.1 24) q (b01 b))).2.2.1 24 q = b01 b := by rw [zAe, upd_at]
  generalize zA τ2 24 (upd (τ2.2.2.1 24) q (b01 b)) = τ3 at h3 g3 d3 r22b r23b r24b ⊢
  -- a *
  obtain ⟨c, τ4, s4, q4, y4, n4⟩ := q_skip (h0 := h0) (qs := qs) (ks := ks) (m := m) hf hT h3 (show (508, "*", 42) ∈ zKp by decide) (by omega)
  have q4' : c = aIs kk 42 j1 := q4
  rw [s4, zci_at, d3]
  have e1 : (if b01 c = 0 then j_program_260 T (zF h0 qs ks T m) h0 qs ks k35 (nI q) 0 τ4 else j_program_260 T (zF h0 qs ks T m) h0 qs ks k35 (nI q) 1 τ4) = j_program_260 T (zF h0 qs ks T m) h0 qs ks k35 (nI q) (b01 c) τ4 := by cases c <;> rfl
  rw [e1]
  obtain ⟨j2, ej2, h4, a4⟩ : ∃ j2, j2 = (if c = true then j1 + 1 else j1) ∧ rR T len cnt kk pp ee f 0 τ4 0 0 0 0 0 (.inr j2) ∧ rAg 0 0 0 0 0 τ3 τ4 := by
    cases c with
    | true =>
      obtain ⟨i', ei, x1, x2, x3, x4⟩ := n4 rfl
      cases ei
      exact ⟨j1 + 1, rfl, x3, x4⟩
    | false =>
      rw [y4 rfl]
      exact ⟨j1, rfl, h3, rAg.rf _⟩
  have hj2c : j2 ≤ cnt := h4.2.2.2.2
  unfold j_program_260
  have e39 : τ4.1 39 = nI q := (a4.s39 (by omega)).trans d3
  have e39b : (zA (zA τ4 25 (upd (τ4.2.2.1 25) q (b01 c))) 26 (upd ((zA τ4 25 (upd (τ4.2.2.1 25) q (b01 c))).2.2.1 26) q 0)).1 39 = nI q := e39
  rw [zgd_at z6, zlet_at, zA1, e39, zgd_at z6, zlet_at, cq, e39b, zgd_at z6, cq]
  have h5 := (h4.a (upd (τ4.2.2.1 25) q (b01 c)) (show 6 ≤ 25 by omega)).a (upd ((zA τ4 25 (upd (τ4.2.2.1 25) q (b01 c))).2.2.1 26) q 0) (show 6 ≤ 26 by omega)
  have g5 := ((g3.tr (a4.qf q)).a (k := 25) (v := b01 c) (by omega) (by omega)).a (k := 26) (v := 0) (by omega) (by omega)
  have r22c : (zA (zA τ4 25 (upd (τ4.2.2.1 25) q (b01 c))) 26 (upd ((zA τ4 25 (upd (τ4.2.2.1 25) q (b01 c))).2.2.1 26) q 0)).2.2.1 22 q = nI g := by rw [zAn _ _ (by decide), zAn _ _ (by decide), a4.r22 (by omega) (by omega)]; exact r22b
  have r23c : (zA (zA τ4 25 (upd (τ4.2.2.1 25) q (b01 c))) 26 (upd ((zA τ4 25 (upd (τ4.2.2.1 25) q (b01 c))).2.2.1 26) q 0)).2.2.1 23 q = nI r := by rw [zAn _ _ (by decide), zAn _ _ (by decide), a4.r22 (by omega) (by omega)]; exact r23b
  have r24c : (zA (zA τ4 25 (upd (τ4.2.2.1 25) q (b01 c))) 26 (upd ((zA τ4 25 (upd (τ4.2.2.1 25) q (b01 c))).2.2.1 26) q 0)).2.2.1 24 q = b01 b := by rw [zAn _ _ (by decide), zAn _ _ (by decide), a4.r22 (by omega) (by omega)]; exact r24b
  have r25c : (zA (zA τ4 25 (upd (τ4.2.2.1 25) q (b01 c))) 26 (upd ((zA τ4 25 (upd (τ4.2.2.1 25) q (b01 c))).2.2.1 26) q 0)).2.2.1 25 q = b01 c := by rw [zAn _ _ (by decide), zAe, upd_at]
  have r26c : (zA (zA τ4 25 (upd (τ4.2.2.1 25) q (b01 c))) 26 (upd ((zA τ4 25 (upd (τ4.2.2.1 25) q (b01 c))).2.2.1 26) q 0)).2.2.1 26 q = 0 := by rw [zAe, upd_at]
  generalize zA (zA τ4 25 (upd (τ4.2.2.1 25) q (b01 c))) 26 (upd ((zA τ4 25 (upd (τ4.2.2.1 25) q (b01 c))).2.2.1 26) q 0) = τ5 at h5 g5 e39b r22c r23c r24c r25c r26c ⊢
  rw [r25c]
  cases c with
  | false =>
    have c42 : ¬ aIs kk 42 j1 = true := fun e => by rw [← q4'] at e; cases e
    rw [if_neg c42] at eQ
    have ej2' : j2 = j1 := ej2
    subst ej2'
    rw [if_neg (show ¬ b01 false = 1 by decide)]
    obtain ⟨x, τ6, f1, f2, f3, f4, -⟩ := q_number (h0 := h0) (qs := qs) (ks := ks) (m := m) hT h5 (by omega)
    have d6 : τ6.1 39 = nI q := (f3.s39 (by omega)).trans e39b
    rw [f1, zci_at, d6, zgd_at z6, cq]
    have r24d : τ6.2.2.1 24 q = b01 b := by rw [f3.r22 (by omega) (by omega)]; exact r24c
    rw [r24d]
    have e2 : (if b01 b = 1 then j_program_375 T (zF h0 qs ks T m) h0 qs ks k35 (nI q) (-x) τ6 else j_program_375 T (zF h0 qs ks T m) h0 qs ks k35 (nI q) x τ6) = j_program_375 T (zF h0 qs ks T m) h0 qs ks k35 (nI q) (if b = true then -x else x) τ6 := by cases b <;> rfl
    rw [e2]
    unfold j_program_375
    obtain ⟨τ', l1, l2, l3, l4, l5, l6⟩ := q_num376 (h0 := h0) (qs := qs) (ks := ks) (m := m) hf hT (by omega) k35 hq (if b = true then -x else x) d6 f2
    have eT : aTo (.inr (i + 1)) (aQt kk g r) = aTo (aTo (.inr j2) (aMs kk 2)) (aMs kk 59) := by
      rw [aTo_ok, eQ]
      exact on_st (H := fun s => aTo s (aMs kk 59)) (fun _ => rfl) (fun _ _ => on_st (H := fun s => s) (fun _ => rfl) (fun _ _ => rfl))
    refine ⟨τ', l1, l2, (g5.tr (f3.qf q)).tr l3, ?_, fun y j e => ?_⟩
    · rw [eT]; exact l4
    · rw [eQ] at e
      obtain ⟨u, j3, z1, e⟩ := on_ok e
      obtain ⟨u1, rfl⟩ := aMs_ok z1
      obtain ⟨u', j4, z2, e⟩ := on_ok e
      obtain ⟨u2, rfl⟩ := aMs_ok z2
      cases e
      have xv := f4 j2 rfl u1
      refine ⟨by omega, ?_, ?_, ?_, ?_, ?_⟩
      · rw [l5 22 (by omega) (by omega), f3.r22 (by omega) (by omega)]; exact r22c
      · rw [l5 23 (by omega) (by omega), f3.r22 (by omega) (by omega)]; exact r23c
      · rw [l5 24 (by omega) (by omega)]; exact r24d
      · rw [l5 25 (by omega) (by omega), f3.r22 (by omega) (by omega)]; exact r25c
      · rw [l6, xv]; rfl
  | true =>
    have c42 : aIs kk 42 j1 = true := q4'.symm
    rw [if_pos c42] at eQ
    have ej2' : j2 = j1 + 1 := ej2
    subst ej2'
    rw [if_pos (show b01 true = 1 from rfl)]
    obtain ⟨b3, g6, q6⟩ := q_here (h0 := h0) (qs := qs) (ks := ks) (m := m) hf hT h5 (show (506, "-", 45) ∈ zKp by decide) (by omega)
    obtain ⟨b4, g7, q7⟩ := q_here (h0 := h0) (qs := qs) (ks := ks) (m := m) hf hT h5 (show (510, "+", 43) ∈ zKp by decide) (by omega)
    have q6' : b3 = aIs kk 45 (j1 + 1) := q6
    have q7' : b4 = aIs kk 43 (j1 + 1) := q7
    -- a sign and a NUMBER
    have SN : j1 + 1 < cnt → (aIs kk 45 (j1 + 1) || aIs kk 43 (j1 + 1)) = true → ∃ τ', j_program_306 T (zF h0 qs ks T m) h0 qs ks k35 (b01 b3) τ5 = k35 τ' ∧ τ'.1 39 = nI (q + 1) ∧ rQf q τ τ' ∧ rR T len cnt kk pp ee f 0 τ' 0 0 0 0 0 (aTo (.inr (i + 1)) (aQt kk g r)) ∧ (∀ x j, aQt kk g r (i + 1) = .inr (x, j) → i < j ∧ qR T f pp ee τ' q x) := fun hlt hor => by
      rw [if_pos hor] at eQ
      have w10' : τ5.1 10 = nI (j1 + 1) := h5.2.2.2.1
      obtain ⟨p1, p2⟩ := h5.nx hlt
      unfold j_program_306
      rw [zlet_at, w10', show nI (j1 + 1) + 1 = nI (j1 + 1 + 1) by rw [nI_1]]
      obtain ⟨x, τ6, f1, f2, f3, f4, -⟩ := q_number (h0 := h0) (qs := qs) (ks := ks) (m := m) hT p1 (by omega)
      have a6 := p2.tr f3 (Nat.le_refl _) (Nat.le_refl _) (Nat.le_refl _) (Nat.le_refl _) (Nat.le_refl _)
      have d6 : τ6.1 39 = nI q := (a6.s39 (by omega)).trans e39b
      rw [f1, zci_at, d6]
      have e2 : (if b01 b3 = 0 then j_program_339 T (zF h0 qs ks T m) h0 qs ks k35 (nI q) x τ6 else j_program_339 T (zF h0 qs ks T m) h0 qs ks k35 (nI q) (-x) τ6) = j_program_339 T (zF h0 qs ks T m) h0 qs ks k35 (nI q) (if b3 = true then -x else x) τ6 := by cases b3 <;> rfl
      rw [e2]
      unfold j_program_339 j_program_340
      obtain ⟨τ', l1, l2, l3, l4, l5, l6⟩ := q_num376 (h0 := h0) (qs := qs) (ks := ks) (m := m) hf hT (by omega) k35 hq (if b3 = true then -x else x) d6 f2
      have eT : aTo (.inr (i + 1)) (aQt kk g r) = aTo (aTo (.inr (j1 + 1 + 1)) (aMs kk 2)) (aMs kk 59) := by
        rw [aTo_ok, eQ]
        exact on_st (H := fun s => aTo s (aMs kk 59)) (fun _ => rfl) (fun _ _ => on_st (H := fun s => s) (fun _ => rfl) (fun _ _ => rfl))
      refine ⟨τ', l1, l2, (g5.tr (a6.qf q)).tr l3, ?_, fun y j e => ?_⟩
      · rw [eT]; exact l4
      · rw [eQ] at e
        obtain ⟨u, j3, z1, e⟩ := on_ok e
        obtain ⟨u1, rfl⟩ := aMs_ok z1
        obtain ⟨u', j4, z2, e⟩ := on_ok e
        obtain ⟨u2, rfl⟩ := aMs_ok z2
        cases e
        have xv := f4 (j1 + 1 + 1) rfl u1
        refine ⟨by omega, ?_, ?_, ?_, ?_, ?_⟩
        · rw [l5 22 (by omega) (by omega), a6.r22 (by omega) (by omega)]; exact r22c
        · rw [l5 23 (by omega) (by omega), a6.r22 (by omega) (by omega)]; exact r23c
        · rw [l5 24 (by omega) (by omega), a6.r22 (by omega) (by omega)]; exact r24c
        · rw [l5 25 (by omega) (by omega), a6.r22 (by omega) (by omega)]; exact r25c
        · rw [l6, xv, q6']; rfl
    rw [g6, zci_at]
    cases b3 with
    | true =>
      rw [if_neg (show ¬ b01 true = 0 by decide)]
      have c45 : aIs kk 45 (j1 + 1) = true := q6'.symm
      exact SN (h5.1.lt hj2c (by decide) c45) (by rw [c45]; rfl)
    | false =>
      rw [if_pos (show b01 false = 0 from rfl), g7, zci_at]
      cases b4 with
      | true =>
        rw [if_neg (show ¬ b01 true = 0 by decide)]
        have c43 : aIs kk 43 (j1 + 1) = true := q7'.symm
        exact SN (h5.1.lt hj2c (by decide) c43) (by rw [c43, Bool.or_true])
      | false =>
        rw [if_pos (show b01 false = 0 from rfl)]
        unfold j_program_340
        have hor : ¬ (aIs kk 45 (j1 + 1) || aIs kk 43 (j1 + 1)) = true := fun e => by rw [← q6', ← q7'] at e; cases e
        rw [if_neg hor] at eQ
        obtain ⟨τ', l1, l2, l3, l4, l5⟩ := q_376 (h0 := h0) (qs := qs) (ks := ks) (m := m) hf hT (by omega) k35 hq e39b h5
        have eT : aTo (.inr (i + 1)) (aQt kk g r) = aTo (.inr (j1 + 1)) (aMs kk 59) := by
          rw [aTo_ok, eQ]
          exact on_st (H := fun s => s) (fun _ => rfl) (fun _ _ => rfl)
        refine ⟨τ', l1, l2, g5.tr l3, ?_, fun y j e => ?_⟩
        · rw [eT]; exact l4
        · rw [eQ] at e
          obtain ⟨u', j4, z2, e⟩ := on_ok e
          obtain ⟨u2, rfl⟩ := aMs_ok z2
          cases e
          refine ⟨by omega, ?_, ?_, ?_, ?_, ?_⟩
          · rw [l5 22 (by omega) (by omega)]; exact r22c
          · rw [l5 23 (by omega) (by omega)]; exact r23c
          · rw [l5 24 (by omega) (by omega)]; exact r24c
          · rw [l5 25 (by omega) (by omega)]; exact r25c
          · rw [l5 26 (by omega) (by omega)]; exact r26c
end RQV
