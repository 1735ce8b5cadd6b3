/-! formsOf() of the reference: ARGS, and all -/
section RFR
variable {ks : Nat → Nat} {qs : List Nat} {T h0 len cnt lo N S P A : Nat} {L env : List Nat} {V τ : zSt} {kk pp ee f : Nat → Int32} {g : gG} {ρ tE tN : Nat → tY} {d : Nat × Nat × Nat × tS × tS} {z : Unit} {a b : tT}
theorem rf_arZ : rFar ks qs T h0 cnt lo N S P A L V kk pp ee f g ρ tE tN .leaf := fun env m x u k cn n fu τ q hm h10 h11 hu tr wf ht fm hq hn hn2 hf => by
  obtain ⟨fu, rfl⟩ : ∃ f', fu = f' + 1 := ⟨fu - 1, by omega⟩
  have tr : x + u = x + k := tr
  have hk : k = u := by omega
  subst hk
  have e11 := (fm.r (k := 11) (by decide) (by decide) m).trans h11
  unfold l_formsOf_350
  simp only [zgd, zin_n hm (by decide), if_true, nI_clamp (show m < 2 ^ 31 by omega), e11]
  rw [if_pos (Int32.le_refl _)]
  exact ⟨τ, rfl, fm, hq⟩
set_option maxHeartbeats 1000000 in
theorem rf_ar35 (H : rFh T len cnt N S P A L V kk pp ee f g ρ tN) (Ib : rFar ks qs T h0 cnt lo N S P A L V kk pp ee f g ρ tE tN b) (ha : a = .leaf) (hd : d.2.1 ≤ 1) (wb : tWf kk cnt b 2) : rFar ks qs T h0 cnt lo N S P A L V kk pp ee f g ρ tE tN (.inner 35 d z a b) := fun env m x u k cn n fu τ q hm h10 h11 hu tr wf ht fm hq hn hn2 hf => by
  obtain ⟨gd, wo, ev, nc⟩ := ht
  obtain ⟨fu, rfl⟩ : ∃ f', fu = f' + 1 := ⟨fu - 1, by omega⟩
  have hqn := rTr_qn _ _ _ wf tr
  have hqn : x + u = x + k + (tQn b + 1) := hqn
  have hf : tQn b + 1 < fu + 1 := hf
  have e11 := (fm.r (k := 11) (by decide) (by decide) m).trans h11
  have e10 := (fm.r (k := 10) (by decide) (by decide) m).trans h10
  have ek : nI x + nI k = nI (x + k) := nI_add x k
  have c11 : ¬ nI u ≤ nI k := nI_ge (by omega) (by omega)
  have hn : 10 + max (tDr a) (tDr b) ≤ n := hn
  have hn2 : 1610 + max (tH a) (tH b) ≤ n := hn2
  have wo : rWs f pp ee (V.2.2.1 32) L env (sEv d.2.2.2.1.2) ∧ rWs f pp ee (V.2.2.1 32) L env (sEv d.2.2.2.2.2) ∧ rWo f pp ee (V.2.2.1 32) L a env ∧ rWo f pp ee (V.2.2.1 32) L b env := wo
  have ev : (env.length ≤ 12 ∧ ∀ u, u ∈ env → u ∈ L) ∧ rEv L a env ∧ rEv L b env := ev
  have nb : ∀ τ q, fFm V τ → fQ τ q → (∀ p, p ∈ nE V b (x + (k + 1)) 0 → nC V g ρ tE p) → rTr pp V lo N S P A b 0 (x + (k + 1)) (x + u) → ∃ τ', j_formsOf_448 T (zF h0 qs ks T n) h0 qs ks (l_formsOf_350 T (zF h0 qs ks T n) h0 qs ks fu) (nI m) cn (nI k) τ = some (none, τ') ∧ fFm V τ' ∧ fQ τ' (rFo f pp ee tE tN b env cn q) := fun τ q fm hq hp tb => by
    unfold j_formsOf_448
    rw [show nI k + 1 = nI (k + 1) from (nI_add k 1 ▸ rfl)]
    exact Ib env m x u (k + 1) cn n fu τ q hm h10 h11 hu tb wb ⟨gd.2.2.2.2, wo.2.2.2, ev.2.2, hp⟩ fm hq (by omega) (by omega) (by omega)
  obtain ⟨⟨t0, t1, t2⟩, tb⟩ := tr
  have hA := H.1.2.2.2.2
  have e19 : τ.2.2.1 19 (x + k) = nI (3 - d.2.1) := (fm.r (k := 19) (by decide) (by decide) (x + k)).trans t1
  obtain ⟨τ1, b1, b2, b3⟩ := nb τ q fm hq nc tb
  have d1 : ¬ nI (3 - d.2.1) = 1 := fun h => by
    have := nI_inj' (b := 1) (by omega) (by decide) h
    omega
  have d0 : ¬ nI (3 - d.2.1) = 0 := fun h => by
    have := nI_inj' (b := 0) (by omega) (by decide) h
    omega
  unfold l_formsOf_350
  simp only [zgd, zin_n hm (by decide), if_true, nI_clamp (show m < 2 ^ 31 by omega), e11, if_neg c11, e10, ek, zin_n (show x + k < 2100 by omega) (by decide), nI_clamp (show x + k < 2 ^ 31 by omega), e19, if_neg d1, if_neg d0, b1]
  subst ha
  exact ⟨τ1, rfl, b2, b3⟩
set_option maxHeartbeats 1000000 in
theorem rf_ar34 (H : rFh T len cnt N S P A L V kk pp ee f g ρ tN) (Ia : rFrm ks qs T h0 cnt lo N S P A L V kk pp ee f g ρ tE tN a) (Ib : rFar ks qs T h0 cnt lo N S P A L V kk pp ee f g ρ tE tN b) (wa : tWf kk cnt a 0) (wb : tWf kk cnt b 2) : rFar ks qs T h0 cnt lo N S P A L V kk pp ee f g ρ tE tN (.inner 34 d z a b) := fun env m x u k cn n fu τ q hm h10 h11 hu tr wf ht fm hq hn hn2 hf => by
  obtain ⟨gd, wo, ev, nc⟩ := ht
  obtain ⟨fu, rfl⟩ : ∃ f', fu = f' + 1 := ⟨fu - 1, by omega⟩
  have hqn := rTr_qn _ _ _ wf tr
  have hqn : x + u = x + k + (tQn b + 1) := hqn
  have hf : tQn b + 1 < fu + 1 := hf
  have e11 := (fm.r (k := 11) (by decide) (by decide) m).trans h11
  have e10 := (fm.r (k := 10) (by decide) (by decide) m).trans h10
  have ek : nI x + nI k = nI (x + k) := nI_add x k
  have c11 : ¬ nI u ≤ nI k := nI_ge (by omega) (by omega)
  have hn : 10 + max (tDr a) (tDr b) ≤ n := hn
  have hn2 : 1610 + max (tH a) (tH b) ≤ n := hn2
  have wo : rWs f pp ee (V.2.2.1 32) L env (sEv d.2.2.2.1.2) ∧ rWs f pp ee (V.2.2.1 32) L env (sEv d.2.2.2.2.2) ∧ rWo f pp ee (V.2.2.1 32) L a env ∧ rWo f pp ee (V.2.2.1 32) L b env := wo
  have ev : (env.length ≤ 12 ∧ ∀ u, u ∈ env → u ∈ L) ∧ rEv L a env ∧ rEv L b env := ev
  have nb : ∀ τ q, fFm V τ → fQ τ q → (∀ p, p ∈ nE V b (x + (k + 1)) 0 → nC V g ρ tE p) → rTr pp V lo N S P A b 0 (x + (k + 1)) (x + u) → ∃ τ', j_formsOf_448 T (zF h0 qs ks T n) h0 qs ks (l_formsOf_350 T (zF h0 qs ks T n) h0 qs ks fu) (nI m) cn (nI k) τ = some (none, τ') ∧ fFm V τ' ∧ fQ τ' (rFo f pp ee tE tN b env cn q) := fun τ q fm hq hp tb => by
    unfold j_formsOf_448
    rw [show nI k + 1 = nI (k + 1) from (nI_add k 1 ▸ rfl)]
    exact Ib env m x u (k + 1) cn n fu τ q hm h10 h11 hu tb wb ⟨gd.2.2.2.2, wo.2.2.2, ev.2.2, hp⟩ fm hq (by omega) (by omega) (by omega)
  obtain ⟨⟨t0, t1, t2, y, t3, ta⟩, tb⟩ := tr
  have hA := H.1.2.2.2.2
  have hy : y < 2100 := by have := (rTr_fw ta wa).1; have := H.1.2.1; omega
  have e19 : τ.2.2.1 19 (x + k) = 1 := (fm.r (k := 19) (by decide) (by decide) (x + k)).trans t1
  have e20 : τ.2.2.1 20 (x + k) = nI y := (fm.r (k := 20) (by decide) (by decide) (x + k)).trans t3
  have nc : ∀ p, p ∈ nE V a 0 (V.2.2.1 20 (x + k)).toNatClampNeg ++ nE V b (x + (k + 1)) 0 → nC V g ρ tE p := nc
  rw [show V.2.2.1 20 (x + k) = nI y from t3, nI_clamp (by omega)] at nc
  obtain ⟨τ1, a1, a2, a3⟩ := Ia env y cn n τ q ta wa ⟨gd.2.2.2.1, wo.2.2.1, ev.2.1, fun p hp => nc p (List.mem_append_left _ hp)⟩ fm hq (by omega) (by omega)
  obtain ⟨τ2, b1, b2, b3⟩ := nb τ1 _ a2 a3 (fun p hp => nc p (List.mem_append_right _ hp)) tb
  unfold l_formsOf_350
  simp only [zgd, zin_n hm (by decide), if_true, nI_clamp (show m < 2 ^ 31 by omega), e11, if_neg c11, e10, ek, zin_n (show x + k < 2100 by omega) (by decide), nI_clamp (show x + k < 2 ^ 31 by omega), e19, e20, a1, zcv_at, b1]
  exact ⟨τ2, rfl, b2, b3⟩
set_option maxHeartbeats 1000000 in
theorem rf_ar33 (H : rFh T len cnt N S P A L V kk pp ee f g ρ tN) (Ib : rFar ks qs T h0 cnt lo N S P A L V kk pp ee f g ρ tE tN b) (ha : a = .leaf) (hp : pOk cnt d.2.2.2.1.2) (wb : tWf kk cnt b 2) : rFar ks qs T h0 cnt lo N S P A L V kk pp ee f g ρ tE tN (.inner 33 d z a b) := fun env m x u k cn n fu τ q hm h10 h11 hu tr wf ht fm hq hn hn2 hf => by
  obtain ⟨gd, wo, ev, nc⟩ := ht
  obtain ⟨fu, rfl⟩ : ∃ f', fu = f' + 1 := ⟨fu - 1, by omega⟩
  have hqn := rTr_qn _ _ _ wf tr
  have hqn : x + u = x + k + (tQn b + 1) := hqn
  have hf : tQn b + 1 < fu + 1 := hf
  have e11 := (fm.r (k := 11) (by decide) (by decide) m).trans h11
  have e10 := (fm.r (k := 10) (by decide) (by decide) m).trans h10
  have ek : nI x + nI k = nI (x + k) := nI_add x k
  have c11 : ¬ nI u ≤ nI k := nI_ge (by omega) (by omega)
  have hn : 10 + max (tDr a) (tDr b) ≤ n := hn
  have hn2 : 1610 + max (tH a) (tH b) ≤ n := hn2
  have wo : rWs f pp ee (V.2.2.1 32) L env (sEv d.2.2.2.1.2) ∧ rWs f pp ee (V.2.2.1 32) L env (sEv d.2.2.2.2.2) ∧ rWo f pp ee (V.2.2.1 32) L a env ∧ rWo f pp ee (V.2.2.1 32) L b env := wo
  have ev : (env.length ≤ 12 ∧ ∀ u, u ∈ env → u ∈ L) ∧ rEv L a env ∧ rEv L b env := ev
  have nb : ∀ τ q, fFm V τ → fQ τ q → (∀ p, p ∈ nE V b (x + (k + 1)) 0 → nC V g ρ tE p) → rTr pp V lo N S P A b 0 (x + (k + 1)) (x + u) → ∃ τ', j_formsOf_448 T (zF h0 qs ks T n) h0 qs ks (l_formsOf_350 T (zF h0 qs ks T n) h0 qs ks fu) (nI m) cn (nI k) τ = some (none, τ') ∧ fFm V τ' ∧ fQ τ' (rFo f pp ee tE tN b env cn q) := fun τ q fm hq hp tb => by
    unfold j_formsOf_448
    rw [show nI k + 1 = nI (k + 1) from (nI_add k 1 ▸ rfl)]
    exact Ib env m x u (k + 1) cn n fu τ q hm h10 h11 hu tb wb ⟨gd.2.2.2.2, wo.2.2.2, ev.2.2, hp⟩ fm hq (by omega) (by omega) (by omega)
  obtain ⟨⟨t0, t1, t2, y, t3, ts⟩, tb⟩ := tr
  have hA := H.1.2.2.2.2
  have e19 : τ.2.2.1 19 (x + k) = 0 := (fm.r (k := 19) (by decide) (by decide) (x + k)).trans t1
  have e20 : τ.2.2.1 20 (x + k) = nI y := (fm.r (k := 20) (by decide) (by decide) (x + k)).trans t3
  have e21 : τ.2.2.1 21 (x + k) = pp d.1 := (fm.r (k := 21) (by decide) (by decide) (x + k)).trans t2
  obtain ⟨g1, g2⟩ := gd.2.1 rfl
  obtain ⟨w, p1, p2, p3, p4⟩ := H.2.1.par (by have := H.1.1; omega) g1
  have e1 : τ.2.2.1 1 w = f w := (fm.r (k := 1) (by decide) (by decide) w).trans (congrFun H.2.1.1 w)
  have nc : ∀ p, p ∈ nE V b (x + (k + 1)) 0 → nC V g ρ tE p := nc
  have n01 : ¬ (0 : Int32) = 1 := by decide
  rcases g2 with ⟨q1, q2⟩ | ⟨q1, q2⟩
  · have f40 := p3 q2
    obtain ⟨n, rfl⟩ : ∃ n', n = n' + 3 := ⟨n - 3, by omega⟩
    have fm32 : τ.2.2.1 32 = V.2.2.1 32 := fm.2.2.1 32 (by decide) (by decide)
    obtain ⟨τ1, a1, a2, a3, a4⟩ := r_isTerm (h0 := h0) (qs := qs) (ks := ks) (n := n) ((H.lh ev.1).kp fm) (gFm.rf τ) hp gd.1.1 (by rw [fm32]; exact wo.1) (fm.sm ts)
    have f1 : fFm V τ1 := fm.tr a3.f
    have h1 : fQ τ1 q := hq.kp a3
    have e21' : τ1.2.2.1 21 (x + k) = pp d.1 := (f1.r (k := 21) (by decide) (by decide) (x + k)).trans t2
    by_cases c5 : sTe (sL (nFind f pp ee env) d.2.2.2.1.2) = true
    · obtain ⟨τ2, b1, b2, b3⟩ := nb τ1 _ f1 h1 nc tb
      rw [c5] at a1
      unfold l_formsOf_350
      simp only [zgd, zin_n hm (by decide), if_true, nI_clamp (show m < 2 ^ 31 by omega), e11, if_neg c11, e10, ek, zin_n (show x + k < 2100 by omega) (by decide), nI_clamp (show x + k < 2 ^ 31 by omega), e19, if_neg n01, e21, p1, zin_n p2 (by decide), nI_clamp (show w < 2 ^ 31 by omega), e1, f40, e20, a1, zci_at, show ¬ b01 true = 0 by decide, if_false, b1]
      refine ⟨τ2, rfl, b2, ?_⟩
      have : rFo f pp ee tE tN (.inner 33 d z a b) env cn q = rFo f pp ee tE tN b env cn q := by
        show rFo f pp ee tE tN b env cn (if d.2.1 = 1 ∧ ¬ sTe (sL (nFind f pp ee env) d.2.2.2.1.2) = true then (q.1, fMin q.2 (pp d.1)) else q) = _
        rw [if_neg (fun z => z.2 c5)]
      rw [this]
      exact b3
    · obtain ⟨w1, w2⟩ := h1.w f1 (pp d.1)
      obtain ⟨τ2, b1, b2, b3⟩ := nb _ _ w2 w1 nc tb
      rw [Bool.eq_false_iff.mpr c5] at a1
      have r5 := r_wrong5 (h0 := h0) (qs := qs) (ks := ks) (T := T) (n := n + 2) (τ := τ1) (H.2.2.2.1 d.1)
      rw [p1] at r5 b1 e21'
      unfold l_formsOf_350
      simp only [zgd, zin_n hm (by decide), if_true, nI_clamp (show m < 2 ^ 31 by omega), e11, if_neg c11, e10, ek, zin_n (show x + k < 2100 by omega) (by decide), nI_clamp (show x + k < 2 ^ 31 by omega), e19, if_neg n01, e21, p1, zin_n p2 (by decide), nI_clamp (show w < 2 ^ 31 by omega), e1, f40, e20, a1, zci_at, show b01 false = 0 from rfl, if_true, e21', r5, zcv_at, b1]
      refine ⟨τ2, rfl, b2, ?_⟩
      have : rFo f pp ee tE tN (.inner 33 d z a b) env cn q = rFo f pp ee tE tN b env cn (q.1, fMin q.2 (pp d.1)) := by
        show rFo f pp ee tE tN b env cn (if d.2.1 = 1 ∧ ¬ sTe (sL (nFind f pp ee env) d.2.2.2.1.2) = true then (q.1, fMin q.2 (pp d.1)) else q) = _
        rw [if_pos ⟨q1, c5⟩]
      rw [this]
      exact b3
  · have f40 := p4 q2
    obtain ⟨τ2, b1, b2, b3⟩ := nb τ _ fm hq nc tb
    unfold l_formsOf_350
    simp only [zgd, zin_n hm (by decide), if_true, nI_clamp (show m < 2 ^ 31 by omega), e11, if_neg c11, e10, ek, zin_n (show x + k < 2100 by omega) (by decide), nI_clamp (show x + k < 2 ^ 31 by omega), e19, if_neg n01, e21, p1, zin_n p2 (by decide), nI_clamp (show w < 2 ^ 31 by omega), e1, if_neg f40, b1]
    refine ⟨τ2, rfl, b2, ?_⟩
    have : rFo f pp ee tE tN (.inner 33 d z a b) env cn q = rFo f pp ee tE tN b env cn q := by
      show rFo f pp ee tE tN b env cn (if d.2.1 = 1 ∧ ¬ sTe (sL (nFind f pp ee env) d.2.2.2.1.2) = true then (q.1, fMin q.2 (pp d.1)) else q) = _
      rw [if_neg (fun z => by omega)]
    rw [this]
    exact b3
set_option maxHeartbeats 1000000 in
theorem rf_15 (H : rFh T len cnt N S P A L V kk pp ee f g ρ tN) (h15 : tQn a ≤ 4) (Ia : rFar ks qs T h0 cnt lo N S P A L V kk pp ee f g ρ tE tN a) (wa : tWf kk cnt a 2) : rFrm ks qs T h0 cnt lo N S P A L V kk pp ee f g ρ tE tN (.inner 15 d z a b) := fun env m cn n τ q tr wf ht fm hq hn hn2 => by
  obtain ⟨gd, wo, ev, nc⟩ := ht
  obtain ⟨n, rfl⟩ : ∃ n', n = n' + 1 := ⟨n - 1, by omega⟩
  obtain rfl : b = .leaf := gd.2.2.1.2.2 (Or.inr (Or.inr rfl))
  obtain ⟨t0, t3, x, u, ⟨t1, t2⟩, ta⟩ := tr
  have hm : m < 2100 := by have := t0.1.2; have := H.1.2.1; omega
  have hqn := rTr_qn _ _ _ wa ta
  have ez : nE V a (V.2.2.1 10 m).toNatClampNeg 0 = nE V a (x + 0) 0 := by
    cases a with
    | leaf => rfl
    | inner g' d' z' a' b' =>
      have : x < A := by
        rcases wa with ⟨h, _⟩ | ⟨_, _, _, hg⟩ | ⟨h, _⟩
        · cases h
        · rcases hg with ⟨rfl, _⟩ | ⟨rfl, _⟩ | ⟨rfl, _⟩
          · exact ta.1.1
          · exact ta.1.1
          · exact ta.1.1
        · cases h
      rw [show V.2.2.1 10 m = nI x from t1, nI_clamp (by have := H.1.2.2.2.2; omega)]
      rfl
  have nc : ∀ p, p ∈ (m, d.1) :: nE V a (V.2.2.1 10 m).toNatClampNeg 0 → nC V g ρ tE p := nc
  rw [ez] at nc
  have wo : rUs f pp ee (V.2.2.1 32) L env d.1 ∧ rWo f pp ee (V.2.2.1 32) L a env := wo
  have ev : (env.length ≤ 12 ∧ ∀ u, u ∈ env → u ∈ L) ∧ rEv L a env ∧ rEv L _ env := ev
  have hn : 10 + (max (tDr a) (tDr .leaf) + 3) ≤ n + 1 := hn
  have hn2 : 1610 + (max (tH a) (tH .leaf) + 1) ≤ n + 1 := hn2
  have hT := H.1.1
  obtain ⟨τ2, b1, b2, b3⟩ := Ia env m x u 0 cn n T τ q hm t1 t2 (by omega) ta wa ⟨gd.2.2.2.1, wo.2, ev.2.1, fun p hp => nc p (List.mem_cons_of_mem _ hp)⟩ fm hq (by omega) (by omega) (by omega)
  rw [show nI 0 = 0 from rfl] at b1
  rw [zE_formsOf]
  unfold b_formsOf
  have e6 := (fm.r (k := 6) (by decide) (by decide) m).trans t0.2.1
  simp only [zgd, zin_n hm (by decide), if_true, nI_clamp (show m < 2 ^ 31 by omega), e6, b1]
  rw [if_neg (by decide), if_neg (by decide), if_neg (by decide), if_neg (by decide), if_neg (by decide), if_neg (by decide), if_neg (by decide), if_neg (by decide), if_neg (by decide), if_neg (by decide), if_neg (by decide), if_neg (by decide), if_neg (by decide), if_neg (by decide), if_pos (by decide)]
  exact ⟨τ2, rfl, b2, b3⟩
/-- **formsOf()** -/
theorem r_frm (H : rFh T len cnt N S P A L V kk pp ee f g ρ tN) : ∀ (t : tT), tA3 pp t → tGd kk cnt t → rFrm ks qs T h0 cnt lo N S P A L V kk pp ee f g ρ tE tN t ∧ rFar ks qs T h0 cnt lo N S P A L V kk pp ee f g ρ tE tN t ∧ ∀ tg d z a b, t = .inner tg d z a b → tg = 31 → rFrm ks qs T h0 cnt lo N S P A L V kk pp ee f g ρ tE tN a ∧ rFrm ks qs T h0 cnt lo N S P A L V kk pp ee f g ρ tE tN b
  | .leaf, _, _ => ⟨fun env m cn n τ q tr wf => (by cases wf), rf_arZ, fun _ _ _ _ _ e => (by cases e)⟩
  | .inner g' d z a b, h3, hG => by
    obtain ⟨-, h15, ha, hb⟩ := h3
    obtain ⟨-, -, ⟨-, g14, -⟩, ga, gb⟩ := id hG
    have Ib := r_frm H b hb gb
    have Ia : ¬ (g' = 4 ∨ g' = 5) → rFrm ks qs T h0 cnt lo N S P A L V kk pp ee f g ρ tE tN a ∧ rFar ks qs T h0 cnt lo N S P A L V kk pp ee f g ρ tE tN a ∧ _ := fun c => r_frm H a (by rw [if_neg c] at ha; exact ha) ga
    refine ⟨fun env m cn n τ q tr wf => ?_, fun env m x u k cn n fu τ q hm h10 h11 hu tr wf => ?_, fun tg d' z' a' b' e h31 => ?_⟩
    · rcases id wf with ⟨h, _⟩ | ⟨h, _⟩ | ⟨_, h⟩
      · cases h
      · cases h
      · rcases h with ⟨rfl, _, wa, wb⟩ | ⟨rfl, ⟨_, w2, _⟩, wa, wb⟩ | ⟨rfl, _, wa⟩ | ⟨rfl, wc, wb⟩ | ⟨rfl, wc, wb⟩ | ⟨rfl, _, _, wa⟩ | ⟨h7, _, _, hab⟩ | ⟨h7, _, hab⟩ | ⟨h7, _, hab⟩ | ⟨rfl, _⟩ | ⟨rfl, _, wa⟩ | ⟨rfl, _, wa, hb⟩ | ⟨rfl, _⟩ | ⟨rfl, _, wa, wb⟩
        · exact rf_1 H (Ia (by decide)).1 Ib.1 wa wb env m cn n τ q tr wf
        · exact rf_2 H (Ia (by decide)).1 Ib.1 wa wb w2 env m cn n τ q tr wf
        · exact rf_3 H (Ia (by decide)).1 wa env m cn n τ q tr wf
        · match b, wb, Ib, tr, wf with
          | .leaf, wb, _, _, _ => cases wb
          | .inner g' d' z' b1 b2, wb, Ib, tr, wf =>
            rcases wb with ⟨_, rfl, _, w1, w2⟩ | ⟨h, _⟩ | ⟨h, _⟩
            · have I2 := Ib.2.2 31 d' z' b1 b2 rfl rfl
              exact rf_4 H I2.1 I2.2 wc w1 w2 env m cn n τ q tr wf
            · cases h
            · cases h
        · exact rf_5 H Ib.1 wc wb env m cn n τ q tr wf
        · exact rf_6 H (Ia (by decide)).1 wa env m cn n τ q tr wf
        · exact rf_0 (by omega) H hab env m cn n τ q tr wf
        · exact rf_0 (by omega) H hab env m cn n τ q tr wf
        · exact rf_0 (by omega) H hab env m cn n τ q tr wf
        · exact rf_0 (by omega) H (g14 (Or.inl rfl)) env m cn n τ q tr wf
        · exact rf_15 H (h15 rfl) (Ia (by decide)).2.1 wa env m cn n τ q tr wf
        · exact rf_16 H (Ia (by decide)).1 wa hb env m cn n τ q tr wf
        · exact rf_0 (by omega) H (g14 (Or.inr rfl)) env m cn n τ q tr wf
        · exact rf_19 H (Ia (by decide)).1 Ib.1 wa wb env m cn n τ q tr wf
    · rcases id wf with ⟨h, _⟩ | ⟨_, _, wb, h⟩ | ⟨h, _⟩
      · cases h
      · rcases h with ⟨rfl, hp, ha⟩ | ⟨rfl, _, wa⟩ | ⟨rfl, _, ha, hd⟩
        · exact rf_ar33 H Ib.2.1 ha hp wb env m x u k cn n fu τ q hm h10 h11 hu tr wf
        · exact rf_ar34 H (Ia (by decide)).1 Ib.2.1 wa wb env m x u k cn n fu τ q hm h10 h11 hu tr wf
        · exact rf_ar35 H Ib.2.1 ha hd wb env m x u k cn n fu τ q hm h10 h11 hu tr wf
      · cases h
    · cases e
      subst h31
      exact ⟨(Ia (by decide)).1, Ib.1⟩
end RFR
