/-! formsOf() of the reference: the rest -/
section RFR
variable {ks : Nat → Nat} {qs : List Nat} {T h0 len cnt lo N S P A : Nat} {L env : List Nat} {V τ : zSt} {kk pp ee f : Nat → Int32} {g : gG} {ρ tE tN : Nat → tY} {d : Nat × Nat × Nat × tS × tS} {z : Unit} {a b : tT}
set_option maxHeartbeats 1000000 in
/-- the ATOMS of an if or an assert -/
theorem rf_260 {m n w x : Nat} {cn : Int32} {q : Nat × Int32} (H : rFh T len cnt N S P A L V kk pp ee f g ρ tN) (hm : m < 2100) (he : env.length ≤ 12 ∧ ∀ u, u ∈ env → u ∈ L) (wf : cWf cnt a false) (hg : tGd kk cnt a) (hu : rWs f pp ee (V.2.2.1 32) L env (cEv a)) (t8 : V.2.2.1 8 m = pp w) (t9 : V.2.2.1 9 m = nI x) (ta : rTr pp V lo N S P A a 0 0 x) (fm : fFm V τ) (hq : fQ τ q) (hn : 4 + kD a ≤ n) : ∃ τ2, j_formsOf_260 T (zF h0 qs ks T n) h0 qs ks (nI m) cn τ = (zcv (zF h0 qs ks T n 63 [.ref h0, .int (τ2.2.2.1 11 m), .int (cn + nI (tAt a))] τ2) fun s5 => if (s5.2.2.1 6 m) = 4 then zcv (zF h0 qs ks T n 63 [.ref h0, .int (s5.2.2.1 12 m), .int (cn + nI (tAt a))] s5) fun s10 => some (none, s10) else some (none, s5)) ∧ fFm V τ2 ∧ fQ τ2 ((fun q2 : Nat × Int32 => (q2.1, fCt pp (nFind f pp ee env) a q2.2)) (if cn + nI (tAt a) ≤ 6 then q else (q.1, fMin q.2 (pp w)))) := by
  have r1 := r_count (h0 := h0) (qs := qs) (ks := ks) (T := T) H.1.2.1 a x wf ta n τ (by omega) fm
  have e9 := (fm.r (k := 9) (by decide) (by decide) m).trans t9
  have e8 := (fm.r (k := 8) (by decide) (by decide) m).trans t8
  unfold j_formsOf_260
  simp only [zgd, zin_n hm (by decide), if_true, nI_clamp (show m < 2 ^ 31 by omega), e9, r1, zci_at]
  have go : ∀ τ1 q1, fFm V τ1 → fQ τ1 q1 → ∃ τ2, j_formsOf_289 T (zF h0 qs ks T n) h0 qs ks (nI m) (cn + nI (tAt a)) τ1 = (zcv (zF h0 qs ks T n 63 [.ref h0, .int (τ2.2.2.1 11 m), .int (cn + nI (tAt a))] τ2) fun s5 => if (s5.2.2.1 6 m) = 4 then zcv (zF h0 qs ks T n 63 [.ref h0, .int (s5.2.2.1 12 m), .int (cn + nI (tAt a))] s5) fun s10 => some (none, s10) else some (none, s5)) ∧ fFm V τ2 ∧ fQ τ2 (q1.1, fCt pp (nFind f pp ee env) a q1.2) := fun τ1 q1 f1 h1 => by
    obtain ⟨τ2, b1, b2, b3, b4⟩ := r_fcond (h0 := h0) (qs := qs) (ks := ks) H.1.2.1 H.2.2.2.1 (H.lh he) a x wf hg hu ta n τ1 hn f1
    have e9 := (f1.r (k := 9) (by decide) (by decide) m).trans t9
    unfold j_formsOf_289
    simp only [zgd, zin_n hm (by decide), if_true, nI_clamp (show m < 2 ^ 31 by omega), e9, b1, zcv_at]
    exact ⟨τ2, rfl, b2, b4.trans h1.1, by rw [b3, h1.2.1], h1.2.2⟩
  by_cases c6 : cn + nI (tAt a) ≤ 6
  · rw [if_pos c6, if_pos c6]
    exact go τ q fm hq
  · rw [if_neg c6, if_neg c6]
    obtain ⟨n, rfl⟩ : ∃ n', n = n' + 1 := ⟨n - 1, by omega⟩
    rw [e8, r_wrong5 (H.2.2.2.1 w), zcv_at]
    obtain ⟨w1, w2⟩ := hq.w fm (pp w)
    exact go _ _ w2 w1
set_option maxHeartbeats 1000000 in
theorem rf_4 {d' : Nat × Nat × Nat × tS × tS} {z' : Unit} {b1 b2 : tT} (H : rFh T len cnt N S P A L V kk pp ee f g ρ tN) (I1 : rFrm ks qs T h0 cnt lo N S P A L V kk pp ee f g ρ tE tN b1) (I2 : rFrm ks qs T h0 cnt lo N S P A L V kk pp ee f g ρ tE tN b2) (wc : cWf cnt a false) (wa : tWf kk cnt b1 0) (wb : tWf kk cnt b2 0) : rFrm ks qs T h0 cnt lo N S P A L V kk pp ee f g ρ tE tN (.inner 4 d z a (.inner 31 d' z' b1 b2)) := fun env m cn n τ q tr wf ht fm hq hn hn2 => by
  obtain ⟨gd, wo, ev, nc⟩ := ht
  obtain ⟨n, rfl⟩ : ∃ n', n = n' + 1 := ⟨n - 1, by omega⟩
  obtain ⟨t0, t8, x, y, y', ⟨t9, t1, t2⟩, tc, ta, tb⟩ := tr
  have hm : m < 2100 := by have := t0.1.2; have := H.1.2.1; omega
  have hx : y < 2100 := by have := (rTr_fw ta wa).1; have := H.1.2.1; omega
  have hy : y' < 2100 := by have := (rTr_fw tb wb).1; have := H.1.2.1; omega
  have nc : ∀ p, p ∈ (m, d.1) :: (nE V b1 0 (V.2.2.1 11 m).toNatClampNeg ++ nE V b2 0 (V.2.2.1 12 m).toNatClampNeg) → nC V g ρ tE p := nc
  rw [show V.2.2.1 11 m = nI y from t1, show V.2.2.1 12 m = nI y' from t2, nI_clamp (by omega), nI_clamp (by omega)] at nc
  have wo : rWs f pp ee (V.2.2.1 32) L env (cEv a) ∧ rWs f pp ee (V.2.2.1 32) L env (sEv d'.2.2.2.1.2) ∧ rWs f pp ee (V.2.2.1 32) L env (sEv d'.2.2.2.2.2) ∧ rWo f pp ee (V.2.2.1 32) L b1 env ∧ rWo f pp ee (V.2.2.1 32) L b2 env := wo
  have ev : (env.length ≤ 12 ∧ ∀ u, u ∈ env → u ∈ L) ∧ (env.length ≤ 12 ∧ ∀ u, u ∈ env → u ∈ L) ∧ rEv L b1 env ∧ rEv L b2 env := ev
  have hn : 10 + (max (kD a) (max (tDr b1) (tDr b2)) + 3) ≤ n + 1 := hn
  have hn2 : 1610 + (max (tH b1) (tH b2) + 1) ≤ n + 1 := hn2
  have gb := gd.2.2.2.2
  obtain ⟨τ1, a1, a2, a3⟩ := rf_w (h0 := h0) (qs := qs) (ks := ks) (n := n) H (nc _ (List.mem_cons_self ..)) fm hq (by omega)
  obtain ⟨τ2, l1, l2, l3⟩ := rf_260 (h0 := h0) (qs := qs) (ks := ks) (n := n) (cn := cn) H hm ev.1 wc gd.2.2.2.1 wo.1 t8 t9 tc a2 a3 (by omega)
  obtain ⟨τ3, x1, x2, x3⟩ := I1 env y (cn + nI (tAt a)) n τ2 _ ta wa ⟨gb.2.2.2.1, wo.2.2.2.1, ev.2.2.1, fun p hp => nc p (List.mem_cons_of_mem _ (List.mem_append_left _ hp))⟩ l2 l3 (by omega) (by omega)
  obtain ⟨τ4, y1, y2, y3⟩ := I2 env y' (cn + nI (tAt a)) n τ3 _ tb wb ⟨gb.2.2.2.2, wo.2.2.2.2, ev.2.2.2, fun p hp => nc p (List.mem_cons_of_mem _ (List.mem_append_right _ hp))⟩ x2 x3 (by omega) (by omega)
  rw [zE_formsOf]
  unfold b_formsOf
  have e6 := (fm.r (k := 6) (by decide) (by decide) m).trans t0.2.1
  have e7 := (fm.r (k := 7) (by decide) (by decide) m).trans t0.2.2
  have e39 := fm.r (k := 39) (by decide) (by decide) m
  have e11 := (l2.r (k := 11) (by decide) (by decide) m).trans t1
  have e6' := (x2.r (k := 6) (by decide) (by decide) m).trans t0.2.1
  have e12 := (x2.r (k := 12) (by decide) (by decide) m).trans t2
  simp only [zgd, zin_n hm (by decide), if_true, nI_clamp (show m < 2 ^ 31 by omega), e6, e7, e39, a1, zcv_at, l1, e11, x1, e6', e12, y1]
  rw [if_neg (by decide), if_neg (by decide), if_neg (by decide), if_pos (by decide), if_pos (by decide)]
  exact ⟨τ4, rfl, y2, y3⟩
set_option maxHeartbeats 1000000 in
theorem rf_5 (H : rFh T len cnt N S P A L V kk pp ee f g ρ tN) (Ib : rFrm ks qs T h0 cnt lo N S P A L V kk pp ee f g ρ tE tN b) (wc : cWf cnt a false) (wb : tWf kk cnt b 0) : rFrm ks qs T h0 cnt lo N S P A L V kk pp ee f g ρ tE tN (.inner 5 d z a b) := fun env m cn n τ q tr wf ht fm hq hn hn2 => by
  obtain ⟨gd, wo, ev, nc⟩ := ht
  obtain ⟨n, rfl⟩ : ∃ n', n = n' + 1 := ⟨n - 1, by omega⟩
  obtain ⟨t0, t8, x, y, ⟨t9, t1⟩, tc, ta⟩ := tr
  have hm : m < 2100 := by have := t0.1.2; have := H.1.2.1; omega
  have hx : y < 2100 := by have := (rTr_fw ta wb).1; have := H.1.2.1; omega
  have nc : ∀ p, p ∈ (m, d.1) :: nE V b 0 (V.2.2.1 11 m).toNatClampNeg → nC V g ρ tE p := nc
  rw [show V.2.2.1 11 m = nI y from t1, nI_clamp (by omega)] at nc
  have wo : rWs f pp ee (V.2.2.1 32) L env (cEv a) ∧ rWo f pp ee (V.2.2.1 32) L b env := wo
  have ev : (env.length ≤ 12 ∧ ∀ u, u ∈ env → u ∈ L) ∧ rEv L b env := ev
  have hn : 10 + (max (kD a) (tDr b) + 3) ≤ n + 1 := hn
  have hn2 : 1610 + (tH b + 1) ≤ n + 1 := hn2
  obtain ⟨τ2, l1, l2, l3⟩ := rf_260 (h0 := h0) (qs := qs) (ks := ks) (n := n) (cn := cn) H hm ev.1 wc gd.2.2.2.1 wo.1 t8 t9 tc fm hq (by omega)
  obtain ⟨τ3, x1, x2, x3⟩ := Ib env y (cn + nI (tAt a)) n τ2 _ ta wb ⟨gd.2.2.2.2, wo.2, ev.2, fun p hp => nc p (List.mem_cons_of_mem _ hp)⟩ l2 l3 (by omega) (by omega)
  rw [zE_formsOf]
  unfold b_formsOf
  have e6 := (fm.r (k := 6) (by decide) (by decide) m).trans t0.2.1
  have e7 := (fm.r (k := 7) (by decide) (by decide) m).trans t0.2.2
  have e39 := fm.r (k := 39) (by decide) (by decide) m
  have e11 := (l2.r (k := 11) (by decide) (by decide) m).trans t1
  have e6' := (x2.r (k := 6) (by decide) (by decide) m).trans t0.2.1
  simp only [zgd, zin_n hm (by decide), if_true, nI_clamp (show m < 2 ^ 31 by omega), e6, zcv_at, l1, e11, x1, e6']
  rw [if_neg (by decide), if_neg (by decide), if_neg (by decide), if_neg (by decide), if_pos (by decide), if_neg (by decide), if_neg (by decide)]
  exact ⟨τ3, rfl, x2, x3⟩
/-- nothing within -/
theorem rf_0 {tg : Nat} (h7 : tg = 7 ∨ tg = 8 ∨ tg = 9 ∨ tg = 10 ∨ tg = 11 ∨ tg = 12 ∨ tg = 13 ∨ tg = 14 ∨ tg = 17 ∨ tg = 18) (H : rFh T len cnt N S P A L V kk pp ee f g ρ tN) (hab : a = .leaf ∧ b = .leaf) : rFrm ks qs T h0 cnt lo N S P A L V kk pp ee f g ρ tE tN (.inner tg d z a b) := fun env m cn n τ q tr wf ht fm hq hn hn2 => by
  obtain ⟨n, rfl⟩ : ∃ n', n = n' + 1 := ⟨n - 1, by omega⟩
  obtain ⟨rfl, rfl⟩ := hab
  have t0 : rNd pp V lo N m tg d.1 := by
    rcases h7 with rfl | rfl | rfl | rfl | rfl | rfl | rfl | rfl | rfl | rfl
    · exact tr.1
    · exact tr
    · exact tr
    · exact tr.1
    · exact tr.1
    · exact tr.1
    · exact tr.1
    · exact tr.1
    · exact tr
    · exact tr.1
  have hm : m < 2100 := by have := t0.1.2; have := H.1.2.1; omega
  have e6 := (fm.r (k := 6) (by decide) (by decide) m).trans t0.2.1
  rw [zE_formsOf]
  unfold b_formsOf
  simp only [zgd, zin_n hm (by decide), if_true, nI_clamp (show m < 2 ^ 31 by omega), e6]
  refine ⟨τ, ?_, fm, ?_⟩
  · rcases h7 with rfl | rfl | rfl | rfl | rfl | rfl | rfl | rfl | rfl | rfl
    all_goals (repeat rw [if_neg (by decide)])
    all_goals rw [if_pos (by decide)]
  · rcases h7 with rfl | rfl | rfl | rfl | rfl | rfl | rfl | rfl | rfl | rfl <;> exact hq
end RFR
