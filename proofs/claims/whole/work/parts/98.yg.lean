/-! the reference reads a let, a let rec -/
theorem aPs_le (kk : Nat → Int32) : ∀ q i, aPs kk q i ≤ q
  | 0, _ => Nat.le_refl _
  | q + 1, i => by
    rw [aPs]
    have := aPs_le kk q (i + 1)
    split <;> omega
section RLT
variable {κ : oKv} {ks : Nat → Nat} {qs : List Nat} {T m h0 len cnt sz d N S P A C z i k zc : Nat} {τ τ0 : zSt} {kk pp ee f : Nat → Int32} {G H : Nat → aR tT}
/-- the NAMES of a let rec: the loop comes to the rest of the let -/
theorem q_81 (hm : 2 ≤ m) (x2 : Int32) : ∀ (t c i : Nat) (τ : zSt), c ≤ 4 → cnt < i + t → rR T len cnt kk pp ee f d τ N S P A C (.inr i) → ∃ τ' s', l_expression_81 T (zF h0 qs ks T m) h0 qs ks t x2 (nI c) τ = j_expression_154 T (zF h0 qs ks T m) h0 qs ks x2 τ' ∧ rR T len cnt kk pp ee f d τ' N S P A C s' ∧ rAg N S P A C τ τ' ∧ ((s' = .inr (i + aPs kk (4 - c) i) ∧ 0 < c + aPs kk (4 - c) i) ∨ (s' = .inl (i + aPs kk (4 - c) i) ∧ (c + aPs kk (4 - c) i = 0 ∨ aIs kk 1 (i + aPs kk (4 - c) i) = true)))
  | 0, c, i, τ, hc, ht, h => by have := h.2.2.2.2; omega
  | t + 1, c, i, τ, hc, ht, h => by
    have hcn := h.1.cn
    have hi := h.2.2.2.2
    have w10 : τ.1 10 = nI i := h.2.2.2.1
    have k1 := h.1.k1 hi
    rw [l_expression_81, if_pos h.2.2.1, w10, zgd_at (zin_n (show i < 2010 by omega) (show 2010 < 2 ^ 31 by decide)), nI_clamp (show i < 2 ^ 31 by omega)]
    by_cases g : aIs kk 1 i = true
    · have hlt := h.1.lt hi (by decide) g
      rw [if_pos (k1.mpr g)]
      by_cases c4 : c = 4
      · subst c4
        rw [if_pos (show nI 4 = 4 from rfl)]
        obtain ⟨τ1, f1, f2, f3⟩ := q_form (h0 := h0) (qs := qs) (ks := ks) (m := m) h hm
        rw [f1, zcv_at]
        unfold j_expression_110
        rw [zlet_at]
        obtain ⟨w, w1, w2⟩ := f2.wd
        have hw : τ1.1 10 = nI i := by
          have e := j_form (h0 := h0) (qs := qs) (ks := ks) (n := m - 2) h.1 hi w10
          rw [show m - 2 + 2 = m by omega, f1] at e
          have e2 : τ1 = rFl τ 2 (pp i) := (Prod.mk.inj (Option.some.inj e)).2
          rw [e2]
          unfold rFl
          rw [if_pos h.2.2.1]
          exact w10
        rw [hw, show nI i + 1 = nI (i + 1) by rw [nI_1]]
        have h2 := f2.to (τ' := zI τ1 10 (nI (i + 1))) (s' := .inl i) rfl (fun k a _ _ => zIn _ _ a) ⟨f2.2.2.1, f2.2.2.2.1, f2.2.2.2.2.1, i + 1, by omega, zIe _ _ _⟩
        obtain ⟨t', rfl⟩ : ∃ t', t = t' + 1 := ⟨t - 1, by omega⟩
        rw [l_expression_81, if_neg (show ¬ (zI τ1 10 (nI (i + 1))).1 11 = 0 by rw [h2.1.2.2.1]; decide)]
        unfold j_expression_126
        rw [if_neg (show ¬ nI 4 + 1 = 0 by decide)]
        exact ⟨_, .inl i, rfl, h2.1, f3.tr h2.2 (Nat.le_refl _) (Nat.le_refl _) (Nat.le_refl _) (Nat.le_refl _) (Nat.le_refl _), Or.inr ⟨rfl, Or.inr g⟩⟩
      · rw [if_neg (show ¬ nI c = 4 from fun e => c4 (nI_inj' (by omega) (by decide) (e.trans (show (4 : Int32) = nI 4 from rfl))))]
        unfold j_expression_110
        rw [zlet_at, w10, nI_1, nI_1]
        obtain ⟨n1, n2⟩ := h.nx hlt
        obtain ⟨τ2, s2, e1, e2, e3, e4⟩ := q_81 hm x2 t (c + 1) (i + 1) _ (by omega) (by omega) n1
        have ep : aPs kk (4 - c) i = aPs kk (4 - (c + 1)) (i + 1) + 1 := by
          obtain ⟨q, hq⟩ : ∃ q, 4 - c = q + 1 := ⟨3 - c, by omega⟩
          rw [hq, aPs, if_pos g, show 4 - (c + 1) = q by omega]
        refine ⟨τ2, s2, e1, e2, n2.tr e3 (Nat.le_refl _) (Nat.le_refl _) (Nat.le_refl _) (Nat.le_refl _) (Nat.le_refl _), ?_⟩
        rw [ep, show i + (aPs kk (4 - (c + 1)) (i + 1) + 1) = i + 1 + aPs kk (4 - (c + 1)) (i + 1) by omega, show c + (aPs kk (4 - (c + 1)) (i + 1) + 1) = c + 1 + aPs kk (4 - (c + 1)) (i + 1) by omega]
        exact e4
    · rw [if_neg (fun e => g (k1.mp e))]
      have ep : aPs kk (4 - c) i = 0 := by
        cases 4 - c with
        | zero => rfl
        | succ q => rw [aPs, if_neg g]
      rw [ep, Nat.add_zero, Nat.add_zero]
      unfold j_expression_126
      by_cases c0 : c = 0
      · subst c0
        rw [if_pos (show nI 0 = 0 from rfl)]
        obtain ⟨τ1, f1, f2, f3⟩ := q_form (h0 := h0) (qs := qs) (ks := ks) (m := m) h hm
        rw [f1, zcv_at]
        exact ⟨τ1, .inl i, rfl, f2, f3, Or.inr ⟨rfl, Or.inl rfl⟩⟩
      · rw [if_neg (show ¬ nI c = 0 from fun e => c0 (nI_inj' (by omega) (by decide) (e.trans (show (0 : Int32) = nI 0 from rfl))))]
        exact ⟨τ, .inr i, rfl, h, rAg.rf τ, Or.inl ⟨rfl, by omega⟩⟩
set_option maxHeartbeats 1000000 in
theorem q_let (hf : lFacts κ ks sz) (hT : 2010 ≤ T) (hm : 5 ≤ m) (hE : N ≤ i ∧ S ≤ i ∧ P ≤ i ∧ A ≤ i) (hi : i ≤ cnt) (hz1 : z ≤ 31) (hW : ∀ (s : Sum Nat Nat) (τ : zSt) (N S P A : Nat), rR T len cnt kk pp ee f d τ N S P A C s → rE4 N S P A s → ∃ v τ', zF h0 qs ks T m 29 [.ref h0] τ = some (some (.int v), τ') ∧ rPe T len cnt kk pp ee f d C τ N S P A s G k v τ') (hz : k ≤ z) (h0_ : rR T len cnt kk pp ee f d τ0 (N + 1) S P A C (.inr (i + 1))) (g0 : rAg N S P A C τ τ0) (w0_0 : nV τ0 N 0 = nI 1) (w1_0 : nV τ0 N 1 = pp i) (w2_0 : nV τ0 N 2 = pp i) : ∃ v τ', (zci (zF h0 qs ks T m 15 [.ref h0] τ0) fun r210 s208 =>
zgd (zin (nI N) 2100) (zlet (zA s208 9 (upd (s208.2.2.1 9) ((nI N)).toNatClampNeg r210)) fun s212 =>
j_expression_154 T (zF h0 qs ks T m) h0 qs ks (nI N) s212)) = some (some (.int v), τ') ∧ rPe T len cnt kk pp ee f d C τ N S P A (.inr i) (fun i => (aMs kk 1 (i + 1)).on fun _ i1 => aLt kk G (tN 1 i 0 0 s0 s0) i1) z v τ' := by
  have A0 : aA4 cnt z 0 N S P A i (N + 1) S P A (Sum.inr (i + 1)) := aA4.nd
  have hcn := h0_.1.cn
  have hN : N < 2100 := by omega
  have zN := zin_n hN (show 2100 < 2 ^ 31 by decide)
  have cN : (nI N).toNatClampNeg = N := nI_clamp (by omega)
  simp only [cN]
  obtain ⟨x1, τ1, f1, h1_, a1, n1⟩ := q_name (h0 := h0) (qs := qs) (ks := ks) (m := m) h0_ (by omega)
  rw [f1, zci_at, zgd_at zN, zlet_at]
  have eN : nV τ1 N = nV τ0 N := (a1.at 0).1 N (Nat.zero_le _) (Nat.lt_succ_self N)
  obtain ⟨τ', e1, N', S', P', A', o1, o2, o3, ⟨o4, o5, o6, o7, o8⟩, o9, o10⟩ := q_154 (h0 := h0) (qs := qs) (ks := ks) (m := m) (mk := tN 1 i 0 0 s0 s0) hf hT hm hE hi hz1 hW hz (h1_.a (upd (τ1.2.2.1 9) N x1) (show 6 ≤ 9 by omega)) ((g0.tr a1 (Nat.le_succ _) (Nat.le_refl _) (Nat.le_refl _) (Nat.le_refl _) (Nat.le_refl _)).a (k := 9) (x := N) (v := x1) (rFz.n6 (by omega) (by omega) (Nat.le_refl N))) (A0.ms h1_) rfl rfl rfl rfl rfl
  rw [nV_wn τ1 N x1 (c := 3) rfl (by decide), eN] at o4 o5 o6 o8
  rw [nV_we τ1 N x1 (k := 9) (q := 3) rfl] at o7
  have eT : aTo (.inr i) (fun i => (aMs kk 1 (i + 1)).on fun _ i1 => aLt kk G (tN 1 i 0 0 s0 s0) i1) = aTo (aTo (.inr (i + 1)) (aMs kk 1)) (aLt kk G (tN 1 i 0 0 s0 s0)) := on_st (H := fun s => aTo s (aLt kk G (tN 1 i 0 0 s0 s0))) (fun _ => rfl) (fun _ _ => rfl)
  refine ⟨_, τ', e1, N', S', P', A', N, ?_⟩
  rw [eT]
  refine ⟨o1, o2, fun i' e => (by cases e; exact o3), fun j e => (by cases e), ⟨rfl, hN⟩, fun i' t j e e' => ?_⟩
  cases e
  obtain ⟨c0, j0, y0, e'⟩ := on_ok e'
  obtain ⟨u0, rfl⟩ := aMs_ok y0
  have z0 : aTo (Sum.inr (i + 1)) (aMs kk 1) = .inr (i + 1 + 1) := by rw [aTo_ok, y0]; rfl
  obtain ⟨a, b, x, y, rfl, q2, q3, q4, q5⟩ := o10 _ t j z0 e'
  exact ⟨by omega, ⟨(Nat.le_refl _), o9⟩, ⟨⟨(Nat.le_refl _), o9⟩, o4.trans w0_0, o5.trans w1_0⟩, o7.trans (n1 (i + 1) rfl u0), x, y, q3, q4, q5⟩
set_option maxHeartbeats 1000000 in
theorem q_rec (hf : lFacts κ ks sz) (hT : 2010 ≤ T) (hm : 5 ≤ m) (hE : N ≤ i ∧ S ≤ i ∧ P ≤ i ∧ A ≤ i) (hi : i ≤ cnt) (hz1 : z ≤ 31) (hW : ∀ (s : Sum Nat Nat) (τ : zSt) (N S P A : Nat), rR T len cnt kk pp ee f d τ N S P A C s → rE4 N S P A s → ∃ v τ', zF h0 qs ks T m 29 [.ref h0] τ = some (some (.int v), τ') ∧ rPe T len cnt kk pp ee f d C τ N S P A s G k v τ') (hz : k ≤ z) (h0_ : rR T len cnt kk pp ee f d τ0 (N + 1) S P A C (.inr (i + 2))) (g0 : rAg N S P A C τ τ0) (w0_0 : nV τ0 N 0 = nI 2) (w1_0 : nV τ0 N 1 = pp i) (w2_0 : nV τ0 N 2 = pp i) : ∃ v τ', (zci (zF h0 qs ks T m 15 [.ref h0] τ0) fun r219 s217 =>
zgd (zin (nI N) 2100) (zlet (zA s217 9 (upd (s217.2.2.1 9) ((nI N)).toNatClampNeg r219)) fun s221 =>
zgd (zin (nI N) 2100) (zlet (zA s221 10 (upd (s221.2.2.1 10) ((nI N)).toNatClampNeg (s221.1 10))) fun s224 =>
l_expression_81 T (zF h0 qs ks T m) h0 qs ks T (nI N) 0 s224))) = some (some (.int v), τ') ∧ rPe T len cnt kk pp ee f d C τ N S P A (.inr i) (aRc kk G) z v τ' := by
  have A0 : aA4 cnt z 0 N S P A i (N + 1) S P A (Sum.inr (i + 2)) := aA4.nd.st (show i + 1 ≤ i + 2 by omega) (fun z => Nat.le_refl _)
  have hcn := h0_.1.cn
  have hN : N < 2100 := by omega
  have zN := zin_n hN (show 2100 < 2 ^ 31 by decide)
  have cN : (nI N).toNatClampNeg = N := nI_clamp (by omega)
  simp only [cN]
  obtain ⟨x1, τ1, f1, h1_, a1, n1⟩ := q_name (h0 := h0) (qs := qs) (ks := ks) (m := m) h0_ (by omega)
  obtain ⟨w, w1, w2⟩ := h1_.wd
  rw [f1, zci_at, zgd_at zN, zlet_at, zgd_at zN, zlet_at, zA1, w2]
  have eN : nV τ1 N = nV τ0 N := (a1.at 0).1 N (Nat.zero_le _) (Nat.lt_succ_self N)
  have A1 := A0.ms h1_
  have h2_ := (h1_.a (upd (τ1.2.2.1 9) N x1) (show 6 ≤ 9 by omega)).a (upd ((zA τ1 9 (upd (τ1.2.2.1 9) N x1)).2.2.1 10) N (nI w)) (show 6 ≤ 10 by omega)
  have g2 := ((g0.tr a1 (Nat.le_succ _) (Nat.le_refl _) (Nat.le_refl _) (Nat.le_refl _) (Nat.le_refl _)).a (k := 9) (x := N) (v := x1) (rFz.n6 (by omega) (by omega) (Nat.le_refl N))).a (k := 10) (x := N) (v := nI w) (rFz.n6 (by omega) (by omega) (Nat.le_refl N))
  have v0 : nV (zA (zA τ1 9 (upd (τ1.2.2.1 9) N x1)) 10 (upd ((zA τ1 9 (upd (τ1.2.2.1 9) N x1)).2.2.1 10) N (nI w))) N 0 = nI 2 := by rw [nV_wn _ N _ (c := 4) rfl (by decide), nV_wn _ N _ (c := 3) rfl (by decide), eN]; exact w0_0
  have v1 : nV (zA (zA τ1 9 (upd (τ1.2.2.1 9) N x1)) 10 (upd ((zA τ1 9 (upd (τ1.2.2.1 9) N x1)).2.2.1 10) N (nI w))) N 1 = pp i := by rw [nV_wn _ N _ (c := 4) rfl (by decide), nV_wn _ N _ (c := 3) rfl (by decide), eN]; exact w1_0
  have v3 : nV (zA (zA τ1 9 (upd (τ1.2.2.1 9) N x1)) 10 (upd ((zA τ1 9 (upd (τ1.2.2.1 9) N x1)).2.2.1 10) N (nI w))) N 3 = x1 := by rw [nV_wn _ N _ (c := 4) rfl (by decide), nV_we _ N _ (k := 9) (q := 3) rfl]
  have v4 : nV (zA (zA τ1 9 (upd (τ1.2.2.1 9) N x1)) 10 (upd ((zA τ1 9 (upd (τ1.2.2.1 9) N x1)).2.2.1 10) N (nI w))) N 4 = nI w := nV_we _ N _ rfl
  generalize zA (zA τ1 9 (upd (τ1.2.2.1 9) N x1)) 10 (upd ((zA τ1 9 (upd (τ1.2.2.1 9) N x1)).2.2.1 10) N (nI w)) = τ2 at h2_ g2 v0 v1 v3 v4 ⊢
  -- the NAMES
  have M : ∃ τ3 s3 mk, l_expression_81 T (zF h0 qs ks T m) h0 qs ks T (nI N) 0 τ2 = j_expression_154 T (zF h0 qs ks T m) h0 qs ks (nI N) τ3 ∧ rR T len cnt kk pp ee f d τ3 (N + 1) S P A C s3 ∧ rAg (N + 1) S P A C τ2 τ3 ∧ aA4 cnt z 0 N S P A i (N + 1) S P A s3 ∧ aTo (.inr i) (aRc kk G) = aTo s3 (aLt kk G mk) ∧ (∀ t j, aRc kk G i = .inr (t, j) → ∃ q, mk = tN 2 i q 0 s0 s0 ∧ (aIs kk 1 (i + 2) = true ∧ w = i + 3) ∧ ∃ i3, i < i3 ∧ s3 = .inr i3 ∧ aLt kk G mk i3 = .inr (t, j)) := by
    by_cases c1 : aIs kk 1 (i + 2) = true
    · have em : aMs kk 1 (i + 2) = .inr ((), i + 3) := by unfold aMs; rw [if_pos c1]
      have es : aTo (Sum.inr (i + 2)) (aMs kk 1) = .inr (i + 3) := by rw [aTo_ok, em]; rfl
      rw [es] at h2_ A1 h1_
      have hw : w = i + 3 := nI_inj' (by omega) (by have := h1_.2.2.2.2; omega) (w2.symm.trans h1_.2.2.2.1)
      obtain ⟨τ3, s3, e1, e2, e3, e4⟩ := q_81 (h0 := h0) (qs := qs) (ks := ks) (m := m) (by omega) (nI N) T 0 (i + 3) τ2 (by omega) (by omega) h2_
      have hp : aPs kk 4 (i + 3) ≤ 4 := aPs_le kk 4 (i + 3)
      have er : aRc kk G i = if aIs kk 1 (i + 3) = true then aLt kk G (tN 2 i (aPs kk 4 (i + 3)) 0 s0 s0) (i + 3 + aPs kk 4 (i + 3)) else .inl (i + 3) := by
        unfold aRc
        rw [em]
        rfl
      have A3 : aPo cnt s3 = aPo cnt s3 → aA4 cnt z 0 N S P A i (N + 1) S P A s3 := fun _ => by
        refine A1.st ?_ (fun z => Nat.zero_le _)
        rcases e4 with ⟨rfl, -⟩ | ⟨rfl, -⟩
        · show i + 3 ≤ _ + _; omega
        · exact h2_.2.2.2.2
      refine ⟨τ3, s3, tN 2 i (aPs kk 4 (i + 3)) 0 s0 s0, e1, e2, e3, A3 rfl, ?_, fun t j ht => ?_⟩
      · rw [aTo_ok, er]
        rcases e4 with ⟨rfl, q2⟩ | ⟨rfl, q2⟩
        · have c3 : aIs kk 1 (i + 3) = true := by
            by_cases c : aIs kk 1 (i + 3) = true
            · exact c
            · have : aPs kk 4 (i + 3) = 0 := by rw [aPs, if_neg c]
              have q2' : 0 < 0 + aPs kk 4 (i + 3) := q2
              omega
          rw [if_pos c3]
          rfl
        · rcases q2 with q2 | q2
          · have q2' : 0 + aPs kk 4 (i + 3) = 0 := q2
            have c3 : ¬ aIs kk 1 (i + 3) = true := fun c => by rw [aPs, if_pos c] at q2'; omega
            rw [if_neg c3]
            show Sum.inl (i + 3) = Sum.inl (i + 3 + aPs kk 4 (i + 3))
            rw [show aPs kk 4 (i + 3) = 0 by omega]
          · have q2' : aIs kk 1 (i + 3 + aPs kk 4 (i + 3)) = true := q2
            have c3 : aIs kk 1 (i + 3) = true := by
              by_cases c : aIs kk 1 (i + 3) = true
              · exact c
              · have : aPs kk 4 (i + 3) = 0 := by rw [aPs, if_neg c]
                rw [this] at q2'
                exact q2'
            rw [if_pos c3]
            have en : aMs kk 61 (i + 3 + aPs kk 4 (i + 3)) = .inl (i + 3 + aPs kk 4 (i + 3)) := by
              unfold aMs
              rw [if_neg]
              intro e
              have a1 : kk (i + 3 + aPs kk 4 (i + 3)) = nI 61 := of_decide_eq_true e
              have a2 : kk (i + 3 + aPs kk 4 (i + 3)) = nI 1 := of_decide_eq_true q2'
              rw [a1] at a2
              exact absurd a2 (by decide)
            unfold aLt
            rw [en]
            rfl
      · rw [er] at ht
        by_cases c3 : aIs kk 1 (i + 3) = true
        · rw [if_pos c3] at ht
          refine ⟨_, rfl, ⟨c1, hw⟩, i + 3 + aPs kk 4 (i + 3), by omega, ?_, ht⟩
          rcases e4 with ⟨rfl, -⟩ | ⟨rfl, q2⟩
          · rfl
          · exfalso
            rcases q2 with q2 | q2
            · have q2' : 0 + aPs kk 4 (i + 3) = 0 := q2
              rw [aPs, if_pos c3] at q2'; omega
            · have q2' : aIs kk 1 (i + 3 + aPs kk 4 (i + 3)) = true := q2
              unfold aLt at ht
              obtain ⟨u, j0, y0, -⟩ := on_ok ht
              have a1 : kk (i + 3 + aPs kk 4 (i + 3)) = nI 61 := of_decide_eq_true (aMs_ok y0).1
              have a2 : kk (i + 3 + aPs kk 4 (i + 3)) = nI 1 := of_decide_eq_true q2'
              rw [a1] at a2
              exact absurd a2 (by decide)
        · rw [if_neg c3] at ht; cases ht
    · have em : aMs kk 1 (i + 2) = .inl (i + 2) := by unfold aMs; rw [if_neg c1]
      have es : aTo (Sum.inr (i + 2)) (aMs kk 1) = .inl (i + 2) := by rw [aTo_ok, em]; rfl
      rw [es] at h2_ A1
      obtain ⟨T', hT'⟩ : ∃ T', T = T' + 1 := ⟨T - 1, by omega⟩
      obtain ⟨τ3, f1, f2, f3⟩ := q_form (h0 := h0) (qs := qs) (ks := ks) (m := m) h2_ (by omega)
      have er : aRc kk G i = .inl (i + 2) := by unfold aRc; rw [em]; rfl
      refine ⟨τ3, .inl (i + 2), tN 2 i 0 0 s0 s0, ?_, f2, f3, A1, ?_, fun t j ht => ?_⟩
      · rw [show l_expression_81 T (zF h0 qs ks T m) h0 qs ks T (nI N) 0 τ2 = l_expression_81 T (zF h0 qs ks T m) h0 qs ks (T' + 1) (nI N) 0 τ2 by rw [← hT'], l_expression_81, if_neg (show ¬ τ2.1 11 = 0 by rw [h2_.2.2.1]; decide)]
        unfold j_expression_126
        rw [if_pos rfl, f1, zcv_at]
        rfl
      · rw [aTo_ok, er]; rfl
      · rw [er] at ht; cases ht
  obtain ⟨τ3, s3, mk, m1, m2, m3, m4, m5, m6⟩ := M
  rw [m1]
  have eN3 : nV τ3 N = nV τ2 N := (m3.at 0).1 N (Nat.zero_le _) (Nat.lt_succ_self N)
  obtain ⟨τ', e1, N', S', P', A', o1, o2, o3, ⟨o4, o5, o6, o7, o8⟩, o9, o10⟩ := q_154 (h0 := h0) (qs := qs) (ks := ks) (m := m) (mk := mk) hf hT hm hE hi hz1 hW hz m2 (g2.tr m3 (Nat.le_succ _) (Nat.le_refl _) (Nat.le_refl _) (Nat.le_refl _) (Nat.le_refl _)) m4 rfl rfl rfl rfl rfl
  rw [eN3] at o4 o5 o7 o8
  refine ⟨_, τ', e1, N', S', P', A', N, ?_⟩
  rw [m5]
  refine ⟨o1, o2, fun i' e => (by cases e; exact o3), fun j e => (by cases e), ⟨rfl, hN⟩, fun i' t j e e' => ?_⟩
  cases e
  obtain ⟨q, hmk, ⟨u0, hw⟩, i3, hi3, es3, e2⟩ := m6 t j e'
  obtain ⟨a, b, x, y, rfl, q2, q3, q4, q5⟩ := o10 _ t j es3 e2
  subst hmk
  refine ⟨by omega, ⟨(Nat.le_refl _), o9⟩, ⟨⟨(Nat.le_refl _), o9⟩, o4.trans v0, o5.trans v1⟩, ⟨(o7.trans v3).trans (n1 (i + 2) rfl u0), (o8.trans v4).trans (by rw [hw])⟩, x, y, q3, q4, q5⟩
end RLT
