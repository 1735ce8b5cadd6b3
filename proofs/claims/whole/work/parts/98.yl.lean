/-! the reference reads an E -/
section RXP
variable {κ : oKv} {ks : Nat → Nat} {qs : List Nat} {T m h0 len cnt sz d N S P A C z i k zc n : Nat} {τ τ0 : zSt} {s : Sum Nat Nat} {kk pp ee f : Nat → Int32} {G H : Nat → aR tT}
theorem zI_back (τ : zSt) (v : Int32) {x : Int32} (h : τ.1 10 = x) : zI (zI τ 10 v) 10 x = τ := by
  refine Prod.ext (funext fun j => ?_) rfl
  show (if j = 10 then x else if j = 10 then v else τ.1 j) = τ.1 j
  by_cases c : j = 10
  · rw [if_pos c, c, h]
  · rw [if_neg c, if_neg c]
set_option maxHeartbeats 1000000 in
theorem q_simple (hf : lFacts κ ks sz) (hT : 2010 ≤ T) (hm : 5 ≤ m) (hE : N ≤ i ∧ S ≤ i ∧ P ≤ i ∧ A ≤ i) (hz0 : 1 ≤ z) (hz1 : z ≤ 31) (hCd : C ≤ 12 * d) (hd : d ≤ 30) (hW : ∀ (C' : Nat), C' ≤ 12 * (d + 1) → ∀ (s : Sum Nat Nat) (τ : zSt) (N S P A : Nat), rR T len cnt kk pp ee f d τ N S P A C' s → rE4 N S P A s → ∃ v τ', zF h0 qs ks T m 29 [.ref h0] τ = some (some (.int v), τ') ∧ rPe T len cnt kk pp ee f d C' τ N S P A s G k v τ') (hz : k ≤ z) (h : rR T len cnt kk pp ee f d τ N S P A C (.inr i)) : ∃ v τ', zF h0 qs ks T (m + 2) 28 [.ref h0, .int (pp i)] τ = some (some (.int v), τ') ∧ rPe T len cnt kk pp ee f d C τ N S P A (.inr i) (aOp kk T G) z v τ' := by
  have hcn := h.1.cn
  have hi := h.2.2.2.2
  have hN : N < 2100 := by omega
  have w10 : τ.1 10 = nI i := h.2.2.2.1
  have k1 := h.1.k1 hi
  rw [zE_simple]
  unfold b_simple
  rw [w10, zgd_at (zin_n (show i < 2010 by omega) (show 2010 < 2 ^ 31 by decide)), nI_clamp (show i < 2 ^ 31 by omega)]
  -- an S
  have OQ : aOp kk T G i = aOq kk T i → ∃ v τ', j_simple_139 T (zF h0 qs ks T (m + 1)) h0 qs ks (pp i) τ = some (some (.int v), τ') ∧ rPe T len cnt kk pp ee f d C τ N S P A (.inr i) (aOp kk T G) z v τ' := fun e => by
    obtain ⟨v, τ', e1, e2⟩ := q_oq (h0 := h0) (qs := qs) (ks := ks) (m := m + 1) hf hT (by omega) hE hz0 h
    exact ⟨v, τ', e1, e2.cg e⟩
  by_cases c1 : aIs kk 1 i = true
  · have hlt := h.1.lt hi (by decide) c1
    rw [if_pos (k1.mpr c1), show nI i + 1 = nI (i + 1) by rw [nI_1]]
    obtain ⟨a, e, x1, x2, x3, x4, x5, x6⟩ := h.1.ae (i := i + 1) (p := (560, "[", 91)) (by omega) hT (by decide)
    rw [r_isText (n := m) (tx := (560, "[")) hf (zKp_m (p := (560, "[", 91)) (by decide)) (by omega) h.1.1 x1 x2 x3 x4 hT, zci_at, x6]
    by_cases c2 : aIs kk 91 (i + 1) = true
    · have hlt2 := h.1.lt (show i + 1 ≤ cnt by omega) (by decide) c2
      have c2' : decide (kk (i + 1) = nI (560, "[", 91).2.2) = true := c2
      rw [c2', if_neg (show ¬ b01 true = 0 by decide)]
      obtain ⟨τ1, f1, f2, f3, f4, f5, f6⟩ := q_node (h0 := h0) (qs := qs) (ks := ks) (m := m + 1) h hN (by omega) 14 (pp i)
      rw [f1, zci_at]
      obtain ⟨x1, τ2, p1, p2, p3, p4⟩ := q_name (h0 := h0) (qs := qs) (ks := ks) (m := m + 1) f2 (by omega)
      have es : aTo (Sum.inr i) (aMs kk 1) = .inr (i + 1) := by rw [aTo_ok]; unfold aMs; rw [if_pos c1]; rfl
      rw [es] at p2
      have x1e := p4 i rfl c1
      subst x1e
      have zN := zin_n hN (show 2100 < 2 ^ 31 by decide)
      have cN : (nI N).toNatClampNeg = N := nI_clamp (by omega)
      have w10' : τ2.1 10 = nI (i + 1) := p2.2.2.2.1
      have w4 : τ2.2.2.1 4 (i + 1) = pp (i + 1) := p2.1.pl p2.2.2.2.2
      rw [p1, zci_at, zgd_at zN, zlet_at, zA1, w10', zgd_at (zin_n (show i + 1 < 2010 by omega) (show 2010 < 2 ^ 31 by decide)), zgd_at zN, zlet_at, zlet_at, zA1, zA1, w10', nI_clamp (show i + 1 < 2 ^ 31 by omega), zAn _ _ (show 4 ≠ 9 by decide), w4, show nI (i + 1) + 1 = nI (i + 2) by rw [nI_1], cN]
      obtain ⟨y1, y2⟩ := ((p2.a (upd (τ2.2.2.1 9) N (nI i)) (show 6 ≤ 9 by omega)).a (upd ((zA τ2 9 (upd (τ2.2.2.1 9) N (nI i))).2.2.1 8) N (pp (i + 1))) (show 6 ≤ 8 by omega)).nx hlt2
      have eN : nV τ2 N = nV τ1 N := (p3.at 0).1 N (Nat.zero_le _) (Nat.lt_succ_self N)
      have y3 := (((f3.tr p3 (Nat.le_succ _) (Nat.le_refl _) (Nat.le_refl _) (Nat.le_refl _) (Nat.le_refl _)).a (k := 9) (x := N) (v := nI i) (rFz.n6 (by omega) (by omega) (Nat.le_refl N))).a (k := 8) (x := N) (v := pp (i + 1)) (rFz.n6 (by omega) (by omega) (Nat.le_refl N))).i (k := 10) (v := nI (i + 1 + 1)) (by omega)
      obtain ⟨v, τ', e1, e2⟩ := q_gtl (h0 := h0) (qs := qs) (ks := ks) (m := m + 1) (z := z) hf hT (by omega) hE hi hz1 y1 y3 (by
        show nV (zA (zA τ2 9 (upd (τ2.2.2.1 9) N (nI i))) 8 (upd ((zA τ2 9 (upd (τ2.2.2.1 9) N (nI i))).2.2.1 8) N (pp (i + 1)))) N 0 = nI 14
        rw [nV_wn _ N _ (c := 2) rfl (by decide), nV_wn _ N _ (c := 3) rfl (by decide), eN]; exact f4) (by
        show nV (zA (zA τ2 9 (upd (τ2.2.2.1 9) N (nI i))) 8 (upd ((zA τ2 9 (upd (τ2.2.2.1 9) N (nI i))).2.2.1 8) N (pp (i + 1)))) N 1 = pp i
        rw [nV_wn _ N _ (c := 2) rfl (by decide), nV_wn _ N _ (c := 3) rfl (by decide), eN]; exact f5) (by
        show nV (zA (zA τ2 9 (upd (τ2.2.2.1 9) N (nI i))) 8 (upd ((zA τ2 9 (upd (τ2.2.2.1 9) N (nI i))).2.2.1 8) N (pp (i + 1)))) N 2 = pp (i + 1)
        rw [nV_we _ N _ (k := 8) (q := 2) rfl]) (by
        show nV (zA (zA τ2 9 (upd (τ2.2.2.1 9) N (nI i))) 8 (upd ((zA τ2 9 (upd (τ2.2.2.1 9) N (nI i))).2.2.1 8) N (pp (i + 1)))) N 3 = nI i
        rw [nV_wn _ N _ (c := 2) rfl (by decide), nV_we _ N _ (k := 9) (q := 3) rfl])
      refine ⟨v, τ', ?_, e2.cg (by unfold aOp; rw [c1, c2]; rfl)⟩
      rw [cN] at e1
      exact e1
    · have c2' : decide (kk (i + 1) = nI (560, "[", 91).2.2) = false := eq_false_of_ne_true c2
      rw [c2', if_pos (show b01 false = 0 from rfl)]
      unfold j_simple_91
      rw [w10, zgd_at (zin_n (show i < 2010 by omega) (show 2010 < 2 ^ 31 by decide)), nI_clamp (show i < 2 ^ 31 by omega), if_pos (k1.mpr c1), show nI i + 1 = nI (i + 1) by rw [nI_1], zlet_at]
      obtain ⟨n1, n2⟩ := h.nx hlt
      obtain ⟨b, g1, q1⟩ := q_arg (h0 := h0) (qs := qs) (ks := ks) (m := m + 1) hf hT n1 (by omega)
      have q1' : b = aAr kk (i + 1) := q1
      rw [g1, zci_at, zlet_at, zIe, nI_pred, zI_back τ _ w10]
      cases b with
      | false =>
        rw [if_pos (show b01 false = 0 from rfl)]
        exact OQ (by unfold aOp; rw [c1, eq_false_of_ne_true c2, ← q1']; rfl)
      | true =>
        rw [if_neg (show ¬ b01 true = 0 by decide)]
        obtain ⟨v, τ', e1, e2⟩ := q_call (h0 := h0) (qs := qs) (ks := ks) (m := m) hf hT hm hE hz1 hCd hd hW hz h c1
        rw [e1, zci_at]
        exact ⟨v, τ', rfl, e2.cg (by unfold aOp; rw [c1, eq_false_of_ne_true c2, ← q1']; rfl)⟩
  · rw [if_neg (fun e => c1 (k1.mp e))]
    unfold j_simple_91
    rw [w10, zgd_at (zin_n (show i < 2010 by omega) (show 2010 < 2 ^ 31 by decide)), nI_clamp (show i < 2 ^ 31 by omega), if_neg (fun e => c1 (k1.mp e))]
    exact OQ (by unfold aOp; rw [eq_false_of_ne_true c1]; rfl)
set_option maxHeartbeats 4000000 in
/-- expression(), over a reading one level deeper -/
theorem q_expr1 (hf : lFacts κ ks sz) (hT : 2010 ≤ T) (hm : 12 + 4 * k ≤ m) (hE : N ≤ i ∧ S ≤ i ∧ P ≤ i ∧ A ≤ i) (hdk : d + k = 30) (hCd : C ≤ 12 * d) (hW : ∀ (m C' : Nat), 10 + 4 * k ≤ m → C' ≤ 12 * (d + 1) → ∀ (s : Sum Nat Nat) (τ : zSt) (N S P A : Nat), rR T len cnt kk pp ee f d τ N S P A C' s → rE4 N S P A s → ∃ v τ', zF h0 qs ks T m 29 [.ref h0] τ = some (some (.int v), τ') ∧ rPe T len cnt kk pp ee f d C' τ N S P A s (aE kk T k) k v τ') (hC : ∀ m, 11 + 3 * k ≤ m → ∀ (s : Sum Nat Nat) (τ : zSt) (N S P : Nat), rR T len cnt kk pp ee f d τ N S P A C s → rEn N S P s → ∃ v τ', zF h0 qs ks T m 23 [.ref h0] τ = some (some (.int v), τ') ∧ rPc T len cnt kk pp ee f d A C τ N S P s (aEi kk T (aSi kk T (k + 1))) (1 + k) v τ') (h : rR T len cnt kk pp ee f d τ N S P A C (.inr i)) : ∃ v τ', zF h0 qs ks T (m + 1) 26 [.ref h0] τ = some (some (.int v), τ') ∧ rPe T len cnt kk pp ee f d C τ N S P A (.inr i) (aE kk T (k + 1)) (1 + k) v τ' := by
  have hcn := h.1.cn
  have hi := h.2.2.2.2
  have hN : N < 2100 := by omega
  have w10 : τ.1 10 = nI i := h.2.2.2.1
  have w4 := h.1.pl hi
  have w33 : τ.1 33 = nI d := h.2.1.1
  rw [zE_expression]
  unfold b_expression
  rw [w33, if_pos (show nI d ≤ 30 from show nI d ≤ nI 30 from nI_le (by omega) (by omega))]
  unfold j_expression_13
  rw [if_pos h.2.2.1, w10, zgd_at (zin_n (show i < 2010 by omega) (show 2010 < 2 ^ 31 by decide)), nI_clamp (show i < 2 ^ 31 by omega), w4]
  -- a node and no more
  have LEAF : ∀ {g : Nat} {τ1 : zSt}, aE kk T (k + 1) i = .inr (tN g i 0 0 s0 s0 tZ tZ, i + 1) → i < cnt → rR T len cnt kk pp ee f d τ1 (N + 1) S P A C (.inr (i + 1)) → rAg N S P A C τ τ1 → rTr pp τ1 N (N + 1) S P A (tN g i 0 0 s0 s0 tZ tZ) 0 0 N → rPe T len cnt kk pp ee f d C τ N S P A (.inr i) (aE kk T (k + 1)) (1 + k) (nI N) τ1 := fun {g} {τ1} ea hlt k1 k2 k3 => by
    have eT : aTo (.inr i) (aE kk T (k + 1)) = .inr (i + 1) := by rw [aTo_ok, ea]; rfl
    refine ⟨N + 1, S, P, A, N, ?_⟩
    rw [eT]
    refine ⟨k1, k2, fun i' e => (by cases e; exact aA4.nd), fun j e => (by cases e), ⟨rfl, hN⟩, fun i' t j e e' => ?_⟩
    cases e
    rw [ea] at e'
    cases e'
    exact ⟨Nat.lt_succ_self _, ⟨(Nat.le_refl _), Nat.lt_succ_self N⟩, k3⟩
  obtain ⟨b212, τ212, g212, q212, y212, n212⟩ := q_skip (h0 := h0) (qs := qs) (ks := ks) (m := m) hf hT h (show (530, "let", 212) ∈ zKp by decide) (by omega)
  have q212_ : b212 = aIs kk 212 i := q212
  rw [g212, zci_at]
  cases b212 with
  | true =>
    have c212 : aIs kk 212 i = true := q212_.symm
    obtain ⟨i', ei, hlt, -, h1, a1⟩ := n212 rfl
    cases ei
    rw [if_neg (show ¬ b01 true = 0 by decide)]
    obtain ⟨b219, τ219, g219, q219, y219, n219⟩ := q_skip (h0 := h0) (qs := qs) (ks := ks) (m := m) hf hT h1 (show (532, "rec", 219) ∈ zKp by decide) (by omega)
    have q219_ : b219 = aIs kk 219 (i + 1) := q219
    rw [g219, zci_at]
    cases b219 with
    | true =>
      have c219 : aIs kk 219 (i + 1) = true := q219_.symm
      obtain ⟨i', ei, hlt2, -, h2, a2⟩ := n219 rfl
      cases ei
      rw [if_neg (show ¬ b01 true = 0 by decide)]
      obtain ⟨τ1, f1, f2, f3, f4, f5, f6⟩ := q_node (h0 := h0) (qs := qs) (ks := ks) (m := m) h2 hN (by omega) 2 (pp i)
      rw [f1, zci_at]
      obtain ⟨v, τ', e1, e2⟩ := q_rec (h0 := h0) (qs := qs) (ks := ks) (m := m) hf hT (by omega) hE hi (by omega) (hW m C (by omega) (by omega)) (show k ≤ 1 + k by omega) f2 ((a1.tr a2 (Nat.le_refl _) (Nat.le_refl _) (Nat.le_refl _) (Nat.le_refl _) (Nat.le_refl _)).tr f3 (Nat.le_refl _) (Nat.le_refl _) (Nat.le_refl _) (Nat.le_refl _) (Nat.le_refl _)) f4 f5 f6
      exact ⟨v, τ', e1, e2.cg (by rw [aE, if_pos c212, if_pos c219])⟩
    | false =>
      have c219 : ¬ aIs kk 219 (i + 1) = true := fun e => by rw [← q219_] at e; cases e
      rw [if_pos (show b01 false = 0 from rfl), y219 rfl]
      obtain ⟨τ1, f1, f2, f3, f4, f5, f6⟩ := q_node (h0 := h0) (qs := qs) (ks := ks) (m := m) h1 hN (by omega) 1 (pp i)
      rw [f1, zci_at]
      obtain ⟨v, τ', e1, e2⟩ := q_let (h0 := h0) (qs := qs) (ks := ks) (m := m) hf hT (by omega) hE hi (by omega) (hW m C (by omega) (by omega)) (show k ≤ 1 + k by omega) f2 (a1.tr f3 (Nat.le_refl _) (Nat.le_refl _) (Nat.le_refl _) (Nat.le_refl _) (Nat.le_refl _)) f4 f5 f6
      exact ⟨v, τ', e1, e2.cg (by rw [aE, if_pos c212, if_neg c219])⟩
  | false =>
    have c212 : ¬ aIs kk 212 i = true := fun e => by rw [← q212_] at e; cases e
    rw [if_pos (show b01 false = 0 from rfl), y212 rfl]
    obtain ⟨b206, τ206, g206, q206, y206, n206⟩ := q_skip (h0 := h0) (qs := qs) (ks := ks) (m := m) hf hT h (show (543, "fun", 206) ∈ zKp by decide) (by omega)
    have q206_ : b206 = aIs kk 206 i := q206
    rw [g206, zci_at]
    cases b206 with
    | true =>
      have c206 : aIs kk 206 i = true := q206_.symm
      obtain ⟨i', ei, hlt, -, h1, a1⟩ := n206 rfl
      cases ei
      rw [if_neg (show ¬ b01 true = 0 by decide)]
      obtain ⟨τ1, f1, f2, f3, f4, f5, f6⟩ := q_node (h0 := h0) (qs := qs) (ks := ks) (m := m) h1 hN (by omega) 3 (pp i)
      rw [f1, zci_at]
      obtain ⟨v, τ', e1, e2⟩ := q_fun (h0 := h0) (qs := qs) (ks := ks) (m := m) hf hT (by omega) hE hi (by omega) (hW m C (by omega) (by omega)) (show k ≤ 1 + k by omega) f2 (a1.tr f3 (Nat.le_refl _) (Nat.le_refl _) (Nat.le_refl _) (Nat.le_refl _) (Nat.le_refl _)) f4 f5 f6
      exact ⟨v, τ', e1, e2.cg (by rw [aE, if_neg c212, if_pos c206])⟩
    | false =>
      have c206 : ¬ aIs kk 206 i = true := fun e => by rw [← q206_] at e; cases e
      rw [if_pos (show b01 false = 0 from rfl), y206 rfl]
      obtain ⟨b207, τ207, g207, q207, y207, n207⟩ := q_skip (h0 := h0) (qs := qs) (ks := ks) (m := m) hf hT h (show (547, "if", 207) ∈ zKp by decide) (by omega)
      have q207_ : b207 = aIs kk 207 i := q207
      rw [g207, zci_at]
      cases b207 with
      | true =>
        have c207 : aIs kk 207 i = true := q207_.symm
        obtain ⟨i', ei, hlt, -, h1, a1⟩ := n207 rfl
        cases ei
        rw [if_neg (show ¬ b01 true = 0 by decide)]
        obtain ⟨τ1, f1, f2, f3, f4, f5, f6⟩ := q_node (h0 := h0) (qs := qs) (ks := ks) (m := m) h1 hN (by omega) 4 (pp i)
        rw [f1, zci_at]
        obtain ⟨v, τ', e1, e2⟩ := q_if (h0 := h0) (qs := qs) (ks := ks) (m := m) hf hT (by omega) hE hi (by omega) (hW m C (by omega) (by omega)) (show k ≤ 1 + k by omega) (hC m (by omega)) (Nat.le_refl _) f2 (a1.tr f3 (Nat.le_refl _) (Nat.le_refl _) (Nat.le_refl _) (Nat.le_refl _) (Nat.le_refl _)) f4 f5 f6
        exact ⟨v, τ', e1, e2.cg (by rw [aE, if_neg c212, if_neg c206, if_pos c207]; rfl)⟩
      | false =>
        have c207 : ¬ aIs kk 207 i = true := fun e => by rw [← q207_] at e; cases e
        rw [if_pos (show b01 false = 0 from rfl), y207 rfl]
        obtain ⟨b201, τ201, g201, q201, y201, n201⟩ := q_skip (h0 := h0) (qs := qs) (ks := ks) (m := m) hf hT h (show (556, "assert", 201) ∈ zKp by decide) (by omega)
        have q201_ : b201 = aIs kk 201 i := q201
        rw [g201, zci_at]
        cases b201 with
        | true =>
          have c201 : aIs kk 201 i = true := q201_.symm
          obtain ⟨i', ei, hlt, -, h1, a1⟩ := n201 rfl
          cases ei
          rw [if_neg (show ¬ b01 true = 0 by decide)]
          obtain ⟨τ1, f1, f2, f3, f4, f5, f6⟩ := q_node (h0 := h0) (qs := qs) (ks := ks) (m := m) h1 hN (by omega) 5 (pp i)
          rw [f1, zci_at]
          obtain ⟨v, τ', e1, e2⟩ := q_assert (h0 := h0) (qs := qs) (ks := ks) (m := m) hf hT (by omega) hE hi (by omega) (hW m C (by omega) (by omega)) (show k ≤ 1 + k by omega) (hC m (by omega)) (Nat.le_refl _) f2 (a1.tr f3 (Nat.le_refl _) (Nat.le_refl _) (Nat.le_refl _) (Nat.le_refl _) (Nat.le_refl _)) f4 f5 f6
          exact ⟨v, τ', e1, e2.cg (by rw [aE, if_neg c212, if_neg c206, if_neg c207, if_pos c201]; rfl)⟩
        | false =>
          have c201 : ¬ aIs kk 201 i = true := fun e => by rw [← q201_] at e; cases e
          rw [if_pos (show b01 false = 0 from rfl), y201 rfl]
          obtain ⟨b220, τ220, g220, q220, y220, n220⟩ := q_skip (h0 := h0) (qs := qs) (ks := ks) (m := m) hf hT h (show (558, "set", 220) ∈ zKp by decide) (by omega)
          have q220_ : b220 = aIs kk 220 i := q220
          rw [g220, zci_at]
          cases b220 with
          | true =>
            have c220 : aIs kk 220 i = true := q220_.symm
            obtain ⟨i', ei, hlt, -, h1, a1⟩ := n220 rfl
            cases ei
            rw [if_neg (show ¬ b01 true = 0 by decide)]
            obtain ⟨τ1, f1, f2, f3, f4, f5, f6⟩ := q_node (h0 := h0) (qs := qs) (ks := ks) (m := m) h1 hN (by omega) 6 (pp i)
            rw [f1, zci_at]
            obtain ⟨v, τ', e1, e2⟩ := q_set (h0 := h0) (qs := qs) (ks := ks) (m := m) hf hT (by omega) hE hi (by omega) (hW m C (by omega) (by omega)) (show k ≤ 1 + k by omega) f2 (a1.tr f3 (Nat.le_refl _) (Nat.le_refl _) (Nat.le_refl _) (Nat.le_refl _) (Nat.le_refl _)) f4 f5 f6
            exact ⟨v, τ', e1, e2.cg (by rw [aE, if_neg c212, if_neg c206, if_neg c207, if_neg c201, if_pos c220])⟩
          | false =>
            have c220 : ¬ aIs kk 220 i = true := fun e => by rw [← q220_] at e; cases e
            rw [if_pos (show b01 false = 0 from rfl), y220 rfl]
            obtain ⟨b215, τ215, g215, q215, y215, n215⟩ := q_skip (h0 := h0) (qs := qs) (ks := ks) (m := m) hf hT h (show (567, "new", 215) ∈ zKp by decide) (by omega)
            have q215_ : b215 = aIs kk 215 i := q215
            rw [g215, zci_at]
            cases b215 with
            | true =>
              have c215 : aIs kk 215 i = true := q215_.symm
              obtain ⟨i', ei, hlt, -, h1, a1⟩ := n215 rfl
              cases ei
              rw [if_neg (show ¬ b01 true = 0 by decide)]
              obtain ⟨τ1, f1, f2, f3, f4, f5, f6⟩ := q_node (h0 := h0) (qs := qs) (ks := ks) (m := m) h1 hN (by omega) 7 (pp i)
              rw [f1, zci_at]
              obtain ⟨v, τ', e1, e2⟩ := q_new (h0 := h0) (qs := qs) (ks := ks) (m := m) hf hT (by omega) hE hi (by omega) (hW m C (by omega) (by omega)) (show k ≤ 1 + k by omega) f2 (a1.tr f3 (Nat.le_refl _) (Nat.le_refl _) (Nat.le_refl _) (Nat.le_refl _) (Nat.le_refl _)) f4 f5 f6
              exact ⟨v, τ', e1, e2.cg (by rw [aE, if_neg c212, if_neg c206, if_neg c207, if_neg c201, if_neg c220, if_pos c215])⟩
            | false =>
              have c215 : ¬ aIs kk 215 i = true := fun e => by rw [← q215_] at e; cases e
              rw [if_pos (show b01 false = 0 from rfl), y215 rfl]
              obtain ⟨b216, τ216, g216, q216, y216, n216⟩ := q_skip (h0 := h0) (qs := qs) (ks := ks) (m := m) hf hT h (show (569, "nil", 216) ∈ zKp by decide) (by omega)
              have q216_ : b216 = aIs kk 216 i := q216
              rw [g216, zci_at]
              cases b216 with
              | true =>
                have c216 : aIs kk 216 i = true := q216_.symm
                obtain ⟨i', ei, hlt, -, h1, a1⟩ := n216 rfl
                cases ei
                rw [if_neg (show ¬ b01 true = 0 by decide)]
                obtain ⟨τ1, f1, f2, f3, f4, f5, f6⟩ := q_node (h0 := h0) (qs := qs) (ks := ks) (m := m) h1 hN (by omega) 17 (pp i)
                rw [f1, zci_at]
                refine ⟨_, τ1, rfl, LEAF (g := 17) (by rw [aE, if_neg c212, if_neg c206, if_neg c207, if_neg c201, if_neg c220, if_neg c215, if_pos c216]) hlt f2 (a1.tr f3 (Nat.le_refl _) (Nat.le_refl _) (Nat.le_refl _) (Nat.le_refl _) (Nat.le_refl _)) ⟨⟨(Nat.le_refl _), Nat.lt_succ_self N⟩, f4, f5⟩⟩
              | false =>
                have c216 : ¬ aIs kk 216 i = true := fun e => by rw [← q216_] at e; cases e
                rw [if_pos (show b01 false = 0 from rfl), y216 rfl]
                obtain ⟨b203, τ203, g203, q203, y203, n203⟩ := q_skip (h0 := h0) (qs := qs) (ks := ks) (m := m) hf hT h (show (571, "cons", 203) ∈ zKp by decide) (by omega)
                have q203_ : b203 = aIs kk 203 i := q203
                rw [g203, zci_at]
                cases b203 with
                | true =>
                  have c203 : aIs kk 203 i = true := q203_.symm
                  obtain ⟨i', ei, hlt, -, h1, a1⟩ := n203 rfl
                  cases ei
                  rw [if_neg (show ¬ b01 true = 0 by decide)]
                  obtain ⟨τ1, f1, f2, f3, f4, f5, f6⟩ := q_node (h0 := h0) (qs := qs) (ks := ks) (m := m) h1 hN (by omega) 18 (pp i)
                  rw [f1, zci_at]
                  obtain ⟨v, τ', e1, e2⟩ := q_cons (h0 := h0) (qs := qs) (ks := ks) (m := m) hf hT (by omega) hE hi (by omega) (hW m C (by omega) (by omega)) (show k ≤ 1 + k by omega) f2 (a1.tr f3 (Nat.le_refl _) (Nat.le_refl _) (Nat.le_refl _) (Nat.le_refl _) (Nat.le_refl _)) f4 f5 f6
                  exact ⟨v, τ', e1, e2.cg (by rw [aE, if_neg c212, if_neg c206, if_neg c207, if_neg c201, if_neg c220, if_neg c215, if_neg c216, if_pos c203])⟩
                | false =>
                  have c203 : ¬ aIs kk 203 i = true := fun e => by rw [← q203_] at e; cases e
                  rw [if_pos (show b01 false = 0 from rfl), y203 rfl]
                  obtain ⟨b214, τ214, g214, q214, y214, n214⟩ := q_skip (h0 := h0) (qs := qs) (ks := ks) (m := m) hf hT h (show (573, "match", 214) ∈ zKp by decide) (by omega)
                  have q214_ : b214 = aIs kk 214 i := q214
                  rw [g214, zci_at]
                  cases b214 with
                  | true =>
                    have c214 : aIs kk 214 i = true := q214_.symm
                    obtain ⟨i', ei, hlt, -, h1, a1⟩ := n214 rfl
                    cases ei
                    rw [if_neg (show ¬ b01 true = 0 by decide)]
                    obtain ⟨m1, rfl⟩ : ∃ m1, m = m1 + 1 := ⟨m - 1, by omega⟩
                    rw [zE_matching]
                    unfold b_matching
                    obtain ⟨τ1, f1, f2, f3, f4, f5, f6⟩ := q_node (h0 := h0) (qs := qs) (ks := ks) (m := m1) h1 hN (by omega) 19 (pp i)
                    rw [f1, zci_at]
                    obtain ⟨v, τ', e1, e2⟩ := q_match (h0 := h0) (qs := qs) (ks := ks) (m := m1) hf hT (by omega) hE hi (by omega) (hW m1 C (by omega) (by omega)) (show k ≤ 1 + k by omega) f2 (a1.tr f3 (Nat.le_refl _) (Nat.le_refl _) (Nat.le_refl _) (Nat.le_refl _) (Nat.le_refl _)) f4 f5 f6
                    rw [e1, zci_at]
                    exact ⟨v, τ', rfl, e2.cg (by rw [aE, if_neg c212, if_neg c206, if_neg c207, if_neg c201, if_neg c220, if_neg c215, if_neg c216, if_neg c203, if_pos c214])⟩
                  | false =>
                    have c214 : ¬ aIs kk 214 i = true := fun e => by rw [← q214_] at e; cases e
                    rw [if_pos (show b01 false = 0 from rfl), y214 rfl]
                    obtain ⟨b223, g223, q223⟩ := q_here (h0 := h0) (qs := qs) (ks := ks) (m := m) hf hT h (show (578, "true", 223) ∈ zKp by decide) (by omega)
                    have q223_ : b223 = aIs kk 223 i := q223
                    obtain ⟨b205, g205, q205⟩ := q_here (h0 := h0) (qs := qs) (ks := ks) (m := m) hf hT h (show (580, "false", 205) ∈ zKp by decide) (by omega)
                    have q205_ : b205 = aIs kk 205 i := q205
                    have J615 : ∀ tv : Bool, (tv = aIs kk 223 i) → i < cnt → aE kk T (k + 1) i = .inr (tN (if tv = true then 8 else 9) i 0 0 s0 s0 tZ tZ, i + 1) → ∃ v τ', j_expression_615 T (zF h0 qs ks T m) h0 qs ks (pp i) τ = some (some (.int v), τ') ∧ rPe T len cnt kk pp ee f d C τ N S P A (.inr i) (aE kk T (k + 1)) (1 + k) v τ' := fun tv htv hlt ea => by
                      unfold j_expression_615
                      rw [g223, zci_at]
                      have e0 : (if b01 b223 = 0 then j_expression_633 T (zF h0 qs ks T m) h0 qs ks (pp i) 9 τ else j_expression_633 T (zF h0 qs ks T m) h0 qs ks (pp i) 8 τ) = j_expression_633 T (zF h0 qs ks T m) h0 qs ks (pp i) (nI (if tv = true then 8 else 9)) τ := by
                        rw [q223_, ← htv]
                        cases tv <;> rfl
                      rw [e0]
                      unfold j_expression_633
                      obtain ⟨τ1, f1, f2, f3, f4, f5, f6⟩ := q_node (h0 := h0) (qs := qs) (ks := ks) (m := m) h hN (by omega) (nI (if tv = true then 8 else 9)) (pp i)
                      have w10 : τ1.1 10 = nI i := f2.2.2.2.1
                      rw [f1, zci_at, zlet_at, w10, show nI i + 1 = nI (i + 1) by rw [nI_1]]
                      obtain ⟨k1, k2⟩ := f2.nx hlt
                      refine ⟨_, _, rfl, LEAF ea hlt k1 (f3.tr k2 (Nat.le_succ _) (Nat.le_refl _) (Nat.le_refl _) (Nat.le_refl _) (Nat.le_refl _)) ?_⟩
                      cases tv
                      · exact ⟨⟨(Nat.le_refl _), Nat.lt_succ_self N⟩, f4, f5⟩
                      · exact ⟨⟨(Nat.le_refl _), Nat.lt_succ_self N⟩, f4, f5⟩
                    rw [g223, zci_at]
                    cases b223 with
                    | true =>
                      have c223 : aIs kk 223 i = true := q223_.symm
                      rw [if_neg (show ¬ b01 true = 0 by decide)]
                      exact J615 true q223_ (h.1.lt hi (by decide) c223) (by rw [aE, if_neg c212, if_neg c206, if_neg c207, if_neg c201, if_neg c220, if_neg c215, if_neg c216, if_neg c203, if_neg c214, if_pos c223]; rfl)
                    | false =>
                      have c223 : ¬ aIs kk 223 i = true := fun e => by rw [← q223_] at e; cases e
                      rw [if_pos (show b01 false = 0 from rfl), g205, zci_at]
                      cases b205 with
                      | true =>
                        have c205 : aIs kk 205 i = true := q205_.symm
                        rw [if_neg (show ¬ b01 true = 0 by decide)]
                        exact J615 false q223_ (h.1.lt hi (by decide) c205) (by rw [aE, if_neg c212, if_neg c206, if_neg c207, if_neg c201, if_neg c220, if_neg c215, if_neg c216, if_neg c203, if_neg c214, if_neg c223, if_pos c205]; rfl)
                      | false =>
                        have c205 : ¬ aIs kk 205 i = true := fun e => by rw [← q205_] at e; cases e
                        rw [if_pos (show b01 false = 0 from rfl)]
                        obtain ⟨b40, τ40, g40, q40, y40, n40⟩ := q_skip (h0 := h0) (qs := qs) (ks := ks) (m := m) hf hT h (show (582, "(", 40) ∈ zKp by decide) (by omega)
                        have q40_ : b40 = aIs kk 40 i := q40
                        rw [g40, zci_at]
                        cases b40 with
                        | true =>
                          have c40 : aIs kk 40 i = true := q40_.symm
                          obtain ⟨i', ei, hlt, -, h1, a1⟩ := n40 rfl
                          cases ei
                          rw [if_neg (show ¬ b01 true = 0 by decide)]
                          obtain ⟨τ1, f1, f2, f3, f4, f5, f6⟩ := q_node (h0 := h0) (qs := qs) (ks := ks) (m := m) h1 hN (by omega) 16 (pp i)
                          rw [f1, zci_at]
                          obtain ⟨v, τ', e1, e2⟩ := q_paren (h0 := h0) (qs := qs) (ks := ks) (m := m) hf hT (by omega) hE hi (by omega) (hW m C (by omega) (by omega)) (show k ≤ 1 + k by omega) f2 (a1.tr f3 (Nat.le_refl _) (Nat.le_refl _) (Nat.le_refl _) (Nat.le_refl _) (Nat.le_refl _)) f4 f5 f6
                          exact ⟨v, τ', e1, e2.cg (by rw [aE, if_neg c212, if_neg c206, if_neg c207, if_neg c201, if_neg c220, if_neg c215, if_neg c216, if_neg c203, if_neg c214, if_neg c223, if_neg c205, if_pos c40])⟩
                        | false =>
                          have c40 : ¬ aIs kk 40 i = true := fun e => by rw [← q40_] at e; cases e
                          rw [if_pos (show b01 false = 0 from rfl), y40 rfl]
                          obtain ⟨m2, rfl⟩ : ∃ m2, m = m2 + 2 := ⟨m - 2, by omega⟩
                          obtain ⟨v, τ', e1, e2⟩ := q_simple (h0 := h0) (qs := qs) (ks := ks) (m := m2) hf hT (by omega) hE (by omega) (by omega) hCd (by omega) (fun C' hC' => hW m2 C' (by omega) hC') (show k ≤ 1 + k by omega) h
                          rw [e1, zci_at]
                          exact ⟨v, τ', rfl, e2.cg (by rw [aE, if_neg c212, if_neg c206, if_neg c207, if_neg c201, if_neg c220, if_neg c215, if_neg c216, if_neg c203, if_neg c214, if_neg c223, if_neg c205, if_neg c40])⟩
/-- expression() by levels -/
theorem q_expr (hf : lFacts κ ks sz) (hT : 2010 ≤ T) : ∀ (k d m C : Nat), d + k = 30 → 13 + 4 * k ≤ m → C ≤ 12 * d → ∀ (s : Sum Nat Nat) (τ : zSt) (N S P A : Nat), rR T len cnt kk pp ee f d τ N S P A C s → rE4 N S P A s → ∃ v τ', zF h0 qs ks T m 26 [.ref h0] τ = some (some (.int v), τ') ∧ rPe T len cnt kk pp ee f d C τ N S P A s (aE kk T (k + 1)) (1 + k) v τ' := by
  intro k
  induction k using Nat.strongRecOn with
  | ind k IH =>
    intro d m C hd hm hCd s τ N S P A h hE
    cases s with
    | inl j => exact ⟨0, τ, q_exprB (h0 := h0) (qs := qs) (ks := ks) h (by omega), rPe.b h⟩
    | inr i =>
      obtain ⟨m1, rfl⟩ : ∃ m1, m = m1 + 1 := ⟨m - 1, by omega⟩
      exact q_expr1 (h0 := h0) (qs := qs) (ks := ks) (m := m1) hf hT (by omega) (hE i rfl) hd hCd (fun mm C' a b s τ N S P A h1 h2 => q_within (h0 := h0) (qs := qs) (ks := ks) (m := mm) hd a h1 h2 (fun k' e s τ N S P A mm' hm' h3 h4 => IH k' (by omega) (d + 1) mm' C' (by omega) hm' b s τ N S P A h3 h4)) (fun mm a s τ N S P h1 h2 => q_cond (h0 := h0) (qs := qs) (ks := ks) (m := mm) hf hT hd a h1 h2) h
end RXP
