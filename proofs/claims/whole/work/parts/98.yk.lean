/-! the reference reads an E that no keyword begins -/
section RSP
variable {κ : oKv} {ks : Nat → Nat} {qs : List Nat} {T m h0 len cnt sz d N S P A C z i k zc n : Nat} {τ τ0 : zSt} {s : Sum Nat Nat} {kk pp ee f : Nat → Int32} {G H : Nat → aR tT}
set_option maxHeartbeats 1000000 in
theorem q_gtl (hf : lFacts κ ks sz) (hT : 2010 ≤ T) (hm : 5 ≤ m) (hE : N ≤ i ∧ S ≤ i ∧ P ≤ i ∧ A ≤ i) (hi : i ≤ cnt) (hz1 : z ≤ 31) (h0_ : rR T len cnt kk pp ee f d τ0 (N + 1) S P A C (.inr (i + 2))) (g0 : rAg N S P A C τ τ0) (w0_0 : nV τ0 N 0 = nI 14) (w1_0 : nV τ0 N 1 = pp i) (w2_0 : nV τ0 N 2 = pp (i + 1)) (w3_0 : nV τ0 N 3 = nI i) : ∃ v τ', (zci (zF h0 qs ks T m 21 [.ref h0] τ0) fun r24 s22 => zgd (zin (nI N) 2100) (zlet (zA s22 10 (upd (s22.2.2.1 10) (nI N).toNatClampNeg r24)) fun s26 => zcv (zF h0 qs ks T m 14 [.ref h0, .ref (ks 565)] s26) fun s28 => some (some (.int (nI N)), s28))) = some (some (.int v), τ') ∧ rPe T len cnt kk pp ee f d C τ N S P A (.inr i) (fun i => (aSm kk T (i + 2)).on fun s j => (aMs kk 93 j).on fun _ j' => .inr (tN 14 i 0 0 s s0 tZ tZ, j')) z v τ' := by
  have A0 : aA4 cnt z 0 N S P A i (N + 1) S P A (Sum.inr (i + 2)) := aA4.nd.st (show i + 1 ≤ i + 2 by omega) (fun z => Nat.le_refl _)
  skip
  have hcn := h0_.1.cn
  have hn0 : N < N + 1 := Nat.lt_succ_self N
  have hN : N < 2100 := by omega
  have zN := zin_n hN (show 2100 < 2 ^ 31 by decide)
  have cN : (nI N).toNatClampNeg = N := nI_clamp (by omega)
  try simp only [cN]
  have bd1 := A0.bd hE h0_.po
  obtain ⟨τ1, P1, f1, h1_, a1, pa1, pb1, rp_s⟩ := q_sum (h0 := h0) (qs := qs) (ks := ks) (m := m) hf hT h0_ (by omega) bd1.2.2.1 (by omega)
  rw [f1, zci_at]
  have g1 := g0.tr a1 A0.1.1 A0.2.1.1 A0.2.2.1.1 A0.2.2.2.1 (Nat.le_refl _)
  have eN1 : nV τ1 N = nV τ0 N := (a1.at 0).1 N (Nat.zero_le _) hn0
  have w0_1 := (congrFun eN1 0).trans w0_0
  have w1_1 := (congrFun eN1 1).trans w1_0
  have w2_1 := (congrFun eN1 2).trans w2_0
  have w3_1 := (congrFun eN1 3).trans w3_0
  have A1 := A0.sm (T := T) (kk := kk) h0_.po pa1 pb1
  have hn1 := hn0
  have t_s_1 : rAt 0 0 (S + 1) P1 A τ1 τ1 := (rAg.rf (C := C) τ1).at 0
  rw [zgd_at zN, zlet_at]
  have h2_ := h1_.a (upd (τ1.2.2.1 10) N (nI S)) (show 6 ≤ 10 by omega)
  have g2 := g1.a (k := 10) (x := N) (v := (nI S)) (rFz.n6 (by omega) (by omega) (Nat.le_refl N))
  have w0_2 := (nV_wn τ1 N (nI S) (k := 10) (c := 4) (q := 0) rfl (by decide)).trans w0_1
  have w1_2 := (nV_wn τ1 N (nI S) (k := 10) (c := 4) (q := 1) rfl (by decide)).trans w1_1
  have w2_2 := (nV_wn τ1 N (nI S) (k := 10) (c := 4) (q := 2) rfl (by decide)).trans w2_1
  have w3_2 := (nV_wn τ1 N (nI S) (k := 10) (c := 4) (q := 3) rfl (by decide)).trans w3_1
  have w4_2 := nV_we τ1 N (nI S) (k := 10) (q := 4) rfl
  have t_s_2 := t_s_1.tr (rAt_zA τ1 (nI S) (k := 10) (n := N) (by omega) (by omega) (Or.inr (Nat.zero_le _)))
  generalize zA τ1 10 (upd (τ1.2.2.1 10) N (nI S)) = τ2 at h2_ g2 w0_2 w1_2 w2_2 w3_2 w4_2 t_s_2 ⊢
  have A2 := A1
  have hn2 := hn1
  obtain ⟨τ3, f3, h3_, a3⟩ := q_must (h0 := h0) (qs := qs) (ks := ks) (m := m) hf hT h2_ (show (565, "]", 93) ∈ zKp by decide) (by omega)
  rw [f3, zcv_at]
  have g3 := g2.tr a3 A2.1.1 A2.2.1.1 A2.2.2.1.1 A2.2.2.2.1 (Nat.le_refl _)
  have eN3 : nV τ3 N = nV τ2 N := (a3.at 0).1 N (Nat.zero_le _) hn2
  have w0_3 := (congrFun eN3 0).trans w0_2
  have w1_3 := (congrFun eN3 1).trans w1_2
  have w2_3 := (congrFun eN3 2).trans w2_2
  have w3_3 := (congrFun eN3 3).trans w3_2
  have w4_3 := (congrFun eN3 4).trans w4_2
  have t_s_3 := t_s_2.tr ((a3.at 0).wk (Nat.le_refl _) (by omega) (by omega) (by omega) (by omega))
  have A3 := A2.ms h3_
  have hn3 := hn2
  have eT : aTo (.inr i) (fun i => (aSm kk T (i + 2)).on fun s j => (aMs kk 93 j).on fun _ j' => (Sum.inr (tN 14 i 0 0 s s0 tZ tZ, j') : aR tT)) = (aTo (aTo (Sum.inr (i + 2)) (aSm kk T)) (aMs kk 93)) := on_st (H := fun s => aTo (s) (aMs kk 93)) (fun _ => rfl) (fun _ _ => on_st (H := fun s => s) (fun _ => rfl) (fun _ _ => rfl))
  refine ⟨_, τ3, rfl, (N + 1), (S + 1), P1, A, N, ?_⟩
  rw [eT]
  refine ⟨h3_, g3, fun i' e => (by cases e; exact A3.mo (Nat.le_refl _) (by omega)), fun j e => (by cases e), ⟨rfl, hN⟩, fun i' t j e e' => ?_⟩
  cases e
  obtain ⟨c0, j0, y0, e'⟩ := on_ok e'
  obtain ⟨c1, j1, y1, e'⟩ := on_ok e'
  obtain ⟨u1, rfl⟩ := aMs_ok y1
  cases e'
  obtain ⟨l0, l0_, L0⟩ := rp_s _ _ _ rfl y0
  have M0 := t_s_3.sm (S' := (S + 1)) (P' := P1) L0 (by omega) (by omega)
  exact ⟨by omega, ⟨(Nat.le_refl _), by omega⟩, ⟨⟨(Nat.le_refl _), by omega⟩, w0_3, w1_3⟩, ⟨w2_3, w3_3⟩, _, w4_3, M0⟩
theorem rPe.cg {F F' : Nat → aR tT} {v : Int32} {τ' : zSt} (h : rPe T len cnt kk pp ee f d C τ N S P A (.inr i) F z v τ') (e : F' i = F i) : rPe T len cnt kk pp ee f d C τ N S P A (.inr i) F' z v τ' := by
  obtain ⟨N', S', P', A', x, h1, h2, h3, h4, h5, h6⟩ := h
  have e2 : aTo (.inr i) F' = aTo (.inr i) F := by rw [aTo_ok, aTo_ok, e]
  refine ⟨N', S', P', A', x, ?_⟩
  rw [e2]
  refine ⟨h1, h2, h3, h4, h5, fun i' t j a b => ?_⟩
  cases a
  rw [e] at b
  exact h6 i t j rfl b
set_option maxHeartbeats 1000000 in
/-- an S, or two with a sign -/
theorem q_oq (hf : lFacts κ ks sz) (hT : 2010 ≤ T) (hm : 5 ≤ m) (hE : N ≤ i ∧ S ≤ i ∧ P ≤ i ∧ A ≤ i) (hz0 : 1 ≤ z) (h : rR T len cnt kk pp ee f d τ N S P A C (.inr i)) : ∃ v τ', j_simple_139 T (zF h0 qs ks T m) h0 qs ks (pp i) τ = some (some (.int v), τ') ∧ rPe T len cnt kk pp ee f d C τ N S P A (.inr i) (aOq kk T) z v τ' := by
  have hcn := h.1.cn
  have hi := h.2.2.2.2
  have hN : N < 2100 := by omega
  have zN := zin_n hN (show 2100 < 2 ^ 31 by decide)
  have cN : (nI N).toNatClampNeg = N := nI_clamp (by omega)
  unfold j_simple_139
  obtain ⟨τ1, f1, f2, f3, f4, f5, f6⟩ := q_node (h0 := h0) (qs := qs) (ks := ks) (m := m) h hN (by omega) 10 (pp i)
  rw [f1, zci_at]
  obtain ⟨τ2, P2, p1, p2, p3, p4, p5, p6⟩ := q_sum (h0 := h0) (qs := qs) (ks := ks) (m := m) hf hT f2 (show S < 2100 by omega) (show P ≤ i by omega) (by omega)
  rw [p1, zci_at, cN, zgd_at zN, zlet_at]
  have eN : nV τ2 N = nV τ1 N := (p3.at 0).1 N (Nat.zero_le _) (Nat.lt_succ_self N)
  have h3 := p2.a (upd (τ2.2.2.1 10) N (nI S)) (show 6 ≤ 10 by omega)
  have g3 := (f3.tr p3 (Nat.le_succ _) (Nat.le_refl _) (Nat.le_refl _) (Nat.le_refl _) (Nat.le_refl _)).a (k := 10) (x := N) (v := nI S) (rFz.n6 (by omega) (by omega) (Nat.le_refl N))
  have v0 : nV (zA τ2 10 (upd (τ2.2.2.1 10) N (nI S))) N 0 = nI 10 := by rw [nV_wn _ N _ (c := 4) rfl (by decide), eN]; exact f4
  have v1 : nV (zA τ2 10 (upd (τ2.2.2.1 10) N (nI S))) N 1 = pp i := by rw [nV_wn _ N _ (c := 4) rfl (by decide), eN]; exact f5
  have v4 : nV (zA τ2 10 (upd (τ2.2.2.1 10) N (nI S))) N 4 = nI S := nV_we _ N _ (k := 10) (q := 4) rfl
  have t3 : rAt 0 0 (S + 1) P2 A τ2 (zA τ2 10 (upd (τ2.2.2.1 10) N (nI S))) := rAt_zA τ2 _ (by omega) (by omega) (Or.inr (Nat.zero_le _))
  generalize zA τ2 10 (upd (τ2.2.2.1 10) N (nI S)) = τ3 at h3 g3 v0 v1 v4 t3 ⊢
  have p5' : P2 + i ≤ P + aPo cnt (aTo (.inr i) (aSm kk T)) := p5
  obtain ⟨b1, g1, q1⟩ := q_here (h0 := h0) (qs := qs) (ks := ks) (m := m) hf hT h3 (show (508, "*", 42) ∈ zKp by decide) (by omega)
  obtain ⟨b2, g2, q2⟩ := q_here (h0 := h0) (qs := qs) (ks := ks) (m := m) hf hT h3 (show (598, "/", 47) ∈ zKp by decide) (by omega)
  obtain ⟨b4, g4, q4⟩ := q_here (h0 := h0) (qs := qs) (ks := ks) (m := m) hf hT h3 (show (600, "%", 37) ∈ zKp by decide) (by omega)
  cases es : aSm kk T i with
  | inl j =>
    have eT : aTo (.inr i) (aSm kk T) = .inl j := by rw [aTo_ok, es]; rfl
    have eO : aOq kk T i = .inl j := by unfold aOq; rw [es]; rfl
    have eU : aTo (.inr i) (aOq kk T) = .inl j := by rw [aTo_ok, eO]; rfl
    rw [eT] at q1 q2 q4 h3 p5'
    have q1' : b1 = false := q1
    have q2' : b2 = false := q2
    have q4' : b4 = false := q4
    subst q1' q2' q4'
    rw [g1, zci_at, if_pos (show b01 false = 0 from rfl), g2, zci_at, if_pos (show b01 false = 0 from rfl), g4, zci_at, if_pos (show b01 false = 0 from rfl)]
    have p5'' : P2 + i ≤ P + cnt := p5'
    refine ⟨_, τ3, rfl, N + 1, S + 1, P2, A, N, ?_⟩
    rw [eU]
    refine ⟨h3, g3, fun i' e => ?_, fun j e => (by cases e), ⟨rfl, hN⟩, fun i' t j e e' => ?_⟩
    · cases e
      refine ⟨⟨by omega, ?_⟩, ⟨by omega, ?_⟩, ⟨p4, ?_⟩, (Nat.le_refl _), ?_⟩
      · show N + 1 + i ≤ N + cnt + z; omega
      · show S + 1 + i ≤ S + cnt + 5; omega
      · show P2 + i ≤ P + cnt + 0; omega
      · show A + i ≤ A + cnt + 0; omega
    · cases e
      rw [eO] at e'
      cases e'
  | inr r =>
    obtain ⟨t, j⟩ := r
    have eT : aTo (.inr i) (aSm kk T) = .inr j := by rw [aTo_ok, es]; rfl
    rw [eT] at q1 q2 q4 h3 p5'
    obtain ⟨r1, r2, r3⟩ := p6 i t j rfl es
    have hj := h3.2.2.2.2
    have q1' : b1 = aIs kk 42 j := q1
    have q2' : b2 = aIs kk 47 j := q2
    have q4' : b4 = aIs kk 37 j := q4
    have p5'' : P2 + i ≤ P + j := p5'
    have r4 : rSm pp τ3 (S + 1) P2 S t := t3.sm r3 (Nat.le_refl _) (Nat.le_refl _)
    -- a sign and a second S
    have OP : ∀ g : Nat, g < 100 → j < cnt → (aOq kk T i = (aSm kk T (j + 1)).on fun s' j' => .inr (tN g i j 0 t s' tZ tZ, j')) → (∀ (τ' : zSt) (N' S' P' A' x : Nat), (rNd pp τ' N N' x g i ∧ nV τ' x 2 = pp j ∧ ∃ y w, (nV τ' x 4 = nI y ∧ nV τ' x 5 = nI w) ∧ rSm pp τ' S' P' y t ∧ ∀ s' j', aSm kk T (j + 1) = .inr (s', j') → rSm pp τ' S' P' w s') → ∀ s' j', aSm kk T (j + 1) = .inr (s', j') → rTr pp τ' N N' S' P' A' (tN g i j 0 t s' tZ tZ) 0 0 x) → ∃ v τ', j_simple_224 T (zF h0 qs ks T m) h0 qs ks (nI N) (nI N) (nI g) τ3 = some (some (.int v), τ') ∧ rPe T len cnt kk pp ee f d C τ N S P A (.inr i) (aOq kk T) z v τ' := fun g hg hlt eO hR => by
      have w10 : τ3.1 10 = nI j := h3.2.2.2.1
      have w4 : τ3.2.2.1 4 j = pp j := h3.1.pl hj
      unfold j_simple_224
      simp only [zlet, zA1, cN, zgd_at zN, w10, zgd_at (zin_n (show j < 2010 by omega) (show 2010 < 2 ^ 31 by decide)), nI_clamp (show j < 2 ^ 31 by omega), zAn _ _ (show 4 ≠ 6 by decide), w4, show nI j + 1 = nI (j + 1) by rw [nI_1]]
      obtain ⟨k1, k2⟩ := ((h3.a (upd (τ3.2.2.1 6) N (nI g)) (show 6 ≤ 6 by omega)).a (upd ((zA τ3 6 (upd (τ3.2.2.1 6) N (nI g))).2.2.1 8) N (pp j)) (show 6 ≤ 8 by omega)).nx hlt
      have k3 := ((g3.a (k := 6) (x := N) (v := nI g) (rFz.n6 (by omega) (by omega) (Nat.le_refl N))).a (k := 8) (x := N) (v := pp j) (rFz.n6 (by omega) (by omega) (Nat.le_refl N))).i (k := 10) (v := nI (j + 1)) (by omega)
      have k4 : rAt 0 0 (S + 1) P2 A τ3 (zI (zA (zA τ3 6 (upd (τ3.2.2.1 6) N (nI g))) 8 (upd ((zA τ3 6 (upd (τ3.2.2.1 6) N (nI g))).2.2.1 8) N (pp j))) 10 (nI (j + 1))) := ((rAt_zA τ3 (nI g) (k := 6) (n := N) (by omega) (by omega) (Or.inr (Nat.zero_le _))).tr (rAt_zA _ (pp j) (k := 8) (n := N) (by omega) (by omega) (Or.inr (Nat.zero_le _)))).tr ⟨fun _ _ _ => rfl, fun _ _ _ _ _ => rfl, fun _ _ _ _ _ => rfl, fun _ _ => rfl⟩
      have u0 : nV (zI (zA (zA τ3 6 (upd (τ3.2.2.1 6) N (nI g))) 8 (upd ((zA τ3 6 (upd (τ3.2.2.1 6) N (nI g))).2.2.1 8) N (pp j))) 10 (nI (j + 1))) N 0 = nI g := by
        show nV (zA (zA τ3 6 (upd (τ3.2.2.1 6) N (nI g))) 8 (upd ((zA τ3 6 (upd (τ3.2.2.1 6) N (nI g))).2.2.1 8) N (pp j))) N 0 = nI g
        rw [nV_wn _ N _ (c := 2) rfl (by decide), nV_we _ N _ (k := 6) (q := 0) rfl]
      have u1 : nV (zI (zA (zA τ3 6 (upd (τ3.2.2.1 6) N (nI g))) 8 (upd ((zA τ3 6 (upd (τ3.2.2.1 6) N (nI g))).2.2.1 8) N (pp j))) 10 (nI (j + 1))) N 1 = pp i := by
        show nV (zA (zA τ3 6 (upd (τ3.2.2.1 6) N (nI g))) 8 (upd ((zA τ3 6 (upd (τ3.2.2.1 6) N (nI g))).2.2.1 8) N (pp j))) N 1 = pp i
        rw [nV_wn _ N _ (c := 2) rfl (by decide), nV_wn _ N _ (c := 0) rfl (by decide)]; exact v1
      have u2 : nV (zI (zA (zA τ3 6 (upd (τ3.2.2.1 6) N (nI g))) 8 (upd ((zA τ3 6 (upd (τ3.2.2.1 6) N (nI g))).2.2.1 8) N (pp j))) 10 (nI (j + 1))) N 2 = pp j := by
        show nV (zA (zA τ3 6 (upd (τ3.2.2.1 6) N (nI g))) 8 (upd ((zA τ3 6 (upd (τ3.2.2.1 6) N (nI g))).2.2.1 8) N (pp j))) N 2 = pp j
        rw [nV_we _ N _ (k := 8) (q := 2) rfl]
      have u4 : nV (zI (zA (zA τ3 6 (upd (τ3.2.2.1 6) N (nI g))) 8 (upd ((zA τ3 6 (upd (τ3.2.2.1 6) N (nI g))).2.2.1 8) N (pp j))) 10 (nI (j + 1))) N 4 = nI S := by
        show nV (zA (zA τ3 6 (upd (τ3.2.2.1 6) N (nI g))) 8 (upd ((zA τ3 6 (upd (τ3.2.2.1 6) N (nI g))).2.2.1 8) N (pp j))) N 4 = nI S
        rw [nV_wn _ N _ (c := 2) rfl (by decide), nV_wn _ N _ (c := 0) rfl (by decide)]; exact v4
      generalize zI (zA (zA τ3 6 (upd (τ3.2.2.1 6) N (nI g))) 8 (upd ((zA τ3 6 (upd (τ3.2.2.1 6) N (nI g))).2.2.1 8) N (pp j))) 10 (nI (j + 1)) = τ4 at k1 k3 k4 u0 u1 u2 u4 ⊢
      obtain ⟨τ5, P5, l1, l2, l3, l4, l5, l6⟩ := q_sum (h0 := h0) (qs := qs) (ks := ks) (m := m) hf hT k1 (show S + 1 < 2100 by omega) (show P2 ≤ j + 1 by omega) (by omega)
      rw [l1, zci_at]
      have eN5 : nV τ5 N = nV τ4 N := (l3.at 0).1 N (Nat.zero_le _) (Nat.lt_succ_self N)
      have eU : aTo (.inr i) (aOq kk T) = aTo (.inr (j + 1)) (aSm kk T) := by
        rw [aTo_ok, eO]
        exact on_st (H := fun s => s) (fun _ => rfl) (fun _ _ => rfl)
      have hpo := l2.po
      have l5' : P5 + (j + 1) ≤ P2 + aPo cnt (aTo (.inr (j + 1)) (aSm kk T)) := l5
      have y4 : j + 1 ≤ aPo cnt (aTo (.inr (j + 1)) (aSm kk T)) := by omega
      have y5 : S + 2 + i ≤ S + aPo cnt (aTo (.inr (j + 1)) (aSm kk T)) + bz (aTo (.inr (j + 1)) (aSm kk T)) 5 := by omega
      have y6 := bz0 (aTo (.inr (j + 1)) (aSm kk T))
      refine ⟨_, _, rfl, N + 1, S + 1 + 1, P5, A, N, ?_⟩
      rw [eU]
      refine ⟨l2.a _ (by omega), (k3.tr l3 (Nat.le_succ _) (Nat.le_succ _) p4 (Nat.le_refl _) (Nat.le_refl _)).a (rFz.n6 (by omega) (by omega) (Nat.le_refl N)), fun i' e => ?_, fun j e => (by cases e), ⟨rfl, hN⟩, fun i' t' j' e e' => ?_⟩
      · cases e
        exact ⟨⟨by omega, by omega⟩, ⟨by omega, by omega⟩, ⟨by omega, by omega⟩, (Nat.le_refl _), by omega⟩
      · cases e
        rw [eO] at e'
        obtain ⟨s', j1, y1, e'⟩ := on_ok e'
        cases e'
        obtain ⟨x1, x2, x3⟩ := l6 _ _ _ rfl y1
        have W : rAt 0 0 (S + 1 + 1) P5 A τ5 (zA τ5 11 (upd (τ5.2.2.1 11) N (nI (S + 1)))) := rAt_zA τ5 _ (by omega) (by omega) (Or.inr (Nat.zero_le _))
        refine ⟨by omega, ⟨(Nat.le_refl _), by omega⟩, hR _ _ _ _ _ _ ⟨⟨⟨(Nat.le_refl _), by omega⟩, ?_, ?_⟩, ?_, S, S + 1, ⟨?_, ?_⟩, ?_, fun s2 j2 y2 => ?_⟩ s' _ y1⟩
        · rw [nV_wn _ N _ (c := 5) rfl (by decide), eN5]; exact u0
        · rw [nV_wn _ N _ (c := 5) rfl (by decide), eN5]; exact u1
        · rw [nV_wn _ N _ (c := 5) rfl (by decide), eN5]; exact u2
        · rw [nV_wn _ N _ (c := 5) rfl (by decide), eN5]; exact u4
        · exact nV_we _ N _ (k := 11) (q := 5) rfl
        · have a1 : rSm pp τ4 (S + 1) P2 S t := k4.sm r4 (Nat.le_refl _) (Nat.le_refl _)
          have a2 : rSm pp τ5 (S + 1 + 1) P5 S t := a1.ag l3 (Nat.le_succ _) l4
          exact W.sm a2 (Nat.le_refl _) (Nat.le_refl _)
        · rw [y1] at y2
          cases y2
          exact W.sm x3 (Nat.le_refl _) (Nat.le_refl _)
    have J187 : ∀ b1 b2 : Bool, (if b01 b1 = 0 then (if b01 b2 = 0 then j_simple_224 T (zF h0 qs ks T m) h0 qs ks (nI N) (nI N) 13 τ3 else j_simple_224 T (zF h0 qs ks T m) h0 qs ks (nI N) (nI N) 12 τ3) else j_simple_224 T (zF h0 qs ks T m) h0 qs ks (nI N) (nI N) 11 τ3) = j_simple_224 T (zF h0 qs ks T m) h0 qs ks (nI N) (nI N) (nI (if b1 = true then 11 else if b2 = true then 12 else 13)) τ3 := fun b1 b2 => by cases b1 <;> cases b2 <;> rfl
    have K187 : j_simple_187 T (zF h0 qs ks T m) h0 qs ks (nI N) τ3 = j_simple_224 T (zF h0 qs ks T m) h0 qs ks (nI N) (nI N) (nI (if b1 = true then 11 else if b2 = true then 12 else 13)) τ3 := by
      unfold j_simple_187
      rw [g1, zci_at, g2, zci_at]
      exact J187 b1 b2
    rw [g1, zci_at]
    cases b1 with
    | true =>
      have c1 : aIs kk 42 j = true := q1'.symm
      rw [if_neg (show ¬ b01 true = 0 by decide), K187, if_pos rfl]
      exact OP 11 (by decide) (h3.1.lt hj (by decide) c1) (by unfold aOq; rw [es]; show (if aIs kk 42 j = true then _ else _) = _; rw [if_pos c1]) (fun τ' N' S' P' A' x ⟨z1, z2, y, w, z3, z4, z5⟩ s' j' e => ⟨z1, z2, y, w, z3, z4, z5 s' j' e⟩)
    | false =>
      have c1 : ¬ aIs kk 42 j = true := fun e => by rw [← q1'] at e; cases e
      rw [if_pos (show b01 false = 0 from rfl), g2, zci_at]
      cases b2 with
      | true =>
        have c2 : aIs kk 47 j = true := q2'.symm
        rw [if_neg (show ¬ b01 true = 0 by decide), K187, if_neg (by decide), if_pos rfl]
        exact OP 12 (by decide) (h3.1.lt hj (by decide) c2) (by unfold aOq; rw [es]; show (if aIs kk 42 j = true then _ else if aIs kk 47 j = true then _ else _) = _; rw [if_neg c1, if_pos c2]) (fun τ' N' S' P' A' x ⟨z1, z2, y, w, z3, z4, z5⟩ s' j' e => ⟨z1, z2, y, w, z3, z4, z5 s' j' e⟩)
      | false =>
        have c2 : ¬ aIs kk 47 j = true := fun e => by rw [← q2'] at e; cases e
        rw [if_pos (show b01 false = 0 from rfl), g4, zci_at]
        cases b4 with
        | true =>
          have c4 : aIs kk 37 j = true := q4'.symm
          rw [if_neg (show ¬ b01 true = 0 by decide), K187, if_neg (by decide), if_neg (by decide)]
          exact OP 13 (by decide) (h3.1.lt hj (by decide) c4) (by unfold aOq; rw [es]; show (if aIs kk 42 j = true then _ else if aIs kk 47 j = true then _ else if aIs kk 37 j = true then _ else _) = _; rw [if_neg c1, if_neg c2, if_pos c4]) (fun τ' N' S' P' A' x ⟨z1, z2, y, w, z3, z4, z5⟩ s' j' e => ⟨z1, z2, y, w, z3, z4, z5 s' j' e⟩)
        | false =>
          have c4 : ¬ aIs kk 37 j = true := fun e => by rw [← q4'] at e; cases e
          rw [if_pos (show b01 false = 0 from rfl)]
          have eO : aOq kk T i = .inr (tN 10 i 0 0 t s0 tZ tZ, j) := by
            unfold aOq; rw [es]; show (if aIs kk 42 j = true then _ else if aIs kk 47 j = true then _ else if aIs kk 37 j = true then _ else _) = _; rw [if_neg c1, if_neg c2, if_neg c4]
          have eU : aTo (.inr i) (aOq kk T) = .inr j := by rw [aTo_ok, eO]; rfl
          refine ⟨_, τ3, rfl, N + 1, S + 1, P2, A, N, ?_⟩
          rw [eU]
          refine ⟨h3, g3, fun i' e => ?_, fun j e => (by cases e), ⟨rfl, hN⟩, fun i' t' j' e e' => ?_⟩
          · cases e
            refine ⟨⟨by omega, ?_⟩, ⟨by omega, ?_⟩, ⟨p4, ?_⟩, (Nat.le_refl _), ?_⟩
            · show N + 1 + i ≤ N + j + 0; omega
            · show S + 1 + i ≤ S + j + 0; omega
            · show P2 + i ≤ P + j + 0; omega
            · show A + i ≤ A + j + 0; omega
          · cases e
            rw [eO] at e'
            cases e'
            exact ⟨r1, ⟨(Nat.le_refl _), by omega⟩, ⟨⟨(Nat.le_refl _), by omega⟩, v0, v1⟩, S, v4, r4⟩
end RSP
