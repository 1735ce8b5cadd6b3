/-! the reference reads an E: its branches -/
theorem on_st {α β : Type} {r : aR α} {g : α → Nat → aR β} {H : Sum Nat Nat → Sum Nat Nat} (hb : ∀ j, H (.inl j) = .inl j) (h : ∀ a j, (g a j).st = H (.inr j)) : (r.on g).st = H r.st := by
  cases r with
  | inl j => exact (hb j).symm
  | inr q => exact h q.1 q.2
theorem on_ok {α β : Type} {r : aR α} {g : α → Nat → aR β} {y : β × Nat} (h : r.on g = .inr y) : ∃ a i, r = .inr (a, i) ∧ g a i = .inr y := by
  cases r with
  | inl j => cases h
  | inr q => exact ⟨q.1, q.2, rfl, h⟩
theorem aMs_ok {kk : Nat → Int32} {k i j : Nat} {u : Unit} (h : aMs kk k i = .inr (u, j)) : aIs kk k i = true ∧ j = i + 1 := by
  unfold aMs at h
  by_cases c : aIs kk k i = true
  · rw [if_pos c] at h; cases h; exact ⟨c, rfl⟩
  · rw [if_neg c] at h; cases h
theorem zci_at (x : Int32) (s : zSt) (f : Int32 → zSt → zRs) : zci (some (some (.int x), s)) f = f x s := rfl
theorem zcv_at (s : zSt) (f : zSt → zRs) : zcv (some (none, s)) f = f s := rfl
theorem zlet_at (s : zSt) (f : zSt → zRs) : zlet s f = f s := rfl
theorem zgd_at {b : Bool} {r : zRs} (h : b = true) : zgd b r = r := if_pos h
theorem nV_we (τ : zSt) (n : Nat) (v : Int32) {k q : Nat} (hk : k = 6 + q % 7) : nV (zA τ k (upd (τ.2.2.1 k) n v)) n q = v := by
  show (zA τ k (upd (τ.2.2.1 k) n v)).2.2.1 (6 + q % 7) n = v
  rw [← hk, zAe, upd_at]
theorem nV_wn (τ : zSt) (n : Nat) (v : Int32) {k c q : Nat} (hk : k = 6 + c) (h : q % 7 ≠ c) : nV (zA τ k (upd (τ.2.2.1 k) n v)) n q = nV τ n q := by
  show (zA τ k (upd (τ.2.2.1 k) n v)).2.2.1 (6 + q % 7) n = τ.2.2.1 (6 + q % 7) n
  rw [zAn _ _ (by omega)]
section RFR
variable {κ : oKv} {ks : Nat → Nat} {qs : List Nat} {T m h0 len cnt sz d N S P A C z i k zc : Nat} {τ τ0 : zSt} {kk pp ee f : Nat → Int32} {G H : Nat → aR tT}
set_option maxHeartbeats 1000000 in
theorem q_fun (hf : lFacts κ ks sz) (hT : 2010 ≤ T) (hm : 5 ≤ m) (hE : N ≤ i ∧ S ≤ i ∧ P ≤ i ∧ A ≤ i) (hi : i ≤ cnt) (hz1 : z ≤ 31) (hW : ∀ (s : Sum Nat Nat) (τ : zSt) (N S P A : Nat), rR T len cnt kk pp ee f d τ N S P A C s → rE4 N S P A s → ∃ v τ', zF h0 qs ks T m 29 [.ref h0] τ = some (some (.int v), τ') ∧ rPe T len cnt kk pp ee f d C τ N S P A s G k v τ') (hz : k ≤ z) (h0_ : rR T len cnt kk pp ee f d τ0 (N + 1) S P A C (.inr (i + 1))) (g0 : rAg N S P A C τ τ0) (w0_0 : nV τ0 N 0 = nI 3) (w1_0 : nV τ0 N 1 = pp i) (w2_0 : nV τ0 N 2 = pp i) : ∃ v τ', (zci (zF h0 qs ks T m 15 [.ref h0] τ0) fun r189 s187 =>
  zgd (zin (nI N) 2100) (zlet (zA s187 9 (upd (s187.2.2.1 9) ((nI N)).toNatClampNeg r189)) fun s191 =>
  zcv (zF h0 qs ks T m 14 [.ref h0, .ref (ks 545)] s191) fun s193 =>
  zci (zF h0 qs ks T m 29 [.ref h0] s193) fun r197 s195 =>
  zgd (zin (nI N) 2100) (zlet (zA s195 11 (upd (s195.2.2.1 11) ((nI N)).toNatClampNeg r197)) fun s199 =>
  some (some (.int (nI N)), s199)))) = some (some (.int v), τ') ∧ rPe T len cnt kk pp ee f d C τ N S P A (.inr i) (aFn kk G) z v τ' := by
  have A0 : aA4 cnt z 0 N S P A i (N + 1) S P A (Sum.inr (i + 1)) := aA4.nd
  have hcn := h0_.1.cn
  have hn0 : N < N + 1 := Nat.lt_succ_self N
  have hN : N < 2100 := by omega
  have zN := zin_n hN (show 2100 < 2 ^ 31 by decide)
  have cN : (nI N).toNatClampNeg = N := nI_clamp (by omega)
  try simp only [cN]
  obtain ⟨x1, τ1, f1, h1_, a1, n1⟩ := q_name (h0 := h0) (qs := qs) (ks := ks) (m := m) h0_ (by omega)
  rw [f1, zci_at]
  have g1 := g0.tr a1 A0.1.1 A0.2.1.1 A0.2.2.1.1 A0.2.2.2.1 (Nat.le_refl _)
  have eN1 : nV τ1 N = nV τ0 N := (a1.at 0).1 N (Nat.zero_le _) hn0
  have w0_1 := (congrFun eN1 0).trans w0_0
  have w1_1 := (congrFun eN1 1).trans w1_0
  have w2_1 := (congrFun eN1 2).trans w2_0
  have A1 := A0.ms h1_
  have hn1 := hn0
  rw [zgd_at zN, zlet_at]
  have h2_ := h1_.a (upd (τ1.2.2.1 9) N x1) (show 6 ≤ 9 by omega)
  have g2 := g1.a (k := 9) (x := N) (v := x1) (rFz.n6 (by omega) (by omega) (Nat.le_refl N))
  have w0_2 := (nV_wn τ1 N x1 (k := 9) (c := 3) (q := 0) rfl (by decide)).trans w0_1
  have w1_2 := (nV_wn τ1 N x1 (k := 9) (c := 3) (q := 1) rfl (by decide)).trans w1_1
  have w2_2 := (nV_wn τ1 N x1 (k := 9) (c := 3) (q := 2) rfl (by decide)).trans w2_1
  have w3_2 := nV_we τ1 N x1 (k := 9) (q := 3) rfl
  generalize zA τ1 9 (upd (τ1.2.2.1 9) N x1) = τ2 at h2_ g2 w0_2 w1_2 w2_2 w3_2 ⊢
  have A2 := A1
  have hn2 := hn1
  obtain ⟨τ3, f3, h3_, a3⟩ := q_must (h0 := h0) (qs := qs) (ks := ks) (m := m) hf hT h2_ (show (545, "->", 304) ∈ zKp by decide) (by omega)
  rw [f3, zcv_at]
  have g3 := g2.tr a3 A2.1.1 A2.2.1.1 A2.2.2.1.1 A2.2.2.2.1 (Nat.le_refl _)
  have eN3 : nV τ3 N = nV τ2 N := (a3.at 0).1 N (Nat.zero_le _) hn2
  have w0_3 := (congrFun eN3 0).trans w0_2
  have w1_3 := (congrFun eN3 1).trans w1_2
  have w2_3 := (congrFun eN3 2).trans w2_2
  have w3_3 := (congrFun eN3 3).trans w3_2
  have A3 := A2.ms h3_
  have hn3 := hn2
  obtain ⟨v4, τ4, f4, W4⟩ := hW (aTo (aTo (Sum.inr (i + 1)) (aMs kk 1)) (aMs kk 304)) τ3 (N + 1) S P A h3_ (A3.en hE)
  rw [f4, zci_at]
  obtain ⟨N4, S4, P4, A_4, x4, ⟨h4_, a4⟩, A4, ⟨mN4, mS4, mP4, mA4⟩, ⟨vx4, xb4⟩, rp_a⟩ := (A3.mo (z' := z) (c' := 5) (Nat.le_refl _) (by omega)).wi W4 hz (Nat.le_refl _)
  subst vx4
  have g4 := g3.tr a4 A3.1.1 A3.2.1.1 A3.2.2.1.1 A3.2.2.2.1 (Nat.le_refl _)
  have eN4 : nV τ4 N = nV τ3 N := (a4.at 0).1 N (Nat.zero_le _) hn3
  have w0_4 := (congrFun eN4 0).trans w0_3
  have w1_4 := (congrFun eN4 1).trans w1_3
  have w2_4 := (congrFun eN4 2).trans w2_3
  have w3_4 := (congrFun eN4 3).trans w3_3
  have hn4 : N < N4 := by omega
  have t_a_4 : rAt (N + 1) N4 S4 P4 A_4 τ4 τ4 := (rAg.rf (C := C) τ4).at (N + 1)
  rw [zgd_at zN, zlet_at]
  have h5_ := h4_.a (upd (τ4.2.2.1 11) N (nI x4)) (show 6 ≤ 11 by omega)
  have g5 := g4.a (k := 11) (x := N) (v := (nI x4)) (rFz.n6 (by omega) (by omega) (Nat.le_refl N))
  have w0_5 := (nV_wn τ4 N (nI x4) (k := 11) (c := 5) (q := 0) rfl (by decide)).trans w0_4
  have w1_5 := (nV_wn τ4 N (nI x4) (k := 11) (c := 5) (q := 1) rfl (by decide)).trans w1_4
  have w2_5 := (nV_wn τ4 N (nI x4) (k := 11) (c := 5) (q := 2) rfl (by decide)).trans w2_4
  have w3_5 := (nV_wn τ4 N (nI x4) (k := 11) (c := 5) (q := 3) rfl (by decide)).trans w3_4
  have w5_5 := nV_we τ4 N (nI x4) (k := 11) (q := 5) rfl
  have t_a_5 := t_a_4.tr (rAt_zA τ4 (nI x4) (k := 11) (n := N) (by omega) (by omega) (Or.inl (by omega)))
  generalize zA τ4 11 (upd (τ4.2.2.1 11) N (nI x4)) = τ5 at h5_ g5 w0_5 w1_5 w2_5 w3_5 w5_5 t_a_5 ⊢
  have A5 := A4
  have hn5 := hn4
  have eT : aTo (.inr i) (aFn kk G) = (aTo (aTo (aTo (Sum.inr (i + 1)) (aMs kk 1)) (aMs kk 304)) G) := on_st (H := fun s => aTo (aTo (s) (aMs kk 304)) (G)) (fun _ => rfl) (fun _ _ => on_st (H := fun s => aTo (s) (G)) (fun _ => rfl) (fun _ _ => on_st (H := fun s => s) (fun _ => rfl) (fun _ _ => rfl)))
  refine ⟨_, τ5, rfl, N4, S4, P4, A_4, N, ?_⟩
  rw [eT]
  refine ⟨h5_, g5, fun i' e => (by cases e; exact A5.mo (Nat.le_refl _) (by omega)), fun j e => (by cases e), ⟨rfl, hN⟩, fun i' t j e e' => ?_⟩
  cases e
  unfold aFn at e'
  obtain ⟨c0, j0, y0, e'⟩ := on_ok e'
  obtain ⟨u0, rfl⟩ := aMs_ok y0
  have z0 : aTo (Sum.inr (i + 1)) (aMs kk 1) = .inr ((i + 1) + 1) := by rw [aTo_ok, y0]; rfl
  obtain ⟨c1, j1, y1, e'⟩ := on_ok e'
  obtain ⟨u1, rfl⟩ := aMs_ok y1
  have z1 : aTo (aTo (Sum.inr (i + 1)) (aMs kk 1)) (aMs kk 304) = .inr (((i + 1) + 1) + 1) := by rw [z0, aTo_ok, y1]; rfl
  obtain ⟨c2, j2, y2, e'⟩ := on_ok e'
  have z2 : aTo (aTo (aTo (Sum.inr (i + 1)) (aMs kk 1)) (aMs kk 304)) (G) = .inr j2 := by rw [z1, aTo_ok, y2]; rfl
  cases e'
  obtain ⟨l2, l2_, L2⟩ := rp_a _ _ _ z1 y2
  have M2 := rTr.keep (lo' := N) (N' := N4) (S' := S4) (P' := P4) (A' := A_4) t_a_5 (by omega) (by omega) (by omega) (by omega) (by omega) _ _ _ _ L2
  refine ⟨by omega, ⟨(Nat.le_refl _), by omega⟩, ?_⟩
  exact ⟨⟨⟨(Nat.le_refl _), by omega⟩, w0_5, w1_5⟩, by rw [w3_5]; exact n1 (i + 1) rfl u0, _, w5_5, M2⟩
set_option maxHeartbeats 1000000 in
theorem q_if (hf : lFacts κ ks sz) (hT : 2010 ≤ T) (hm : 5 ≤ m) (hE : N ≤ i ∧ S ≤ i ∧ P ≤ i ∧ A ≤ i) (hi : i ≤ cnt) (hz1 : z ≤ 31) (hW : ∀ (s : Sum Nat Nat) (τ : zSt) (N S P A : Nat), rR T len cnt kk pp ee f d τ N S P A C s → rE4 N S P A s → ∃ v τ', zF h0 qs ks T m 29 [.ref h0] τ = some (some (.int v), τ') ∧ rPe T len cnt kk pp ee f d C τ N S P A s G k v τ') (hz : k ≤ z) (hC : ∀ (s : Sum Nat Nat) (τ : zSt) (N S P : Nat), rR T len cnt kk pp ee f d τ N S P A C s → rEn N S P s → ∃ v τ', zF h0 qs ks T m 23 [.ref h0] τ = some (some (.int v), τ') ∧ rPc T len cnt kk pp ee f d A C τ N S P s H zc v τ') (hzc : zc ≤ z) (h0_ : rR T len cnt kk pp ee f d τ0 (N + 1) S P A C (.inr (i + 1))) (g0 : rAg N S P A C τ τ0) (w0_0 : nV τ0 N 0 = nI 4) (w1_0 : nV τ0 N 1 = pp i) (w2_0 : nV τ0 N 2 = pp i) : ∃ v τ', (zgd (zin (τ0.1 10) 2010) (
  zgd (zin (nI N) 2100) (zlet (zA τ0 8 (upd (τ0.2.2.1 8) ((nI N)).toNatClampNeg (τ0.2.2.1 4 ((τ0.1 10)).toNatClampNeg))) fun s160 =>
  zci (zF h0 qs ks T m 23 [.ref h0] s160) fun r164 s162 =>
  zgd (zin (nI N) 2100) (zlet (zA s162 9 (upd (s162.2.2.1 9) ((nI N)).toNatClampNeg r164)) fun s166 =>
  zcv (zF h0 qs ks T m 14 [.ref h0, .ref (ks 552)] s166) fun s168 =>
  zci (zF h0 qs ks T m 29 [.ref h0] s168) fun r172 s170 =>
  zgd (zin (nI N) 2100) (zlet (zA s170 11 (upd (s170.2.2.1 11) ((nI N)).toNatClampNeg r172)) fun s174 =>
  zcv (zF h0 qs ks T m 14 [.ref h0, .ref (ks 554)] s174) fun s176 =>
  zci (zF h0 qs ks T m 29 [.ref h0] s176) fun r180 s178 =>
  zgd (zin (nI N) 2100) (zlet (zA s178 12 (upd (s178.2.2.1 12) ((nI N)).toNatClampNeg r180)) fun s182 =>
  some (some (.int (nI N)), s182))))))) = some (some (.int v), τ') ∧ rPe T len cnt kk pp ee f d C τ N S P A (.inr i) (fun i => (H (i + 1)).on fun c i1 => (aMs kk 222 i1).on fun _ i2 => (G i2).on fun a i3 => (aMs kk 204 i3).on fun _ i4 => (G i4).on fun b i5 => .inr (tN 4 i 0 0 s0 s0 c (tN 31 0 0 0 s0 s0 a b), i5)) z v τ' := by
  have A0 : aA4 cnt z 0 N S P A i (N + 1) S P A (Sum.inr (i + 1)) := aA4.nd
  have hcn := h0_.1.cn
  have hn0 : N < N + 1 := Nat.lt_succ_self N
  have hN : N < 2100 := by omega
  have zN := zin_n hN (show 2100 < 2 ^ 31 by decide)
  have cN : (nI N).toNatClampNeg = N := nI_clamp (by omega)
  try simp only [cN]
  obtain ⟨wd, wd1, wd2⟩ := h0_.wd
  rw [wd2, zgd_at (zin_n (show wd < 2010 by omega) (show 2010 < 2 ^ 31 by decide)), nI_clamp (show wd < 2 ^ 31 by omega)]
  have sgn : ∀ i', ((Sum.inr (i + 1)) : Sum Nat Nat) = .inr i' → τ0.2.2.1 4 wd = pp i' := fun i' e => by
    have hh := h0_
    rw [e] at hh
    have : wd = i' := nI_inj' (by omega) (by have := hh.2.2.2.2; omega) (wd2.symm.trans hh.2.2.2.1)
    rw [this]; exact hh.1.pl hh.2.2.2.2
  generalize hsv : τ0.2.2.1 4 wd = sv at sgn ⊢
  rw [zgd_at zN, zlet_at]
  have h1_ := h0_.a (upd (τ0.2.2.1 8) N sv) (show 6 ≤ 8 by omega)
  have g1 := g0.a (k := 8) (x := N) (v := sv) (rFz.n6 (by omega) (by omega) (Nat.le_refl N))
  have w0_1 := (nV_wn τ0 N sv (k := 8) (c := 2) (q := 0) rfl (by decide)).trans w0_0
  have w1_1 := (nV_wn τ0 N sv (k := 8) (c := 2) (q := 1) rfl (by decide)).trans w1_0
  have w2_1 := nV_we τ0 N sv (k := 8) (q := 2) rfl
  generalize zA τ0 8 (upd (τ0.2.2.1 8) N sv) = τ1 at h1_ g1 w0_1 w1_1 w2_1 ⊢
  have A1 := A0
  have hn1 := hn0
  obtain ⟨v2, τ2, f2, W2⟩ := hC (Sum.inr (i + 1)) τ1 (N + 1) S P h1_ (fun i' e => by have := A1.en hE i' e; omega)
  rw [f2, zci_at]
  obtain ⟨N2, S2, P2, x2, ⟨h2_, a2⟩, A2, ⟨mN2, mS2, mP2⟩, ⟨vx2, xb2⟩, rp_c⟩ := (A1.mo (z' := z) (c' := 5) (Nat.le_refl _) (by omega)).co W2 hzc (by omega)
  subst vx2
  have g2 := g1.tr a2 A1.1.1 A1.2.1.1 A1.2.2.1.1 A1.2.2.2.1 (Nat.le_refl _)
  have eN2 : nV τ2 N = nV τ1 N := (a2.at 0).1 N (Nat.zero_le _) hn1
  have w0_2 := (congrFun eN2 0).trans w0_1
  have w1_2 := (congrFun eN2 1).trans w1_1
  have w2_2 := (congrFun eN2 2).trans w2_1
  have hn2 : N < N2 := by omega
  have t_c_2 : rAt (N + 1) N2 S2 P2 A τ2 τ2 := (rAg.rf (C := C) τ2).at (N + 1)
  rw [zgd_at zN, zlet_at]
  have h3_ := h2_.a (upd (τ2.2.2.1 9) N (nI x2)) (show 6 ≤ 9 by omega)
  have g3 := g2.a (k := 9) (x := N) (v := (nI x2)) (rFz.n6 (by omega) (by omega) (Nat.le_refl N))
  have w0_3 := (nV_wn τ2 N (nI x2) (k := 9) (c := 3) (q := 0) rfl (by decide)).trans w0_2
  have w1_3 := (nV_wn τ2 N (nI x2) (k := 9) (c := 3) (q := 1) rfl (by decide)).trans w1_2
  have w2_3 := (nV_wn τ2 N (nI x2) (k := 9) (c := 3) (q := 2) rfl (by decide)).trans w2_2
  have w3_3 := nV_we τ2 N (nI x2) (k := 9) (q := 3) rfl
  have t_c_3 := t_c_2.tr (rAt_zA τ2 (nI x2) (k := 9) (n := N) (by omega) (by omega) (Or.inl (by omega)))
  generalize zA τ2 9 (upd (τ2.2.2.1 9) N (nI x2)) = τ3 at h3_ g3 w0_3 w1_3 w2_3 w3_3 t_c_3 ⊢
  have A3 := A2
  have hn3 := hn2
  obtain ⟨τ4, f4, h4_, a4⟩ := q_must (h0 := h0) (qs := qs) (ks := ks) (m := m) hf hT h3_ (show (552, "then", 222) ∈ zKp by decide) (by omega)
  rw [f4, zcv_at]
  have g4 := g3.tr a4 A3.1.1 A3.2.1.1 A3.2.2.1.1 A3.2.2.2.1 (Nat.le_refl _)
  have eN4 : nV τ4 N = nV τ3 N := (a4.at 0).1 N (Nat.zero_le _) hn3
  have w0_4 := (congrFun eN4 0).trans w0_3
  have w1_4 := (congrFun eN4 1).trans w1_3
  have w2_4 := (congrFun eN4 2).trans w2_3
  have w3_4 := (congrFun eN4 3).trans w3_3
  have t_c_4 := t_c_3.tr ((a4.at (N + 1)).wk (Nat.le_refl _) (by omega) (by omega) (by omega) (by omega))
  have A4 := A3.ms h4_
  have hn4 := hn3
  obtain ⟨v5, τ5, f5, W5⟩ := hW (aTo (aTo (Sum.inr (i + 1)) H) (aMs kk 222)) τ4 N2 S2 P2 A h4_ (A4.en hE)
  rw [f5, zci_at]
  obtain ⟨N5, S5, P5, A_5, x5, ⟨h5_, a5⟩, A5, ⟨mN5, mS5, mP5, mA5⟩, ⟨vx5, xb5⟩, rp_a⟩ := (A4.mo (z' := z) (c' := 5) (Nat.le_refl _) (by omega)).wi W5 hz (Nat.le_refl _)
  subst vx5
  have g5 := g4.tr a5 A4.1.1 A4.2.1.1 A4.2.2.1.1 A4.2.2.2.1 (Nat.le_refl _)
  have eN5 : nV τ5 N = nV τ4 N := (a5.at 0).1 N (Nat.zero_le _) hn4
  have w0_5 := (congrFun eN5 0).trans w0_4
  have w1_5 := (congrFun eN5 1).trans w1_4
  have w2_5 := (congrFun eN5 2).trans w2_4
  have w3_5 := (congrFun eN5 3).trans w3_4
  have t_c_5 := t_c_4.tr ((a5.at (N + 1)).wk (Nat.le_refl _) (by omega) (by omega) (by omega) (by omega))
  have hn5 : N < N5 := by omega
  have t_a_5 : rAt N2 N5 S5 P5 A_5 τ5 τ5 := (rAg.rf (C := C) τ5).at N2
  rw [zgd_at zN, zlet_at]
  have h6_ := h5_.a (upd (τ5.2.2.1 11) N (nI x5)) (show 6 ≤ 11 by omega)
  have g6 := g5.a (k := 11) (x := N) (v := (nI x5)) (rFz.n6 (by omega) (by omega) (Nat.le_refl N))
  have w0_6 := (nV_wn τ5 N (nI x5) (k := 11) (c := 5) (q := 0) rfl (by decide)).trans w0_5
  have w1_6 := (nV_wn τ5 N (nI x5) (k := 11) (c := 5) (q := 1) rfl (by decide)).trans w1_5
  have w2_6 := (nV_wn τ5 N (nI x5) (k := 11) (c := 5) (q := 2) rfl (by decide)).trans w2_5
  have w3_6 := (nV_wn τ5 N (nI x5) (k := 11) (c := 5) (q := 3) rfl (by decide)).trans w3_5
  have w5_6 := nV_we τ5 N (nI x5) (k := 11) (q := 5) rfl
  have t_c_6 := t_c_5.tr (rAt_zA τ5 (nI x5) (k := 11) (n := N) (by omega) (by omega) (Or.inl (by omega)))
  have t_a_6 := t_a_5.tr (rAt_zA τ5 (nI x5) (k := 11) (n := N) (by omega) (by omega) (Or.inl (by omega)))
  generalize zA τ5 11 (upd (τ5.2.2.1 11) N (nI x5)) = τ6 at h6_ g6 w0_6 w1_6 w2_6 w3_6 w5_6 t_c_6 t_a_6 ⊢
  have A6 := A5
  have hn6 := hn5
  obtain ⟨τ7, f7, h7_, a7⟩ := q_must (h0 := h0) (qs := qs) (ks := ks) (m := m) hf hT h6_ (show (554, "else", 204) ∈ zKp by decide) (by omega)
  rw [f7, zcv_at]
  have g7 := g6.tr a7 A6.1.1 A6.2.1.1 A6.2.2.1.1 A6.2.2.2.1 (Nat.le_refl _)
  have eN7 : nV τ7 N = nV τ6 N := (a7.at 0).1 N (Nat.zero_le _) hn6
  have w0_7 := (congrFun eN7 0).trans w0_6
  have w1_7 := (congrFun eN7 1).trans w1_6
  have w2_7 := (congrFun eN7 2).trans w2_6
  have w3_7 := (congrFun eN7 3).trans w3_6
  have w5_7 := (congrFun eN7 5).trans w5_6
  have t_c_7 := t_c_6.tr ((a7.at (N + 1)).wk (Nat.le_refl _) (by omega) (by omega) (by omega) (by omega))
  have t_a_7 := t_a_6.tr ((a7.at N2).wk (Nat.le_refl _) (by omega) (by omega) (by omega) (by omega))
  have A7 := A6.ms h7_
  have hn7 := hn6
  obtain ⟨v8, τ8, f8, W8⟩ := hW (aTo (aTo (aTo (aTo (Sum.inr (i + 1)) H) (aMs kk 222)) G) (aMs kk 204)) τ7 N5 S5 P5 A_5 h7_ (A7.en hE)
  rw [f8, zci_at]
  obtain ⟨N8, S8, P8, A_8, x8, ⟨h8_, a8⟩, A8, ⟨mN8, mS8, mP8, mA8⟩, ⟨vx8, xb8⟩, rp_b⟩ := (A7.mo (z' := z) (c' := 5) (Nat.le_refl _) (by omega)).wi W8 hz (Nat.le_refl _)
  subst vx8
  have g8 := g7.tr a8 A7.1.1 A7.2.1.1 A7.2.2.1.1 A7.2.2.2.1 (Nat.le_refl _)
  have eN8 : nV τ8 N = nV τ7 N := (a8.at 0).1 N (Nat.zero_le _) hn7
  have w0_8 := (congrFun eN8 0).trans w0_7
  have w1_8 := (congrFun eN8 1).trans w1_7
  have w2_8 := (congrFun eN8 2).trans w2_7
  have w3_8 := (congrFun eN8 3).trans w3_7
  have w5_8 := (congrFun eN8 5).trans w5_7
  have t_c_8 := t_c_7.tr ((a8.at (N + 1)).wk (Nat.le_refl _) (by omega) (by omega) (by omega) (by omega))
  have t_a_8 := t_a_7.tr ((a8.at N2).wk (Nat.le_refl _) (by omega) (by omega) (by omega) (by omega))
  have hn8 : N < N8 := by omega
  have t_b_8 : rAt N5 N8 S8 P8 A_8 τ8 τ8 := (rAg.rf (C := C) τ8).at N5
  rw [zgd_at zN, zlet_at]
  have h9_ := h8_.a (upd (τ8.2.2.1 12) N (nI x8)) (show 6 ≤ 12 by omega)
  have g9 := g8.a (k := 12) (x := N) (v := (nI x8)) (rFz.n6 (by omega) (by omega) (Nat.le_refl N))
  have w0_9 := (nV_wn τ8 N (nI x8) (k := 12) (c := 6) (q := 0) rfl (by decide)).trans w0_8
  have w1_9 := (nV_wn τ8 N (nI x8) (k := 12) (c := 6) (q := 1) rfl (by decide)).trans w1_8
  have w2_9 := (nV_wn τ8 N (nI x8) (k := 12) (c := 6) (q := 2) rfl (by decide)).trans w2_8
  have w3_9 := (nV_wn τ8 N (nI x8) (k := 12) (c := 6) (q := 3) rfl (by decide)).trans w3_8
  have w5_9 := (nV_wn τ8 N (nI x8) (k := 12) (c := 6) (q := 5) rfl (by decide)).trans w5_8
  have w6_9 := nV_we τ8 N (nI x8) (k := 12) (q := 6) rfl
  have t_c_9 := t_c_8.tr (rAt_zA τ8 (nI x8) (k := 12) (n := N) (by omega) (by omega) (Or.inl (by omega)))
  have t_a_9 := t_a_8.tr (rAt_zA τ8 (nI x8) (k := 12) (n := N) (by omega) (by omega) (Or.inl (by omega)))
  have t_b_9 := t_b_8.tr (rAt_zA τ8 (nI x8) (k := 12) (n := N) (by omega) (by omega) (Or.inl (by omega)))
  generalize zA τ8 12 (upd (τ8.2.2.1 12) N (nI x8)) = τ9 at h9_ g9 w0_9 w1_9 w2_9 w3_9 w5_9 w6_9 t_c_9 t_a_9 t_b_9 ⊢
  have A9 := A8
  have hn9 := hn8
  have eT : aTo (.inr i) (fun i => (H (i + 1)).on fun c i1 => (aMs kk 222 i1).on fun _ i2 => (G i2).on fun a i3 => (aMs kk 204 i3).on fun _ i4 => (G i4).on fun b i5 => .inr (tN 4 i 0 0 s0 s0 c (tN 31 0 0 0 s0 s0 a b), i5)) = (aTo (aTo (aTo (aTo (aTo (Sum.inr (i + 1)) H) (aMs kk 222)) G) (aMs kk 204)) G) := on_st (H := fun s => aTo (aTo (aTo (aTo (s) (aMs kk 222)) (G)) (aMs kk 204)) (G)) (fun _ => rfl) (fun _ _ => on_st (H := fun s => aTo (aTo (aTo (s) (G)) (aMs kk 204)) (G)) (fun _ => rfl) (fun _ _ => on_st (H := fun s => aTo (aTo (s) (aMs kk 204)) (G)) (fun _ => rfl) (fun _ _ => on_st (H := fun s => aTo (s) (G)) (fun _ => rfl) (fun _ _ => on_st (H := fun s => s) (fun _ => rfl) (fun _ _ => rfl)))))
  refine ⟨_, τ9, rfl, N8, S8, P8, A_8, N, ?_⟩
  rw [eT]
  refine ⟨h9_, g9, fun i' e => (by cases e; exact A9.mo (Nat.le_refl _) (by omega)), fun j e => (by cases e), ⟨rfl, hN⟩, fun i' t j e e' => ?_⟩
  cases e
  obtain ⟨c0, j0, y0, e'⟩ := on_ok e'
  have z0 : aTo (Sum.inr (i + 1)) (H) = .inr j0 := by rw [aTo_ok, y0]; rfl
  obtain ⟨c1, j1, y1, e'⟩ := on_ok e'
  obtain ⟨u1, rfl⟩ := aMs_ok y1
  have z1 : aTo (aTo (Sum.inr (i + 1)) H) (aMs kk 222) = .inr (j0 + 1) := by rw [z0, aTo_ok, y1]; rfl
  obtain ⟨c2, j2, y2, e'⟩ := on_ok e'
  have z2 : aTo (aTo (aTo (Sum.inr (i + 1)) H) (aMs kk 222)) (G) = .inr j2 := by rw [z1, aTo_ok, y2]; rfl
  obtain ⟨c3, j3, y3, e'⟩ := on_ok e'
  obtain ⟨u3, rfl⟩ := aMs_ok y3
  have z3 : aTo (aTo (aTo (aTo (Sum.inr (i + 1)) H) (aMs kk 222)) G) (aMs kk 204) = .inr (j2 + 1) := by rw [z2, aTo_ok, y3]; rfl
  obtain ⟨c4, j4, y4, e'⟩ := on_ok e'
  have z4 : aTo (aTo (aTo (aTo (aTo (Sum.inr (i + 1)) H) (aMs kk 222)) G) (aMs kk 204)) (G) = .inr j4 := by rw [z3, aTo_ok, y4]; rfl
  cases e'
  obtain ⟨l0, l0_, L0⟩ := rp_c _ _ _ rfl y0
  have M0 := rTr.keep (lo' := N) (N' := N8) (S' := S8) (P' := P8) (A' := A_8) t_c_9 (by omega) (by omega) (by omega) (by omega) (by omega) _ _ _ _ L0
  obtain ⟨l2, l2_, L2⟩ := rp_a _ _ _ z1 y2
  have M2 := rTr.keep (lo' := N) (N' := N8) (S' := S8) (P' := P8) (A' := A_8) t_a_9 (by omega) (by omega) (by omega) (by omega) (by omega) _ _ _ _ L2
  obtain ⟨l4, l4_, L4⟩ := rp_b _ _ _ z3 y4
  have M4 := rTr.keep (lo' := N) (N' := N8) (S' := S8) (P' := P8) (A' := A_8) t_b_9 (by omega) (by omega) (by omega) (by omega) (by omega) _ _ _ _ L4
  refine ⟨by omega, ⟨(Nat.le_refl _), by omega⟩, ?_⟩
  exact ⟨⟨⟨(Nat.le_refl _), by omega⟩, w0_9, w1_9⟩, by rw [w2_9]; exact sgn (i + 1) rfl, _, _, _, ⟨w3_9, w5_9, w6_9⟩, M0, M2, M4⟩
set_option maxHeartbeats 1000000 in
theorem q_assert (hf : lFacts κ ks sz) (hT : 2010 ≤ T) (hm : 5 ≤ m) (hE : N ≤ i ∧ S ≤ i ∧ P ≤ i ∧ A ≤ i) (hi : i ≤ cnt) (hz1 : z ≤ 31) (hW : ∀ (s : Sum Nat Nat) (τ : zSt) (N S P A : Nat), rR T len cnt kk pp ee f d τ N S P A C s → rE4 N S P A s → ∃ v τ', zF h0 qs ks T m 29 [.ref h0] τ = some (some (.int v), τ') ∧ rPe T len cnt kk pp ee f d C τ N S P A s G k v τ') (hz : k ≤ z) (hC : ∀ (s : Sum Nat Nat) (τ : zSt) (N S P : Nat), rR T len cnt kk pp ee f d τ N S P A C s → rEn N S P s → ∃ v τ', zF h0 qs ks T m 23 [.ref h0] τ = some (some (.int v), τ') ∧ rPc T len cnt kk pp ee f d A C τ N S P s H zc v τ') (hzc : zc ≤ z) (h0_ : rR T len cnt kk pp ee f d τ0 (N + 1) S P A C (.inr (i + 1))) (g0 : rAg N S P A C τ τ0) (w0_0 : nV τ0 N 0 = nI 5) (w1_0 : nV τ0 N 1 = pp i) (w2_0 : nV τ0 N 2 = pp i) : ∃ v τ', (zgd (zin (τ0.1 10) 2010) (
  zgd (zin (nI N) 2100) (zlet (zA τ0 8 (upd (τ0.2.2.1 8) ((nI N)).toNatClampNeg (τ0.2.2.1 4 ((τ0.1 10)).toNatClampNeg))) fun s139 =>
  zci (zF h0 qs ks T m 23 [.ref h0] s139) fun r143 s141 =>
  zgd (zin (nI N) 2100) (zlet (zA s141 9 (upd (s141.2.2.1 9) ((nI N)).toNatClampNeg r143)) fun s145 =>
  zcv (zF h0 qs ks T m 14 [.ref h0, .ref (ks 515)] s145) fun s147 =>
  zci (zF h0 qs ks T m 29 [.ref h0] s147) fun r151 s149 =>
  zgd (zin (nI N) 2100) (zlet (zA s149 11 (upd (s149.2.2.1 11) ((nI N)).toNatClampNeg r151)) fun s153 =>
  some (some (.int (nI N)), s153)))))) = some (some (.int v), τ') ∧ rPe T len cnt kk pp ee f d C τ N S P A (.inr i) (fun i => (H (i + 1)).on fun c i1 => (aMs kk 59 i1).on fun _ i2 => (G i2).on fun a i3 => .inr (tN 5 i 0 0 s0 s0 c a, i3)) z v τ' := by
  have A0 : aA4 cnt z 0 N S P A i (N + 1) S P A (Sum.inr (i + 1)) := aA4.nd
  have hcn := h0_.1.cn
  have hn0 : N < N + 1 := Nat.lt_succ_self N
  have hN : N < 2100 := by omega
  have zN := zin_n hN (show 2100 < 2 ^ 31 by decide)
  have cN : (nI N).toNatClampNeg = N := nI_clamp (by omega)
  try simp only [cN]
  obtain ⟨wd, wd1, wd2⟩ := h0_.wd
  rw [wd2, zgd_at (zin_n (show wd < 2010 by omega) (show 2010 < 2 ^ 31 by decide)), nI_clamp (show wd < 2 ^ 31 by omega)]
  have sgn : ∀ i', ((Sum.inr (i + 1)) : Sum Nat Nat) = .inr i' → τ0.2.2.1 4 wd = pp i' := fun i' e => by
    have hh := h0_
    rw [e] at hh
    have : wd = i' := nI_inj' (by omega) (by have := hh.2.2.2.2; omega) (wd2.symm.trans hh.2.2.2.1)
    rw [this]; exact hh.1.pl hh.2.2.2.2
  generalize hsv : τ0.2.2.1 4 wd = sv at sgn ⊢
  rw [zgd_at zN, zlet_at]
  have h1_ := h0_.a (upd (τ0.2.2.1 8) N sv) (show 6 ≤ 8 by omega)
  have g1 := g0.a (k := 8) (x := N) (v := sv) (rFz.n6 (by omega) (by omega) (Nat.le_refl N))
  have w0_1 := (nV_wn τ0 N sv (k := 8) (c := 2) (q := 0) rfl (by decide)).trans w0_0
  have w1_1 := (nV_wn τ0 N sv (k := 8) (c := 2) (q := 1) rfl (by decide)).trans w1_0
  have w2_1 := nV_we τ0 N sv (k := 8) (q := 2) rfl
  generalize zA τ0 8 (upd (τ0.2.2.1 8) N sv) = τ1 at h1_ g1 w0_1 w1_1 w2_1 ⊢
  have A1 := A0
  have hn1 := hn0
  obtain ⟨v2, τ2, f2, W2⟩ := hC (Sum.inr (i + 1)) τ1 (N + 1) S P h1_ (fun i' e => by have := A1.en hE i' e; omega)
  rw [f2, zci_at]
  obtain ⟨N2, S2, P2, x2, ⟨h2_, a2⟩, A2, ⟨mN2, mS2, mP2⟩, ⟨vx2, xb2⟩, rp_c⟩ := (A1.mo (z' := z) (c' := 5) (Nat.le_refl _) (by omega)).co W2 hzc (by omega)
  subst vx2
  have g2 := g1.tr a2 A1.1.1 A1.2.1.1 A1.2.2.1.1 A1.2.2.2.1 (Nat.le_refl _)
  have eN2 : nV τ2 N = nV τ1 N := (a2.at 0).1 N (Nat.zero_le _) hn1
  have w0_2 := (congrFun eN2 0).trans w0_1
  have w1_2 := (congrFun eN2 1).trans w1_1
  have w2_2 := (congrFun eN2 2).trans w2_1
  have hn2 : N < N2 := by omega
  have t_c_2 : rAt (N + 1) N2 S2 P2 A τ2 τ2 := (rAg.rf (C := C) τ2).at (N + 1)
  rw [zgd_at zN, zlet_at]
  have h3_ := h2_.a (upd (τ2.2.2.1 9) N (nI x2)) (show 6 ≤ 9 by omega)
  have g3 := g2.a (k := 9) (x := N) (v := (nI x2)) (rFz.n6 (by omega) (by omega) (Nat.le_refl N))
  have w0_3 := (nV_wn τ2 N (nI x2) (k := 9) (c := 3) (q := 0) rfl (by decide)).trans w0_2
  have w1_3 := (nV_wn τ2 N (nI x2) (k := 9) (c := 3) (q := 1) rfl (by decide)).trans w1_2
  have w2_3 := (nV_wn τ2 N (nI x2) (k := 9) (c := 3) (q := 2) rfl (by decide)).trans w2_2
  have w3_3 := nV_we τ2 N (nI x2) (k := 9) (q := 3) rfl
  have t_c_3 := t_c_2.tr (rAt_zA τ2 (nI x2) (k := 9) (n := N) (by omega) (by omega) (Or.inl (by omega)))
  generalize zA τ2 9 (upd (τ2.2.2.1 9) N (nI x2)) = τ3 at h3_ g3 w0_3 w1_3 w2_3 w3_3 t_c_3 ⊢
  have A3 := A2
  have hn3 := hn2
  obtain ⟨τ4, f4, h4_, a4⟩ := q_must (h0 := h0) (qs := qs) (ks := ks) (m := m) hf hT h3_ (show (515, ";", 59) ∈ zKp by decide) (by omega)
  rw [f4, zcv_at]
  have g4 := g3.tr a4 A3.1.1 A3.2.1.1 A3.2.2.1.1 A3.2.2.2.1 (Nat.le_refl _)
  have eN4 : nV τ4 N = nV τ3 N := (a4.at 0).1 N (Nat.zero_le _) hn3
  have w0_4 := (congrFun eN4 0).trans w0_3
  have w1_4 := (congrFun eN4 1).trans w1_3
  have w2_4 := (congrFun eN4 2).trans w2_3
  have w3_4 := (congrFun eN4 3).trans w3_3
  have t_c_4 := t_c_3.tr ((a4.at (N + 1)).wk (Nat.le_refl _) (by omega) (by omega) (by omega) (by omega))
  have A4 := A3.ms h4_
  have hn4 := hn3
  obtain ⟨v5, τ5, f5, W5⟩ := hW (aTo (aTo (Sum.inr (i + 1)) H) (aMs kk 59)) τ4 N2 S2 P2 A h4_ (A4.en hE)
  rw [f5, zci_at]
  obtain ⟨N5, S5, P5, A_5, x5, ⟨h5_, a5⟩, A5, ⟨mN5, mS5, mP5, mA5⟩, ⟨vx5, xb5⟩, rp_a⟩ := (A4.mo (z' := z) (c' := 5) (Nat.le_refl _) (by omega)).wi W5 hz (Nat.le_refl _)
  subst vx5
  have g5 := g4.tr a5 A4.1.1 A4.2.1.1 A4.2.2.1.1 A4.2.2.2.1 (Nat.le_refl _)
  have eN5 : nV τ5 N = nV τ4 N := (a5.at 0).1 N (Nat.zero_le _) hn4
  have w0_5 := (congrFun eN5 0).trans w0_4
  have w1_5 := (congrFun eN5 1).trans w1_4
  have w2_5 := (congrFun eN5 2).trans w2_4
  have w3_5 := (congrFun eN5 3).trans w3_4
  have t_c_5 := t_c_4.tr ((a5.at (N + 1)).wk (Nat.le_refl _) (by omega) (by omega) (by omega) (by omega))
  have hn5 : N < N5 := by omega
  have t_a_5 : rAt N2 N5 S5 P5 A_5 τ5 τ5 := (rAg.rf (C := C) τ5).at N2
  rw [zgd_at zN, zlet_at]
  have h6_ := h5_.a (upd (τ5.2.2.1 11) N (nI x5)) (show 6 ≤ 11 by omega)
  have g6 := g5.a (k := 11) (x := N) (v := (nI x5)) (rFz.n6 (by omega) (by omega) (Nat.le_refl N))
  have w0_6 := (nV_wn τ5 N (nI x5) (k := 11) (c := 5) (q := 0) rfl (by decide)).trans w0_5
  have w1_6 := (nV_wn τ5 N (nI x5) (k := 11) (c := 5) (q := 1) rfl (by decide)).trans w1_5
  have w2_6 := (nV_wn τ5 N (nI x5) (k := 11) (c := 5) (q := 2) rfl (by decide)).trans w2_5
  have w3_6 := (nV_wn τ5 N (nI x5) (k := 11) (c := 5) (q := 3) rfl (by decide)).trans w3_5
  have w5_6 := nV_we τ5 N (nI x5) (k := 11) (q := 5) rfl
  have t_c_6 := t_c_5.tr (rAt_zA τ5 (nI x5) (k := 11) (n := N) (by omega) (by omega) (Or.inl (by omega)))
  have t_a_6 := t_a_5.tr (rAt_zA τ5 (nI x5) (k := 11) (n := N) (by omega) (by omega) (Or.inl (by omega)))
  generalize zA τ5 11 (upd (τ5.2.2.1 11) N (nI x5)) = τ6 at h6_ g6 w0_6 w1_6 w2_6 w3_6 w5_6 t_c_6 t_a_6 ⊢
  have A6 := A5
  have hn6 := hn5
  have eT : aTo (.inr i) (fun i => (H (i + 1)).on fun c i1 => (aMs kk 59 i1).on fun _ i2 => (G i2).on fun a i3 => .inr (tN 5 i 0 0 s0 s0 c a, i3)) = (aTo (aTo (aTo (Sum.inr (i + 1)) H) (aMs kk 59)) G) := on_st (H := fun s => aTo (aTo (s) (aMs kk 59)) (G)) (fun _ => rfl) (fun _ _ => on_st (H := fun s => aTo (s) (G)) (fun _ => rfl) (fun _ _ => on_st (H := fun s => s) (fun _ => rfl) (fun _ _ => rfl)))
  refine ⟨_, τ6, rfl, N5, S5, P5, A_5, N, ?_⟩
  rw [eT]
  refine ⟨h6_, g6, fun i' e => (by cases e; exact A6.mo (Nat.le_refl _) (by omega)), fun j e => (by cases e), ⟨rfl, hN⟩, fun i' t j e e' => ?_⟩
  cases e
  obtain ⟨c0, j0, y0, e'⟩ := on_ok e'
  have z0 : aTo (Sum.inr (i + 1)) (H) = .inr j0 := by rw [aTo_ok, y0]; rfl
  obtain ⟨c1, j1, y1, e'⟩ := on_ok e'
  obtain ⟨u1, rfl⟩ := aMs_ok y1
  have z1 : aTo (aTo (Sum.inr (i + 1)) H) (aMs kk 59) = .inr (j0 + 1) := by rw [z0, aTo_ok, y1]; rfl
  obtain ⟨c2, j2, y2, e'⟩ := on_ok e'
  have z2 : aTo (aTo (aTo (Sum.inr (i + 1)) H) (aMs kk 59)) (G) = .inr j2 := by rw [z1, aTo_ok, y2]; rfl
  cases e'
  obtain ⟨l0, l0_, L0⟩ := rp_c _ _ _ rfl y0
  have M0 := rTr.keep (lo' := N) (N' := N5) (S' := S5) (P' := P5) (A' := A_5) t_c_6 (by omega) (by omega) (by omega) (by omega) (by omega) _ _ _ _ L0
  obtain ⟨l2, l2_, L2⟩ := rp_a _ _ _ z1 y2
  have M2 := rTr.keep (lo' := N) (N' := N5) (S' := S5) (P' := P5) (A' := A_5) t_a_6 (by omega) (by omega) (by omega) (by omega) (by omega) _ _ _ _ L2
  refine ⟨by omega, ⟨(Nat.le_refl _), by omega⟩, ?_⟩
  exact ⟨⟨⟨(Nat.le_refl _), by omega⟩, w0_6, w1_6⟩, by rw [w2_6]; exact sgn (i + 1) rfl, _, _, ⟨w3_6, w5_6⟩, M0, M2⟩
set_option maxHeartbeats 1000000 in
theorem q_set (hf : lFacts κ ks sz) (hT : 2010 ≤ T) (hm : 5 ≤ m) (hE : N ≤ i ∧ S ≤ i ∧ P ≤ i ∧ A ≤ i) (hi : i ≤ cnt) (hz1 : z ≤ 31) (hW : ∀ (s : Sum Nat Nat) (τ : zSt) (N S P A : Nat), rR T len cnt kk pp ee f d τ N S P A C s → rE4 N S P A s → ∃ v τ', zF h0 qs ks T m 29 [.ref h0] τ = some (some (.int v), τ') ∧ rPe T len cnt kk pp ee f d C τ N S P A s G k v τ') (hz : k ≤ z) (h0_ : rR T len cnt kk pp ee f d τ0 (N + 1) S P A C (.inr (i + 1))) (g0 : rAg N S P A C τ τ0) (w0_0 : nV τ0 N 0 = nI 6) (w1_0 : nV τ0 N 1 = pp i) (w2_0 : nV τ0 N 2 = pp i) : ∃ v τ', (zci (zF h0 qs ks T m 15 [.ref h0] τ0) fun r100 s98 =>
  zgd (zin (nI N) 2100) (zlet (zA s98 9 (upd (s98.2.2.1 9) ((nI N)).toNatClampNeg r100)) fun s102 =>
  zgd (zin (s102.1 10) 2010) (
  zgd (zin (nI N) 2100) (zlet (zA s102 8 (upd (s102.2.2.1 8) ((nI N)).toNatClampNeg (s102.2.2.1 4 ((s102.1 10)).toNatClampNeg))) fun s106 =>
  zcv (zF h0 qs ks T m 14 [.ref h0, .ref (ks 560)] s106) fun s108 =>
  zci (zF h0 qs ks T m 21 [.ref h0] s108) fun r112 s110 =>
  zgd (zin (nI N) 2100) (zlet (zA s110 10 (upd (s110.2.2.1 10) ((nI N)).toNatClampNeg r112)) fun s114 =>
  zcv (zF h0 qs ks T m 14 [.ref h0, .ref (ks 565)] s114) fun s116 =>
  zcv (zF h0 qs ks T m 14 [.ref h0, .ref (ks 457)] s116) fun s118 =>
  zci (zF h0 qs ks T m 21 [.ref h0] s118) fun r122 s120 =>
  zgd (zin (nI N) 2100) (zlet (zA s120 11 (upd (s120.2.2.1 11) ((nI N)).toNatClampNeg r122)) fun s124 =>
  zcv (zF h0 qs ks T m 14 [.ref h0, .ref (ks 515)] s124) fun s126 =>
  zci (zF h0 qs ks T m 29 [.ref h0] s126) fun r130 s128 =>
  zgd (zin (nI N) 2100) (zlet (zA s128 12 (upd (s128.2.2.1 12) ((nI N)).toNatClampNeg r130)) fun s132 =>
  some (some (.int (nI N)), s132)))))))) = some (some (.int v), τ') ∧ rPe T len cnt kk pp ee f d C τ N S P A (.inr i) (aSe kk T G) z v τ' := by
  have A0 : aA4 cnt z 0 N S P A i (N + 1) S P A (Sum.inr (i + 1)) := aA4.nd
  have hcn := h0_.1.cn
  have hn0 : N < N + 1 := Nat.lt_succ_self N
  have hN : N < 2100 := by omega
  have zN := zin_n hN (show 2100 < 2 ^ 31 by decide)
  have cN : (nI N).toNatClampNeg = N := nI_clamp (by omega)
  try simp only [cN]
  obtain ⟨x1, τ1, f1, h1_, a1, n1⟩ := q_name (h0 := h0) (qs := qs) (ks := ks) (m := m) h0_ (by omega)
  rw [f1, zci_at]
  have g1 := g0.tr a1 A0.1.1 A0.2.1.1 A0.2.2.1.1 A0.2.2.2.1 (Nat.le_refl _)
  have eN1 : nV τ1 N = nV τ0 N := (a1.at 0).1 N (Nat.zero_le _) hn0
  have w0_1 := (congrFun eN1 0).trans w0_0
  have w1_1 := (congrFun eN1 1).trans w1_0
  have w2_1 := (congrFun eN1 2).trans w2_0
  have A1 := A0.ms h1_
  have hn1 := hn0
  rw [zgd_at zN, zlet_at]
  have h2_ := h1_.a (upd (τ1.2.2.1 9) N x1) (show 6 ≤ 9 by omega)
  have g2 := g1.a (k := 9) (x := N) (v := x1) (rFz.n6 (by omega) (by omega) (Nat.le_refl N))
  have w0_2 := (nV_wn τ1 N x1 (k := 9) (c := 3) (q := 0) rfl (by decide)).trans w0_1
  have w1_2 := (nV_wn τ1 N x1 (k := 9) (c := 3) (q := 1) rfl (by decide)).trans w1_1
  have w2_2 := (nV_wn τ1 N x1 (k := 9) (c := 3) (q := 2) rfl (by decide)).trans w2_1
  have w3_2 := nV_we τ1 N x1 (k := 9) (q := 3) rfl
  generalize zA τ1 9 (upd (τ1.2.2.1 9) N x1) = τ2 at h2_ g2 w0_2 w1_2 w2_2 w3_2 ⊢
  have A2 := A1
  have hn2 := hn1
  obtain ⟨wd, wd1, wd2⟩ := h2_.wd
  rw [wd2, zgd_at (zin_n (show wd < 2010 by omega) (show 2010 < 2 ^ 31 by decide)), nI_clamp (show wd < 2 ^ 31 by omega)]
  have sgn : ∀ i', ((aTo (Sum.inr (i + 1)) (aMs kk 1)) : Sum Nat Nat) = .inr i' → τ2.2.2.1 4 wd = pp i' := fun i' e => by
    have hh := h2_
    rw [e] at hh
    have : wd = i' := nI_inj' (by omega) (by have := hh.2.2.2.2; omega) (wd2.symm.trans hh.2.2.2.1)
    rw [this]; exact hh.1.pl hh.2.2.2.2
  generalize hsv : τ2.2.2.1 4 wd = sv at sgn ⊢
  rw [zgd_at zN, zlet_at]
  have h3_ := h2_.a (upd (τ2.2.2.1 8) N sv) (show 6 ≤ 8 by omega)
  have g3 := g2.a (k := 8) (x := N) (v := sv) (rFz.n6 (by omega) (by omega) (Nat.le_refl N))
  have w0_3 := (nV_wn τ2 N sv (k := 8) (c := 2) (q := 0) rfl (by decide)).trans w0_2
  have w1_3 := (nV_wn τ2 N sv (k := 8) (c := 2) (q := 1) rfl (by decide)).trans w1_2
  have w3_3 := (nV_wn τ2 N sv (k := 8) (c := 2) (q := 3) rfl (by decide)).trans w3_2
  have w2_3 := nV_we τ2 N sv (k := 8) (q := 2) rfl
  generalize zA τ2 8 (upd (τ2.2.2.1 8) N sv) = τ3 at h3_ g3 w0_3 w1_3 w2_3 w3_3 ⊢
  have A3 := A2
  have hn3 := hn2
  obtain ⟨τ4, f4, h4_, a4⟩ := q_must (h0 := h0) (qs := qs) (ks := ks) (m := m) hf hT h3_ (show (560, "[", 91) ∈ zKp by decide) (by omega)
  rw [f4, zcv_at]
  have g4 := g3.tr a4 A3.1.1 A3.2.1.1 A3.2.2.1.1 A3.2.2.2.1 (Nat.le_refl _)
  have eN4 : nV τ4 N = nV τ3 N := (a4.at 0).1 N (Nat.zero_le _) hn3
  have w0_4 := (congrFun eN4 0).trans w0_3
  have w1_4 := (congrFun eN4 1).trans w1_3
  have w2_4 := (congrFun eN4 2).trans w2_3
  have w3_4 := (congrFun eN4 3).trans w3_3
  have A4 := A3.ms h4_
  have hn4 := hn3
  have bd5 := A4.bd hE h4_.po
  obtain ⟨τ5, P5, f5, h5_, a5, pa5, pb5, rp_s⟩ := q_sum (h0 := h0) (qs := qs) (ks := ks) (m := m) hf hT h4_ (by omega) bd5.2.2.1 (by omega)
  rw [f5, zci_at]
  have g5 := g4.tr a5 A4.1.1 A4.2.1.1 A4.2.2.1.1 A4.2.2.2.1 (Nat.le_refl _)
  have eN5 : nV τ5 N = nV τ4 N := (a5.at 0).1 N (Nat.zero_le _) hn4
  have w0_5 := (congrFun eN5 0).trans w0_4
  have w1_5 := (congrFun eN5 1).trans w1_4
  have w2_5 := (congrFun eN5 2).trans w2_4
  have w3_5 := (congrFun eN5 3).trans w3_4
  have A5 := A4.sm (T := T) (kk := kk) h4_.po pa5 pb5
  have hn5 := hn4
  have t_s_5 : rAt 0 0 (S + 1) P5 A τ5 τ5 := (rAg.rf (C := C) τ5).at 0
  rw [zgd_at zN, zlet_at]
  have h6_ := h5_.a (upd (τ5.2.2.1 10) N (nI S)) (show 6 ≤ 10 by omega)
  have g6 := g5.a (k := 10) (x := N) (v := (nI S)) (rFz.n6 (by omega) (by omega) (Nat.le_refl N))
  have w0_6 := (nV_wn τ5 N (nI S) (k := 10) (c := 4) (q := 0) rfl (by decide)).trans w0_5
  have w1_6 := (nV_wn τ5 N (nI S) (k := 10) (c := 4) (q := 1) rfl (by decide)).trans w1_5
  have w2_6 := (nV_wn τ5 N (nI S) (k := 10) (c := 4) (q := 2) rfl (by decide)).trans w2_5
  have w3_6 := (nV_wn τ5 N (nI S) (k := 10) (c := 4) (q := 3) rfl (by decide)).trans w3_5
  have w4_6 := nV_we τ5 N (nI S) (k := 10) (q := 4) rfl
  have t_s_6 := t_s_5.tr (rAt_zA τ5 (nI S) (k := 10) (n := N) (by omega) (by omega) (Or.inr (Nat.zero_le _)))
  generalize zA τ5 10 (upd (τ5.2.2.1 10) N (nI S)) = τ6 at h6_ g6 w0_6 w1_6 w2_6 w3_6 w4_6 t_s_6 ⊢
  have A6 := A5
  have hn6 := hn5
  obtain ⟨τ7, f7, h7_, a7⟩ := q_must (h0 := h0) (qs := qs) (ks := ks) (m := m) hf hT h6_ (show (565, "]", 93) ∈ zKp by decide) (by omega)
  rw [f7, zcv_at]
  have g7 := g6.tr a7 A6.1.1 A6.2.1.1 A6.2.2.1.1 A6.2.2.2.1 (Nat.le_refl _)
  have eN7 : nV τ7 N = nV τ6 N := (a7.at 0).1 N (Nat.zero_le _) hn6
  have w0_7 := (congrFun eN7 0).trans w0_6
  have w1_7 := (congrFun eN7 1).trans w1_6
  have w2_7 := (congrFun eN7 2).trans w2_6
  have w3_7 := (congrFun eN7 3).trans w3_6
  have w4_7 := (congrFun eN7 4).trans w4_6
  have t_s_7 := t_s_6.tr ((a7.at 0).wk (Nat.le_refl _) (by omega) (by omega) (by omega) (by omega))
  have A7 := A6.ms h7_
  have hn7 := hn6
  obtain ⟨τ8, f8, h8_, a8⟩ := q_must (h0 := h0) (qs := qs) (ks := ks) (m := m) hf hT h7_ (show (457, "=", 61) ∈ zKp by decide) (by omega)
  rw [f8, zcv_at]
  have g8 := g7.tr a8 A7.1.1 A7.2.1.1 A7.2.2.1.1 A7.2.2.2.1 (Nat.le_refl _)
  have eN8 : nV τ8 N = nV τ7 N := (a8.at 0).1 N (Nat.zero_le _) hn7
  have w0_8 := (congrFun eN8 0).trans w0_7
  have w1_8 := (congrFun eN8 1).trans w1_7
  have w2_8 := (congrFun eN8 2).trans w2_7
  have w3_8 := (congrFun eN8 3).trans w3_7
  have w4_8 := (congrFun eN8 4).trans w4_7
  have t_s_8 := t_s_7.tr ((a8.at 0).wk (Nat.le_refl _) (by omega) (by omega) (by omega) (by omega))
  have A8 := A7.ms h8_
  have hn8 := hn7
  have bd9 := A8.bd hE h8_.po
  obtain ⟨τ9, P9, f9, h9_, a9, pa9, pb9, rp_t⟩ := q_sum (h0 := h0) (qs := qs) (ks := ks) (m := m) hf hT h8_ (by omega) bd9.2.2.1 (by omega)
  rw [f9, zci_at]
  have g9 := g8.tr a9 A8.1.1 A8.2.1.1 A8.2.2.1.1 A8.2.2.2.1 (Nat.le_refl _)
  have eN9 : nV τ9 N = nV τ8 N := (a9.at 0).1 N (Nat.zero_le _) hn8
  have w0_9 := (congrFun eN9 0).trans w0_8
  have w1_9 := (congrFun eN9 1).trans w1_8
  have w2_9 := (congrFun eN9 2).trans w2_8
  have w3_9 := (congrFun eN9 3).trans w3_8
  have w4_9 := (congrFun eN9 4).trans w4_8
  have t_s_9 := t_s_8.tr ((a9.at 0).wk (Nat.le_refl _) (by omega) (by omega) (by omega) (by omega))
  have A9 := A8.sm (T := T) (kk := kk) h8_.po pa9 pb9
  have hn9 := hn8
  have t_t_9 : rAt 0 0 ((S + 1) + 1) P9 A τ9 τ9 := (rAg.rf (C := C) τ9).at 0
  rw [zgd_at zN, zlet_at]
  have h10_ := h9_.a (upd (τ9.2.2.1 11) N (nI (S + 1))) (show 6 ≤ 11 by omega)
  have g10 := g9.a (k := 11) (x := N) (v := (nI (S + 1))) (rFz.n6 (by omega) (by omega) (Nat.le_refl N))
  have w0_10 := (nV_wn τ9 N (nI (S + 1)) (k := 11) (c := 5) (q := 0) rfl (by decide)).trans w0_9
  have w1_10 := (nV_wn τ9 N (nI (S + 1)) (k := 11) (c := 5) (q := 1) rfl (by decide)).trans w1_9
  have w2_10 := (nV_wn τ9 N (nI (S + 1)) (k := 11) (c := 5) (q := 2) rfl (by decide)).trans w2_9
  have w3_10 := (nV_wn τ9 N (nI (S + 1)) (k := 11) (c := 5) (q := 3) rfl (by decide)).trans w3_9
  have w4_10 := (nV_wn τ9 N (nI (S + 1)) (k := 11) (c := 5) (q := 4) rfl (by decide)).trans w4_9
  have w5_10 := nV_we τ9 N (nI (S + 1)) (k := 11) (q := 5) rfl
  have t_s_10 := t_s_9.tr (rAt_zA τ9 (nI (S + 1)) (k := 11) (n := N) (by omega) (by omega) (Or.inr (Nat.zero_le _)))
  have t_t_10 := t_t_9.tr (rAt_zA τ9 (nI (S + 1)) (k := 11) (n := N) (by omega) (by omega) (Or.inr (Nat.zero_le _)))
  generalize zA τ9 11 (upd (τ9.2.2.1 11) N (nI (S + 1))) = τ10 at h10_ g10 w0_10 w1_10 w2_10 w3_10 w4_10 w5_10 t_s_10 t_t_10 ⊢
  have A10 := A9
  have hn10 := hn9
  obtain ⟨τ11, f11, h11_, a11⟩ := q_must (h0 := h0) (qs := qs) (ks := ks) (m := m) hf hT h10_ (show (515, ";", 59) ∈ zKp by decide) (by omega)
  rw [f11, zcv_at]
  have g11 := g10.tr a11 A10.1.1 A10.2.1.1 A10.2.2.1.1 A10.2.2.2.1 (Nat.le_refl _)
  have eN11 : nV τ11 N = nV τ10 N := (a11.at 0).1 N (Nat.zero_le _) hn10
  have w0_11 := (congrFun eN11 0).trans w0_10
  have w1_11 := (congrFun eN11 1).trans w1_10
  have w2_11 := (congrFun eN11 2).trans w2_10
  have w3_11 := (congrFun eN11 3).trans w3_10
  have w4_11 := (congrFun eN11 4).trans w4_10
  have w5_11 := (congrFun eN11 5).trans w5_10
  have t_s_11 := t_s_10.tr ((a11.at 0).wk (Nat.le_refl _) (by omega) (by omega) (by omega) (by omega))
  have t_t_11 := t_t_10.tr ((a11.at 0).wk (Nat.le_refl _) (by omega) (by omega) (by omega) (by omega))
  have A11 := A10.ms h11_
  have hn11 := hn10
  obtain ⟨v12, τ12, f12, W12⟩ := hW (aTo (aTo (aTo (aTo (aTo (aTo (aTo (Sum.inr (i + 1)) (aMs kk 1)) (aMs kk 91)) (aSm kk T)) (aMs kk 93)) (aMs kk 61)) (aSm kk T)) (aMs kk 59)) τ11 (N + 1) ((S + 1) + 1) P9 A h11_ (A11.en hE)
  rw [f12, zci_at]
  obtain ⟨N12, S12, P12, A_12, x12, ⟨h12_, a12⟩, A12, ⟨mN12, mS12, mP12, mA12⟩, ⟨vx12, xb12⟩, rp_a⟩ := (A11.mo (z' := z) (c' := 5) (Nat.le_refl _) (by omega)).wi W12 hz (Nat.le_refl _)
  subst vx12
  have g12 := g11.tr a12 A11.1.1 A11.2.1.1 A11.2.2.1.1 A11.2.2.2.1 (Nat.le_refl _)
  have eN12 : nV τ12 N = nV τ11 N := (a12.at 0).1 N (Nat.zero_le _) hn11
  have w0_12 := (congrFun eN12 0).trans w0_11
  have w1_12 := (congrFun eN12 1).trans w1_11
  have w2_12 := (congrFun eN12 2).trans w2_11
  have w3_12 := (congrFun eN12 3).trans w3_11
  have w4_12 := (congrFun eN12 4).trans w4_11
  have w5_12 := (congrFun eN12 5).trans w5_11
  have t_s_12 := t_s_11.tr ((a12.at 0).wk (Nat.le_refl _) (by omega) (by omega) (by omega) (by omega))
  have t_t_12 := t_t_11.tr ((a12.at 0).wk (Nat.le_refl _) (by omega) (by omega) (by omega) (by omega))
  have hn12 : N < N12 := by omega
  have t_a_12 : rAt (N + 1) N12 S12 P12 A_12 τ12 τ12 := (rAg.rf (C := C) τ12).at (N + 1)
  rw [zgd_at zN, zlet_at]
  have h13_ := h12_.a (upd (τ12.2.2.1 12) N (nI x12)) (show 6 ≤ 12 by omega)
  have g13 := g12.a (k := 12) (x := N) (v := (nI x12)) (rFz.n6 (by omega) (by omega) (Nat.le_refl N))
  have w0_13 := (nV_wn τ12 N (nI x12) (k := 12) (c := 6) (q := 0) rfl (by decide)).trans w0_12
  have w1_13 := (nV_wn τ12 N (nI x12) (k := 12) (c := 6) (q := 1) rfl (by decide)).trans w1_12
  have w2_13 := (nV_wn τ12 N (nI x12) (k := 12) (c := 6) (q := 2) rfl (by decide)).trans w2_12
  have w3_13 := (nV_wn τ12 N (nI x12) (k := 12) (c := 6) (q := 3) rfl (by decide)).trans w3_12
  have w4_13 := (nV_wn τ12 N (nI x12) (k := 12) (c := 6) (q := 4) rfl (by decide)).trans w4_12
  have w5_13 := (nV_wn τ12 N (nI x12) (k := 12) (c := 6) (q := 5) rfl (by decide)).trans w5_12
  have w6_13 := nV_we τ12 N (nI x12) (k := 12) (q := 6) rfl
  have t_s_13 := t_s_12.tr (rAt_zA τ12 (nI x12) (k := 12) (n := N) (by omega) (by omega) (Or.inr (Nat.zero_le _)))
  have t_t_13 := t_t_12.tr (rAt_zA τ12 (nI x12) (k := 12) (n := N) (by omega) (by omega) (Or.inr (Nat.zero_le _)))
  have t_a_13 := t_a_12.tr (rAt_zA τ12 (nI x12) (k := 12) (n := N) (by omega) (by omega) (Or.inl (by omega)))
  generalize zA τ12 12 (upd (τ12.2.2.1 12) N (nI x12)) = τ13 at h13_ g13 w0_13 w1_13 w2_13 w3_13 w4_13 w5_13 w6_13 t_s_13 t_t_13 t_a_13 ⊢
  have A13 := A12
  have hn13 := hn12
  have eT : aTo (.inr i) (aSe kk T G) = (aTo (aTo (aTo (aTo (aTo (aTo (aTo (aTo (Sum.inr (i + 1)) (aMs kk 1)) (aMs kk 91)) (aSm kk T)) (aMs kk 93)) (aMs kk 61)) (aSm kk T)) (aMs kk 59)) G) := on_st (H := fun s => aTo (aTo (aTo (aTo (aTo (aTo (aTo (s) (aMs kk 91)) (aSm kk T)) (aMs kk 93)) (aMs kk 61)) (aSm kk T)) (aMs kk 59)) (G)) (fun _ => rfl) (fun _ _ => on_st (H := fun s => aTo (aTo (aTo (aTo (aTo (aTo (s) (aSm kk T)) (aMs kk 93)) (aMs kk 61)) (aSm kk T)) (aMs kk 59)) (G)) (fun _ => rfl) (fun _ _ => on_st (H := fun s => aTo (aTo (aTo (aTo (aTo (s) (aMs kk 93)) (aMs kk 61)) (aSm kk T)) (aMs kk 59)) (G)) (fun _ => rfl) (fun _ _ => on_st (H := fun s => aTo (aTo (aTo (aTo (s) (aMs kk 61)) (aSm kk T)) (aMs kk 59)) (G)) (fun _ => rfl) (fun _ _ => on_st (H := fun s => aTo (aTo (aTo (s) (aSm kk T)) (aMs kk 59)) (G)) (fun _ => rfl) (fun _ _ => on_st (H := fun s => aTo (aTo (s) (aMs kk 59)) (G)) (fun _ => rfl) (fun _ _ => on_st (H := fun s => aTo (s) (G)) (fun _ => rfl) (fun _ _ => on_st (H := fun s => s) (fun _ => rfl) (fun _ _ => rfl))))))))
  refine ⟨_, τ13, rfl, N12, S12, P12, A_12, N, ?_⟩
  rw [eT]
  refine ⟨h13_, g13, fun i' e => (by cases e; exact A13.mo (Nat.le_refl _) (by omega)), fun j e => (by cases e), ⟨rfl, hN⟩, fun i' t j e e' => ?_⟩
  cases e
  unfold aSe at e'
  obtain ⟨c0, j0, y0, e'⟩ := on_ok e'
  obtain ⟨u0, rfl⟩ := aMs_ok y0
  have z0 : aTo (Sum.inr (i + 1)) (aMs kk 1) = .inr ((i + 1) + 1) := by rw [aTo_ok, y0]; rfl
  obtain ⟨c1, j1, y1, e'⟩ := on_ok e'
  obtain ⟨u1, rfl⟩ := aMs_ok y1
  have z1 : aTo (aTo (Sum.inr (i + 1)) (aMs kk 1)) (aMs kk 91) = .inr (((i + 1) + 1) + 1) := by rw [z0, aTo_ok, y1]; rfl
  obtain ⟨c2, j2, y2, e'⟩ := on_ok e'
  have z2 : aTo (aTo (aTo (Sum.inr (i + 1)) (aMs kk 1)) (aMs kk 91)) (aSm kk T) = .inr j2 := by rw [z1, aTo_ok, y2]; rfl
  obtain ⟨c3, j3, y3, e'⟩ := on_ok e'
  obtain ⟨u3, rfl⟩ := aMs_ok y3
  have z3 : aTo (aTo (aTo (aTo (Sum.inr (i + 1)) (aMs kk 1)) (aMs kk 91)) (aSm kk T)) (aMs kk 93) = .inr (j2 + 1) := by rw [z2, aTo_ok, y3]; rfl
  obtain ⟨c4, j4, y4, e'⟩ := on_ok e'
  obtain ⟨u4, rfl⟩ := aMs_ok y4
  have z4 : aTo (aTo (aTo (aTo (aTo (Sum.inr (i + 1)) (aMs kk 1)) (aMs kk 91)) (aSm kk T)) (aMs kk 93)) (aMs kk 61) = .inr ((j2 + 1) + 1) := by rw [z3, aTo_ok, y4]; rfl
  obtain ⟨c5, j5, y5, e'⟩ := on_ok e'
  have z5 : aTo (aTo (aTo (aTo (aTo (aTo (Sum.inr (i + 1)) (aMs kk 1)) (aMs kk 91)) (aSm kk T)) (aMs kk 93)) (aMs kk 61)) (aSm kk T) = .inr j5 := by rw [z4, aTo_ok, y5]; rfl
  obtain ⟨c6, j6, y6, e'⟩ := on_ok e'
  obtain ⟨u6, rfl⟩ := aMs_ok y6
  have z6 : aTo (aTo (aTo (aTo (aTo (aTo (aTo (Sum.inr (i + 1)) (aMs kk 1)) (aMs kk 91)) (aSm kk T)) (aMs kk 93)) (aMs kk 61)) (aSm kk T)) (aMs kk 59) = .inr (j5 + 1) := by rw [z5, aTo_ok, y6]; rfl
  obtain ⟨c7, j7, y7, e'⟩ := on_ok e'
  have z7 : aTo (aTo (aTo (aTo (aTo (aTo (aTo (aTo (Sum.inr (i + 1)) (aMs kk 1)) (aMs kk 91)) (aSm kk T)) (aMs kk 93)) (aMs kk 61)) (aSm kk T)) (aMs kk 59)) (G) = .inr j7 := by rw [z6, aTo_ok, y7]; rfl
  cases e'
  obtain ⟨l2, l2_, L2⟩ := rp_s _ _ _ z1 y2
  have M2 := t_s_13.sm (S' := S12) (P' := P12) L2 (by omega) (by omega)
  obtain ⟨l5, l5_, L5⟩ := rp_t _ _ _ z4 y5
  have M5 := t_t_13.sm (S' := S12) (P' := P12) L5 (by omega) (by omega)
  obtain ⟨l7, l7_, L7⟩ := rp_a _ _ _ z6 y7
  have M7 := rTr.keep (lo' := N) (N' := N12) (S' := S12) (P' := P12) (A' := A_12) t_a_13 (by omega) (by omega) (by omega) (by omega) (by omega) _ _ _ _ L7
  refine ⟨by omega, ⟨(Nat.le_refl _), by omega⟩, ?_⟩
  exact ⟨⟨⟨(Nat.le_refl _), by omega⟩, w0_13, w1_13⟩, ⟨by rw [w2_13]; exact sgn _ z0, by rw [w3_13]; exact n1 (i + 1) rfl u0⟩, _, _, _, ⟨w4_13, w5_13, w6_13⟩, M2, M5, M7⟩
set_option maxHeartbeats 1000000 in
theorem q_new (hf : lFacts κ ks sz) (hT : 2010 ≤ T) (hm : 5 ≤ m) (hE : N ≤ i ∧ S ≤ i ∧ P ≤ i ∧ A ≤ i) (hi : i ≤ cnt) (hz1 : z ≤ 31) (hW : ∀ (s : Sum Nat Nat) (τ : zSt) (N S P A : Nat), rR T len cnt kk pp ee f d τ N S P A C s → rE4 N S P A s → ∃ v τ', zF h0 qs ks T m 29 [.ref h0] τ = some (some (.int v), τ') ∧ rPe T len cnt kk pp ee f d C τ N S P A s G k v τ') (hz : k ≤ z) (h0_ : rR T len cnt kk pp ee f d τ0 (N + 1) S P A C (.inr (i + 1))) (g0 : rAg N S P A C τ τ0) (w0_0 : nV τ0 N 0 = nI 7) (w1_0 : nV τ0 N 1 = pp i) (w2_0 : nV τ0 N 2 = pp i) : ∃ v τ', (zci (zF h0 qs ks T m 21 [.ref h0] τ0) fun r91 s89 =>
  zgd (zin (nI N) 2100) (zlet (zA s89 10 (upd (s89.2.2.1 10) ((nI N)).toNatClampNeg r91)) fun s93 =>
  some (some (.int (nI N)), s93))) = some (some (.int v), τ') ∧ rPe T len cnt kk pp ee f d C τ N S P A (.inr i) (fun i => (aSm kk T (i + 1)).on fun s i1 => .inr (tN 7 i 0 0 s s0 tZ tZ, i1)) z v τ' := by
  have A0 : aA4 cnt z 0 N S P A i (N + 1) S P A (Sum.inr (i + 1)) := aA4.nd
  have hcn := h0_.1.cn
  have hn0 : N < N + 1 := Nat.lt_succ_self N
  have hN : N < 2100 := by omega
  have zN := zin_n hN (show 2100 < 2 ^ 31 by decide)
  have cN : (nI N).toNatClampNeg = N := nI_clamp (by omega)
  try simp only [cN]
  have bd1 := A0.bd hE h0_.po
  obtain ⟨τ1, P1, f1, h1_, a1, pa1, pb1, rp_s⟩ := q_sum (h0 := h0) (qs := qs) (ks := ks) (m := m) hf hT h0_ (by omega) bd1.2.2.1 (by omega)
  rw [f1, zci_at]
  have g1 := g0.tr a1 A0.1.1 A0.2.1.1 A0.2.2.1.1 A0.2.2.2.1 (Nat.le_refl _)
  have eN1 : nV τ1 N = nV τ0 N := (a1.at 0).1 N (Nat.zero_le _) hn0
  have w0_1 := (congrFun eN1 0).trans w0_0
  have w1_1 := (congrFun eN1 1).trans w1_0
  have w2_1 := (congrFun eN1 2).trans w2_0
  have A1 := A0.sm (T := T) (kk := kk) h0_.po pa1 pb1
  have hn1 := hn0
  have t_s_1 : rAt 0 0 (S + 1) P1 A τ1 τ1 := (rAg.rf (C := C) τ1).at 0
  rw [zgd_at zN, zlet_at]
  have h2_ := h1_.a (upd (τ1.2.2.1 10) N (nI S)) (show 6 ≤ 10 by omega)
  have g2 := g1.a (k := 10) (x := N) (v := (nI S)) (rFz.n6 (by omega) (by omega) (Nat.le_refl N))
  have w0_2 := (nV_wn τ1 N (nI S) (k := 10) (c := 4) (q := 0) rfl (by decide)).trans w0_1
  have w1_2 := (nV_wn τ1 N (nI S) (k := 10) (c := 4) (q := 1) rfl (by decide)).trans w1_1
  have w2_2 := (nV_wn τ1 N (nI S) (k := 10) (c := 4) (q := 2) rfl (by decide)).trans w2_1
  have w4_2 := nV_we τ1 N (nI S) (k := 10) (q := 4) rfl
  have t_s_2 := t_s_1.tr (rAt_zA τ1 (nI S) (k := 10) (n := N) (by omega) (by omega) (Or.inr (Nat.zero_le _)))
  generalize zA τ1 10 (upd (τ1.2.2.1 10) N (nI S)) = τ2 at h2_ g2 w0_2 w1_2 w2_2 w4_2 t_s_2 ⊢
  have A2 := A1
  have hn2 := hn1
  have eT : aTo (.inr i) (fun i => (aSm kk T (i + 1)).on fun s i1 => .inr (tN 7 i 0 0 s s0 tZ tZ, i1)) = (aTo (Sum.inr (i + 1)) (aSm kk T)) := on_st (H := fun s => s) (fun _ => rfl) (fun _ _ => rfl)
  refine ⟨_, τ2, rfl, (N + 1), (S + 1), P1, A, N, ?_⟩
  rw [eT]
  refine ⟨h2_, g2, fun i' e => (by cases e; exact A2.mo (Nat.le_refl _) (by omega)), fun j e => (by cases e), ⟨rfl, hN⟩, fun i' t j e e' => ?_⟩
  cases e
  obtain ⟨c0, j0, y0, e'⟩ := on_ok e'
  have z0 : aTo (Sum.inr (i + 1)) (aSm kk T) = .inr j0 := by rw [aTo_ok, y0]; rfl
  cases e'
  obtain ⟨l0, l0_, L0⟩ := rp_s _ _ _ rfl y0
  have M0 := t_s_2.sm (S' := (S + 1)) (P' := P1) L0 (by omega) (by omega)
  refine ⟨by omega, ⟨(Nat.le_refl _), by omega⟩, ?_⟩
  exact ⟨⟨⟨(Nat.le_refl _), by omega⟩, w0_2, w1_2⟩, _, w4_2, M0⟩
set_option maxHeartbeats 1000000 in
theorem q_cons (hf : lFacts κ ks sz) (hT : 2010 ≤ T) (hm : 5 ≤ m) (hE : N ≤ i ∧ S ≤ i ∧ P ≤ i ∧ A ≤ i) (hi : i ≤ cnt) (hz1 : z ≤ 31) (hW : ∀ (s : Sum Nat Nat) (τ : zSt) (N S P A : Nat), rR T len cnt kk pp ee f d τ N S P A C s → rE4 N S P A s → ∃ v τ', zF h0 qs ks T m 29 [.ref h0] τ = some (some (.int v), τ') ∧ rPe T len cnt kk pp ee f d C τ N S P A s G k v τ') (hz : k ≤ z) (h0_ : rR T len cnt kk pp ee f d τ0 (N + 1) S P A C (.inr (i + 1))) (g0 : rAg N S P A C τ τ0) (w0_0 : nV τ0 N 0 = nI 18) (w1_0 : nV τ0 N 1 = pp i) (w2_0 : nV τ0 N 2 = pp i) : ∃ v τ', (zci (zF h0 qs ks T m 21 [.ref h0] τ0) fun r73 s71 =>
  zgd (zin (nI N) 2100) (zlet (zA s71 10 (upd (s71.2.2.1 10) ((nI N)).toNatClampNeg r73)) fun s75 =>
  zci (zF h0 qs ks T m 15 [.ref h0] s75) fun r79 s77 =>
  zgd (zin (nI N) 2100) (zlet (zA s77 9 (upd (s77.2.2.1 9) ((nI N)).toNatClampNeg r79)) fun s81 =>
  some (some (.int (nI N)), s81)))) = some (some (.int v), τ') ∧ rPe T len cnt kk pp ee f d C τ N S P A (.inr i) (fun i => (aSm kk T (i + 1)).on fun s i1 => (aMs kk 1 i1).on fun _ i2 => .inr (tN 18 i i1 0 s s0 tZ tZ, i2)) z v τ' := by
  have A0 : aA4 cnt z 0 N S P A i (N + 1) S P A (Sum.inr (i + 1)) := aA4.nd
  have hcn := h0_.1.cn
  have hn0 : N < N + 1 := Nat.lt_succ_self N
  have hN : N < 2100 := by omega
  have zN := zin_n hN (show 2100 < 2 ^ 31 by decide)
  have cN : (nI N).toNatClampNeg = N := nI_clamp (by omega)
  try simp only [cN]
  have bd1 := A0.bd hE h0_.po
  obtain ⟨τ1, P1, f1, h1_, a1, pa1, pb1, rp_s⟩ := q_sum (h0 := h0) (qs := qs) (ks := ks) (m := m) hf hT h0_ (by omega) bd1.2.2.1 (by omega)
  rw [f1, zci_at]
  have g1 := g0.tr a1 A0.1.1 A0.2.1.1 A0.2.2.1.1 A0.2.2.2.1 (Nat.le_refl _)
  have eN1 : nV τ1 N = nV τ0 N := (a1.at 0).1 N (Nat.zero_le _) hn0
  have w0_1 := (congrFun eN1 0).trans w0_0
  have w1_1 := (congrFun eN1 1).trans w1_0
  have w2_1 := (congrFun eN1 2).trans w2_0
  have A1 := A0.sm (T := T) (kk := kk) h0_.po pa1 pb1
  have hn1 := hn0
  have t_s_1 : rAt 0 0 (S + 1) P1 A τ1 τ1 := (rAg.rf (C := C) τ1).at 0
  rw [zgd_at zN, zlet_at]
  have h2_ := h1_.a (upd (τ1.2.2.1 10) N (nI S)) (show 6 ≤ 10 by omega)
  have g2 := g1.a (k := 10) (x := N) (v := (nI S)) (rFz.n6 (by omega) (by omega) (Nat.le_refl N))
  have w0_2 := (nV_wn τ1 N (nI S) (k := 10) (c := 4) (q := 0) rfl (by decide)).trans w0_1
  have w1_2 := (nV_wn τ1 N (nI S) (k := 10) (c := 4) (q := 1) rfl (by decide)).trans w1_1
  have w2_2 := (nV_wn τ1 N (nI S) (k := 10) (c := 4) (q := 2) rfl (by decide)).trans w2_1
  have w4_2 := nV_we τ1 N (nI S) (k := 10) (q := 4) rfl
  have t_s_2 := t_s_1.tr (rAt_zA τ1 (nI S) (k := 10) (n := N) (by omega) (by omega) (Or.inr (Nat.zero_le _)))
  generalize zA τ1 10 (upd (τ1.2.2.1 10) N (nI S)) = τ2 at h2_ g2 w0_2 w1_2 w2_2 w4_2 t_s_2 ⊢
  have A2 := A1
  have hn2 := hn1
  obtain ⟨x3, τ3, f3, h3_, a3, n3⟩ := q_name (h0 := h0) (qs := qs) (ks := ks) (m := m) h2_ (by omega)
  rw [f3, zci_at]
  have g3 := g2.tr a3 A2.1.1 A2.2.1.1 A2.2.2.1.1 A2.2.2.2.1 (Nat.le_refl _)
  have eN3 : nV τ3 N = nV τ2 N := (a3.at 0).1 N (Nat.zero_le _) hn2
  have w0_3 := (congrFun eN3 0).trans w0_2
  have w1_3 := (congrFun eN3 1).trans w1_2
  have w2_3 := (congrFun eN3 2).trans w2_2
  have w4_3 := (congrFun eN3 4).trans w4_2
  have t_s_3 := t_s_2.tr ((a3.at 0).wk (Nat.le_refl _) (by omega) (by omega) (by omega) (by omega))
  have A3 := A2.ms h3_
  have hn3 := hn2
  rw [zgd_at zN, zlet_at]
  have h4_ := h3_.a (upd (τ3.2.2.1 9) N x3) (show 6 ≤ 9 by omega)
  have g4 := g3.a (k := 9) (x := N) (v := x3) (rFz.n6 (by omega) (by omega) (Nat.le_refl N))
  have w0_4 := (nV_wn τ3 N x3 (k := 9) (c := 3) (q := 0) rfl (by decide)).trans w0_3
  have w1_4 := (nV_wn τ3 N x3 (k := 9) (c := 3) (q := 1) rfl (by decide)).trans w1_3
  have w2_4 := (nV_wn τ3 N x3 (k := 9) (c := 3) (q := 2) rfl (by decide)).trans w2_3
  have w4_4 := (nV_wn τ3 N x3 (k := 9) (c := 3) (q := 4) rfl (by decide)).trans w4_3
  have w3_4 := nV_we τ3 N x3 (k := 9) (q := 3) rfl
  have t_s_4 := t_s_3.tr (rAt_zA τ3 x3 (k := 9) (n := N) (by omega) (by omega) (Or.inr (Nat.zero_le _)))
  generalize zA τ3 9 (upd (τ3.2.2.1 9) N x3) = τ4 at h4_ g4 w0_4 w1_4 w2_4 w3_4 w4_4 t_s_4 ⊢
  have A4 := A3
  have hn4 := hn3
  have eT : aTo (.inr i) (fun i => (aSm kk T (i + 1)).on fun s i1 => (aMs kk 1 i1).on fun _ i2 => .inr (tN 18 i i1 0 s s0 tZ tZ, i2)) = (aTo (aTo (Sum.inr (i + 1)) (aSm kk T)) (aMs kk 1)) := on_st (H := fun s => aTo (s) (aMs kk 1)) (fun _ => rfl) (fun _ _ => on_st (H := fun s => s) (fun _ => rfl) (fun _ _ => rfl))
  refine ⟨_, τ4, rfl, (N + 1), (S + 1), P1, A, N, ?_⟩
  rw [eT]
  refine ⟨h4_, g4, fun i' e => (by cases e; exact A4.mo (Nat.le_refl _) (by omega)), fun j e => (by cases e), ⟨rfl, hN⟩, fun i' t j e e' => ?_⟩
  cases e
  obtain ⟨c0, j0, y0, e'⟩ := on_ok e'
  have z0 : aTo (Sum.inr (i + 1)) (aSm kk T) = .inr j0 := by rw [aTo_ok, y0]; rfl
  obtain ⟨c1, j1, y1, e'⟩ := on_ok e'
  obtain ⟨u1, rfl⟩ := aMs_ok y1
  have z1 : aTo (aTo (Sum.inr (i + 1)) (aSm kk T)) (aMs kk 1) = .inr (j0 + 1) := by rw [z0, aTo_ok, y1]; rfl
  cases e'
  obtain ⟨l0, l0_, L0⟩ := rp_s _ _ _ rfl y0
  have M0 := t_s_4.sm (S' := (S + 1)) (P' := P1) L0 (by omega) (by omega)
  refine ⟨by omega, ⟨(Nat.le_refl _), by omega⟩, ?_⟩
  exact ⟨⟨⟨(Nat.le_refl _), by omega⟩, w0_4, w1_4⟩, by rw [w3_4]; exact n3 _ z0 u1, _, w4_4, M0⟩
set_option maxHeartbeats 1000000 in
theorem q_match (hf : lFacts κ ks sz) (hT : 2010 ≤ T) (hm : 5 ≤ m) (hE : N ≤ i ∧ S ≤ i ∧ P ≤ i ∧ A ≤ i) (hi : i ≤ cnt) (hz1 : z ≤ 31) (hW : ∀ (s : Sum Nat Nat) (τ : zSt) (N S P A : Nat), rR T len cnt kk pp ee f d τ N S P A C s → rE4 N S P A s → ∃ v τ', zF h0 qs ks T m 29 [.ref h0] τ = some (some (.int v), τ') ∧ rPe T len cnt kk pp ee f d C τ N S P A s G k v τ') (hz : k ≤ z) (h0_ : rR T len cnt kk pp ee f d τ0 (N + 1) S P A C (.inr (i + 1))) (g0 : rAg N S P A C τ τ0) (w0_0 : nV τ0 N 0 = nI 19) (w1_0 : nV τ0 N 1 = pp i) (w2_0 : nV τ0 N 2 = pp i) : ∃ v τ', (zci (zF h0 qs ks T m 15 [.ref h0] τ0) fun r6 s4 =>
  zgd (zin (nI N) 2100) (zlet (zA s4 9 (upd (s4.2.2.1 9) ((nI N)).toNatClampNeg r6)) fun s8 =>
  zcv (zF h0 qs ks T m 14 [.ref h0, .ref (ks 589)] s8) fun s10 =>
  zcv (zF h0 qs ks T m 14 [.ref h0, .ref (ks 569)] s10) fun s12 =>
  zcv (zF h0 qs ks T m 14 [.ref h0, .ref (ks 545)] s12) fun s14 =>
  zci (zF h0 qs ks T m 29 [.ref h0] s14) fun r18 s16 =>
  zgd (zin (nI N) 2100) (zlet (zA s16 11 (upd (s16.2.2.1 11) ((nI N)).toNatClampNeg r18)) fun s20 =>
  zcv (zF h0 qs ks T m 14 [.ref h0, .ref (ks 515)] s20) fun s22 =>
  zci (zF h0 qs ks T m 15 [.ref h0] s22) fun r26 s24 =>
  zgd (zin (nI N) 2100) (zlet (zA s24 10 (upd (s24.2.2.1 10) ((nI N)).toNatClampNeg r26)) fun s28 =>
  zci (zF h0 qs ks T m 15 [.ref h0] s28) fun r32 s30 =>
  zcv (zF h0 qs ks T m 14 [.ref h0, .ref (ks 545)] s30) fun s33 =>
  zci (zF h0 qs ks T m 29 [.ref h0] s33) fun r37 s35 =>
  zgd (zin (nI N) 2100) (zlet (zA s35 12 (upd (s35.2.2.1 12) ((nI N)).toNatClampNeg r37)) fun s39 =>
  some (some (.int (nI N)), s39)))))) = some (some (.int v), τ') ∧ rPe T len cnt kk pp ee f d C τ N S P A (.inr i) (aMt kk G) z v τ' := by
  have A0 : aA4 cnt z 0 N S P A i (N + 1) S P A (Sum.inr (i + 1)) := aA4.nd
  have hcn := h0_.1.cn
  have hn0 : N < N + 1 := Nat.lt_succ_self N
  have hN : N < 2100 := by omega
  have zN := zin_n hN (show 2100 < 2 ^ 31 by decide)
  have cN : (nI N).toNatClampNeg = N := nI_clamp (by omega)
  try simp only [cN]
  obtain ⟨x1, τ1, f1, h1_, a1, n1⟩ := q_name (h0 := h0) (qs := qs) (ks := ks) (m := m) h0_ (by omega)
  rw [f1, zci_at]
  have g1 := g0.tr a1 A0.1.1 A0.2.1.1 A0.2.2.1.1 A0.2.2.2.1 (Nat.le_refl _)
  have eN1 : nV τ1 N = nV τ0 N := (a1.at 0).1 N (Nat.zero_le _) hn0
  have w0_1 := (congrFun eN1 0).trans w0_0
  have w1_1 := (congrFun eN1 1).trans w1_0
  have w2_1 := (congrFun eN1 2).trans w2_0
  have A1 := A0.ms h1_
  have hn1 := hn0
  rw [zgd_at zN, zlet_at]
  have h2_ := h1_.a (upd (τ1.2.2.1 9) N x1) (show 6 ≤ 9 by omega)
  have g2 := g1.a (k := 9) (x := N) (v := x1) (rFz.n6 (by omega) (by omega) (Nat.le_refl N))
  have w0_2 := (nV_wn τ1 N x1 (k := 9) (c := 3) (q := 0) rfl (by decide)).trans w0_1
  have w1_2 := (nV_wn τ1 N x1 (k := 9) (c := 3) (q := 1) rfl (by decide)).trans w1_1
  have w2_2 := (nV_wn τ1 N x1 (k := 9) (c := 3) (q := 2) rfl (by decide)).trans w2_1
  have w3_2 := nV_we τ1 N x1 (k := 9) (q := 3) rfl
  generalize zA τ1 9 (upd (τ1.2.2.1 9) N x1) = τ2 at h2_ g2 w0_2 w1_2 w2_2 w3_2 ⊢
  have A2 := A1
  have hn2 := hn1
  obtain ⟨τ3, f3, h3_, a3⟩ := q_must (h0 := h0) (qs := qs) (ks := ks) (m := m) hf hT h2_ (show (589, "with", 225) ∈ zKp by decide) (by omega)
  rw [f3, zcv_at]
  have g3 := g2.tr a3 A2.1.1 A2.2.1.1 A2.2.2.1.1 A2.2.2.2.1 (Nat.le_refl _)
  have eN3 : nV τ3 N = nV τ2 N := (a3.at 0).1 N (Nat.zero_le _) hn2
  have w0_3 := (congrFun eN3 0).trans w0_2
  have w1_3 := (congrFun eN3 1).trans w1_2
  have w2_3 := (congrFun eN3 2).trans w2_2
  have w3_3 := (congrFun eN3 3).trans w3_2
  have A3 := A2.ms h3_
  have hn3 := hn2
  obtain ⟨τ4, f4, h4_, a4⟩ := q_must (h0 := h0) (qs := qs) (ks := ks) (m := m) hf hT h3_ (show (569, "nil", 216) ∈ zKp by decide) (by omega)
  rw [f4, zcv_at]
  have g4 := g3.tr a4 A3.1.1 A3.2.1.1 A3.2.2.1.1 A3.2.2.2.1 (Nat.le_refl _)
  have eN4 : nV τ4 N = nV τ3 N := (a4.at 0).1 N (Nat.zero_le _) hn3
  have w0_4 := (congrFun eN4 0).trans w0_3
  have w1_4 := (congrFun eN4 1).trans w1_3
  have w2_4 := (congrFun eN4 2).trans w2_3
  have w3_4 := (congrFun eN4 3).trans w3_3
  have A4 := A3.ms h4_
  have hn4 := hn3
  obtain ⟨τ5, f5, h5_, a5⟩ := q_must (h0 := h0) (qs := qs) (ks := ks) (m := m) hf hT h4_ (show (545, "->", 304) ∈ zKp by decide) (by omega)
  rw [f5, zcv_at]
  have g5 := g4.tr a5 A4.1.1 A4.2.1.1 A4.2.2.1.1 A4.2.2.2.1 (Nat.le_refl _)
  have eN5 : nV τ5 N = nV τ4 N := (a5.at 0).1 N (Nat.zero_le _) hn4
  have w0_5 := (congrFun eN5 0).trans w0_4
  have w1_5 := (congrFun eN5 1).trans w1_4
  have w2_5 := (congrFun eN5 2).trans w2_4
  have w3_5 := (congrFun eN5 3).trans w3_4
  have A5 := A4.ms h5_
  have hn5 := hn4
  obtain ⟨v6, τ6, f6, W6⟩ := hW (aTo (aTo (aTo (aTo (Sum.inr (i + 1)) (aMs kk 1)) (aMs kk 225)) (aMs kk 216)) (aMs kk 304)) τ5 (N + 1) S P A h5_ (A5.en hE)
  rw [f6, zci_at]
  obtain ⟨N6, S6, P6, A_6, x6, ⟨h6_, a6⟩, A6, ⟨mN6, mS6, mP6, mA6⟩, ⟨vx6, xb6⟩, rp_a⟩ := (A5.mo (z' := z) (c' := 5) (Nat.le_refl _) (by omega)).wi W6 hz (Nat.le_refl _)
  subst vx6
  have g6 := g5.tr a6 A5.1.1 A5.2.1.1 A5.2.2.1.1 A5.2.2.2.1 (Nat.le_refl _)
  have eN6 : nV τ6 N = nV τ5 N := (a6.at 0).1 N (Nat.zero_le _) hn5
  have w0_6 := (congrFun eN6 0).trans w0_5
  have w1_6 := (congrFun eN6 1).trans w1_5
  have w2_6 := (congrFun eN6 2).trans w2_5
  have w3_6 := (congrFun eN6 3).trans w3_5
  have hn6 : N < N6 := by omega
  have t_a_6 : rAt (N + 1) N6 S6 P6 A_6 τ6 τ6 := (rAg.rf (C := C) τ6).at (N + 1)
  rw [zgd_at zN, zlet_at]
  have h7_ := h6_.a (upd (τ6.2.2.1 11) N (nI x6)) (show 6 ≤ 11 by omega)
  have g7 := g6.a (k := 11) (x := N) (v := (nI x6)) (rFz.n6 (by omega) (by omega) (Nat.le_refl N))
  have w0_7 := (nV_wn τ6 N (nI x6) (k := 11) (c := 5) (q := 0) rfl (by decide)).trans w0_6
  have w1_7 := (nV_wn τ6 N (nI x6) (k := 11) (c := 5) (q := 1) rfl (by decide)).trans w1_6
  have w2_7 := (nV_wn τ6 N (nI x6) (k := 11) (c := 5) (q := 2) rfl (by decide)).trans w2_6
  have w3_7 := (nV_wn τ6 N (nI x6) (k := 11) (c := 5) (q := 3) rfl (by decide)).trans w3_6
  have w5_7 := nV_we τ6 N (nI x6) (k := 11) (q := 5) rfl
  have t_a_7 := t_a_6.tr (rAt_zA τ6 (nI x6) (k := 11) (n := N) (by omega) (by omega) (Or.inl (by omega)))
  generalize zA τ6 11 (upd (τ6.2.2.1 11) N (nI x6)) = τ7 at h7_ g7 w0_7 w1_7 w2_7 w3_7 w5_7 t_a_7 ⊢
  have A7 := A6
  have hn7 := hn6
  obtain ⟨τ8, f8, h8_, a8⟩ := q_must (h0 := h0) (qs := qs) (ks := ks) (m := m) hf hT h7_ (show (515, ";", 59) ∈ zKp by decide) (by omega)
  rw [f8, zcv_at]
  have g8 := g7.tr a8 A7.1.1 A7.2.1.1 A7.2.2.1.1 A7.2.2.2.1 (Nat.le_refl _)
  have eN8 : nV τ8 N = nV τ7 N := (a8.at 0).1 N (Nat.zero_le _) hn7
  have w0_8 := (congrFun eN8 0).trans w0_7
  have w1_8 := (congrFun eN8 1).trans w1_7
  have w2_8 := (congrFun eN8 2).trans w2_7
  have w3_8 := (congrFun eN8 3).trans w3_7
  have w5_8 := (congrFun eN8 5).trans w5_7
  have t_a_8 := t_a_7.tr ((a8.at (N + 1)).wk (Nat.le_refl _) (by omega) (by omega) (by omega) (by omega))
  have A8 := A7.ms h8_
  have hn8 := hn7
  obtain ⟨x9, τ9, f9, h9_, a9, n9⟩ := q_name (h0 := h0) (qs := qs) (ks := ks) (m := m) h8_ (by omega)
  rw [f9, zci_at]
  have g9 := g8.tr a9 A8.1.1 A8.2.1.1 A8.2.2.1.1 A8.2.2.2.1 (Nat.le_refl _)
  have eN9 : nV τ9 N = nV τ8 N := (a9.at 0).1 N (Nat.zero_le _) hn8
  have w0_9 := (congrFun eN9 0).trans w0_8
  have w1_9 := (congrFun eN9 1).trans w1_8
  have w2_9 := (congrFun eN9 2).trans w2_8
  have w3_9 := (congrFun eN9 3).trans w3_8
  have w5_9 := (congrFun eN9 5).trans w5_8
  have t_a_9 := t_a_8.tr ((a9.at (N + 1)).wk (Nat.le_refl _) (by omega) (by omega) (by omega) (by omega))
  have A9 := A8.ms h9_
  have hn9 := hn8
  rw [zgd_at zN, zlet_at]
  have h10_ := h9_.a (upd (τ9.2.2.1 10) N x9) (show 6 ≤ 10 by omega)
  have g10 := g9.a (k := 10) (x := N) (v := x9) (rFz.n6 (by omega) (by omega) (Nat.le_refl N))
  have w0_10 := (nV_wn τ9 N x9 (k := 10) (c := 4) (q := 0) rfl (by decide)).trans w0_9
  have w1_10 := (nV_wn τ9 N x9 (k := 10) (c := 4) (q := 1) rfl (by decide)).trans w1_9
  have w2_10 := (nV_wn τ9 N x9 (k := 10) (c := 4) (q := 2) rfl (by decide)).trans w2_9
  have w3_10 := (nV_wn τ9 N x9 (k := 10) (c := 4) (q := 3) rfl (by decide)).trans w3_9
  have w5_10 := (nV_wn τ9 N x9 (k := 10) (c := 4) (q := 5) rfl (by decide)).trans w5_9
  have w4_10 := nV_we τ9 N x9 (k := 10) (q := 4) rfl
  have t_a_10 := t_a_9.tr (rAt_zA τ9 x9 (k := 10) (n := N) (by omega) (by omega) (Or.inl (by omega)))
  generalize zA τ9 10 (upd (τ9.2.2.1 10) N x9) = τ10 at h10_ g10 w0_10 w1_10 w2_10 w3_10 w4_10 w5_10 t_a_10 ⊢
  have A10 := A9
  have hn10 := hn9
  obtain ⟨x11, τ11, f11, h11_, a11, n11⟩ := q_name (h0 := h0) (qs := qs) (ks := ks) (m := m) h10_ (by omega)
  rw [f11, zci_at]
  have g11 := g10.tr a11 A10.1.1 A10.2.1.1 A10.2.2.1.1 A10.2.2.2.1 (Nat.le_refl _)
  have eN11 : nV τ11 N = nV τ10 N := (a11.at 0).1 N (Nat.zero_le _) hn10
  have w0_11 := (congrFun eN11 0).trans w0_10
  have w1_11 := (congrFun eN11 1).trans w1_10
  have w2_11 := (congrFun eN11 2).trans w2_10
  have w3_11 := (congrFun eN11 3).trans w3_10
  have w4_11 := (congrFun eN11 4).trans w4_10
  have w5_11 := (congrFun eN11 5).trans w5_10
  have t_a_11 := t_a_10.tr ((a11.at (N + 1)).wk (Nat.le_refl _) (by omega) (by omega) (by omega) (by omega))
  have A11 := A10.ms h11_
  have hn11 := hn10
  obtain ⟨τ12, f12, h12_, a12⟩ := q_must (h0 := h0) (qs := qs) (ks := ks) (m := m) hf hT h11_ (show (545, "->", 304) ∈ zKp by decide) (by omega)
  rw [f12, zcv_at]
  have g12 := g11.tr a12 A11.1.1 A11.2.1.1 A11.2.2.1.1 A11.2.2.2.1 (Nat.le_refl _)
  have eN12 : nV τ12 N = nV τ11 N := (a12.at 0).1 N (Nat.zero_le _) hn11
  have w0_12 := (congrFun eN12 0).trans w0_11
  have w1_12 := (congrFun eN12 1).trans w1_11
  have w2_12 := (congrFun eN12 2).trans w2_11
  have w3_12 := (congrFun eN12 3).trans w3_11
  have w4_12 := (congrFun eN12 4).trans w4_11
  have w5_12 := (congrFun eN12 5).trans w5_11
  have t_a_12 := t_a_11.tr ((a12.at (N + 1)).wk (Nat.le_refl _) (by omega) (by omega) (by omega) (by omega))
  have A12 := A11.ms h12_
  have hn12 := hn11
  obtain ⟨v13, τ13, f13, W13⟩ := hW (aTo (aTo (aTo (aTo (aTo (aTo (aTo (aTo (aTo (Sum.inr (i + 1)) (aMs kk 1)) (aMs kk 225)) (aMs kk 216)) (aMs kk 304)) G) (aMs kk 59)) (aMs kk 1)) (aMs kk 1)) (aMs kk 304)) τ12 N6 S6 P6 A_6 h12_ (A12.en hE)
  rw [f13, zci_at]
  obtain ⟨N13, S13, P13, A_13, x13, ⟨h13_, a13⟩, A13, ⟨mN13, mS13, mP13, mA13⟩, ⟨vx13, xb13⟩, rp_b⟩ := (A12.mo (z' := z) (c' := 5) (Nat.le_refl _) (by omega)).wi W13 hz (Nat.le_refl _)
  subst vx13
  have g13 := g12.tr a13 A12.1.1 A12.2.1.1 A12.2.2.1.1 A12.2.2.2.1 (Nat.le_refl _)
  have eN13 : nV τ13 N = nV τ12 N := (a13.at 0).1 N (Nat.zero_le _) hn12
  have w0_13 := (congrFun eN13 0).trans w0_12
  have w1_13 := (congrFun eN13 1).trans w1_12
  have w2_13 := (congrFun eN13 2).trans w2_12
  have w3_13 := (congrFun eN13 3).trans w3_12
  have w4_13 := (congrFun eN13 4).trans w4_12
  have w5_13 := (congrFun eN13 5).trans w5_12
  have t_a_13 := t_a_12.tr ((a13.at (N + 1)).wk (Nat.le_refl _) (by omega) (by omega) (by omega) (by omega))
  have hn13 : N < N13 := by omega
  have t_b_13 : rAt N6 N13 S13 P13 A_13 τ13 τ13 := (rAg.rf (C := C) τ13).at N6
  rw [zgd_at zN, zlet_at]
  have h14_ := h13_.a (upd (τ13.2.2.1 12) N (nI x13)) (show 6 ≤ 12 by omega)
  have g14 := g13.a (k := 12) (x := N) (v := (nI x13)) (rFz.n6 (by omega) (by omega) (Nat.le_refl N))
  have w0_14 := (nV_wn τ13 N (nI x13) (k := 12) (c := 6) (q := 0) rfl (by decide)).trans w0_13
  have w1_14 := (nV_wn τ13 N (nI x13) (k := 12) (c := 6) (q := 1) rfl (by decide)).trans w1_13
  have w2_14 := (nV_wn τ13 N (nI x13) (k := 12) (c := 6) (q := 2) rfl (by decide)).trans w2_13
  have w3_14 := (nV_wn τ13 N (nI x13) (k := 12) (c := 6) (q := 3) rfl (by decide)).trans w3_13
  have w4_14 := (nV_wn τ13 N (nI x13) (k := 12) (c := 6) (q := 4) rfl (by decide)).trans w4_13
  have w5_14 := (nV_wn τ13 N (nI x13) (k := 12) (c := 6) (q := 5) rfl (by decide)).trans w5_13
  have w6_14 := nV_we τ13 N (nI x13) (k := 12) (q := 6) rfl
  have t_a_14 := t_a_13.tr (rAt_zA τ13 (nI x13) (k := 12) (n := N) (by omega) (by omega) (Or.inl (by omega)))
  have t_b_14 := t_b_13.tr (rAt_zA τ13 (nI x13) (k := 12) (n := N) (by omega) (by omega) (Or.inl (by omega)))
  generalize zA τ13 12 (upd (τ13.2.2.1 12) N (nI x13)) = τ14 at h14_ g14 w0_14 w1_14 w2_14 w3_14 w4_14 w5_14 w6_14 t_a_14 t_b_14 ⊢
  have A14 := A13
  have hn14 := hn13
  have eT : aTo (.inr i) (aMt kk G) = (aTo (aTo (aTo (aTo (aTo (aTo (aTo (aTo (aTo (aTo (Sum.inr (i + 1)) (aMs kk 1)) (aMs kk 225)) (aMs kk 216)) (aMs kk 304)) G) (aMs kk 59)) (aMs kk 1)) (aMs kk 1)) (aMs kk 304)) G) := on_st (H := fun s => aTo (aTo (aTo (aTo (aTo (aTo (aTo (aTo (aTo (s) (aMs kk 225)) (aMs kk 216)) (aMs kk 304)) (G)) (aMs kk 59)) (aMs kk 1)) (aMs kk 1)) (aMs kk 304)) (G)) (fun _ => rfl) (fun _ _ => on_st (H := fun s => aTo (aTo (aTo (aTo (aTo (aTo (aTo (aTo (s) (aMs kk 216)) (aMs kk 304)) (G)) (aMs kk 59)) (aMs kk 1)) (aMs kk 1)) (aMs kk 304)) (G)) (fun _ => rfl) (fun _ _ => on_st (H := fun s => aTo (aTo (aTo (aTo (aTo (aTo (aTo (s) (aMs kk 304)) (G)) (aMs kk 59)) (aMs kk 1)) (aMs kk 1)) (aMs kk 304)) (G)) (fun _ => rfl) (fun _ _ => on_st (H := fun s => aTo (aTo (aTo (aTo (aTo (aTo (s) (G)) (aMs kk 59)) (aMs kk 1)) (aMs kk 1)) (aMs kk 304)) (G)) (fun _ => rfl) (fun _ _ => on_st (H := fun s => aTo (aTo (aTo (aTo (aTo (s) (aMs kk 59)) (aMs kk 1)) (aMs kk 1)) (aMs kk 304)) (G)) (fun _ => rfl) (fun _ _ => on_st (H := fun s => aTo (aTo (aTo (aTo (s) (aMs kk 1)) (aMs kk 1)) (aMs kk 304)) (G)) (fun _ => rfl) (fun _ _ => on_st (H := fun s => aTo (aTo (aTo (s) (aMs kk 1)) (aMs kk 304)) (G)) (fun _ => rfl) (fun _ _ => on_st (H := fun s => aTo (aTo (s) (aMs kk 304)) (G)) (fun _ => rfl) (fun _ _ => on_st (H := fun s => aTo (s) (G)) (fun _ => rfl) (fun _ _ => on_st (H := fun s => s) (fun _ => rfl) (fun _ _ => rfl))))))))))
  refine ⟨_, τ14, rfl, N13, S13, P13, A_13, N, ?_⟩
  rw [eT]
  refine ⟨h14_, g14, fun i' e => (by cases e; exact A14.mo (Nat.le_refl _) (by omega)), fun j e => (by cases e), ⟨rfl, hN⟩, fun i' t j e e' => ?_⟩
  cases e
  unfold aMt at e'
  obtain ⟨c0, j0, y0, e'⟩ := on_ok e'
  obtain ⟨u0, rfl⟩ := aMs_ok y0
  have z0 : aTo (Sum.inr (i + 1)) (aMs kk 1) = .inr ((i + 1) + 1) := by rw [aTo_ok, y0]; rfl
  obtain ⟨c1, j1, y1, e'⟩ := on_ok e'
  obtain ⟨u1, rfl⟩ := aMs_ok y1
  have z1 : aTo (aTo (Sum.inr (i + 1)) (aMs kk 1)) (aMs kk 225) = .inr (((i + 1) + 1) + 1) := by rw [z0, aTo_ok, y1]; rfl
  obtain ⟨c2, j2, y2, e'⟩ := on_ok e'
  obtain ⟨u2, rfl⟩ := aMs_ok y2
  have z2 : aTo (aTo (aTo (Sum.inr (i + 1)) (aMs kk 1)) (aMs kk 225)) (aMs kk 216) = .inr ((((i + 1) + 1) + 1) + 1) := by rw [z1, aTo_ok, y2]; rfl
  obtain ⟨c3, j3, y3, e'⟩ := on_ok e'
  obtain ⟨u3, rfl⟩ := aMs_ok y3
  have z3 : aTo (aTo (aTo (aTo (Sum.inr (i + 1)) (aMs kk 1)) (aMs kk 225)) (aMs kk 216)) (aMs kk 304) = .inr (((((i + 1) + 1) + 1) + 1) + 1) := by rw [z2, aTo_ok, y3]; rfl
  obtain ⟨c4, j4, y4, e'⟩ := on_ok e'
  have z4 : aTo (aTo (aTo (aTo (aTo (Sum.inr (i + 1)) (aMs kk 1)) (aMs kk 225)) (aMs kk 216)) (aMs kk 304)) (G) = .inr j4 := by rw [z3, aTo_ok, y4]; rfl
  obtain ⟨c5, j5, y5, e'⟩ := on_ok e'
  obtain ⟨u5, rfl⟩ := aMs_ok y5
  have z5 : aTo (aTo (aTo (aTo (aTo (aTo (Sum.inr (i + 1)) (aMs kk 1)) (aMs kk 225)) (aMs kk 216)) (aMs kk 304)) G) (aMs kk 59) = .inr (j4 + 1) := by rw [z4, aTo_ok, y5]; rfl
  obtain ⟨c6, j6, y6, e'⟩ := on_ok e'
  obtain ⟨u6, rfl⟩ := aMs_ok y6
  have z6 : aTo (aTo (aTo (aTo (aTo (aTo (aTo (Sum.inr (i + 1)) (aMs kk 1)) (aMs kk 225)) (aMs kk 216)) (aMs kk 304)) G) (aMs kk 59)) (aMs kk 1) = .inr ((j4 + 1) + 1) := by rw [z5, aTo_ok, y6]; rfl
  obtain ⟨c7, j7, y7, e'⟩ := on_ok e'
  obtain ⟨u7, rfl⟩ := aMs_ok y7
  have z7 : aTo (aTo (aTo (aTo (aTo (aTo (aTo (aTo (Sum.inr (i + 1)) (aMs kk 1)) (aMs kk 225)) (aMs kk 216)) (aMs kk 304)) G) (aMs kk 59)) (aMs kk 1)) (aMs kk 1) = .inr (((j4 + 1) + 1) + 1) := by rw [z6, aTo_ok, y7]; rfl
  obtain ⟨c8, j8, y8, e'⟩ := on_ok e'
  obtain ⟨u8, rfl⟩ := aMs_ok y8
  have z8 : aTo (aTo (aTo (aTo (aTo (aTo (aTo (aTo (aTo (Sum.inr (i + 1)) (aMs kk 1)) (aMs kk 225)) (aMs kk 216)) (aMs kk 304)) G) (aMs kk 59)) (aMs kk 1)) (aMs kk 1)) (aMs kk 304) = .inr ((((j4 + 1) + 1) + 1) + 1) := by rw [z7, aTo_ok, y8]; rfl
  obtain ⟨c9, j9, y9, e'⟩ := on_ok e'
  have z9 : aTo (aTo (aTo (aTo (aTo (aTo (aTo (aTo (aTo (aTo (Sum.inr (i + 1)) (aMs kk 1)) (aMs kk 225)) (aMs kk 216)) (aMs kk 304)) G) (aMs kk 59)) (aMs kk 1)) (aMs kk 1)) (aMs kk 304)) (G) = .inr j9 := by rw [z8, aTo_ok, y9]; rfl
  cases e'
  obtain ⟨l4, l4_, L4⟩ := rp_a _ _ _ z3 y4
  have M4 := rTr.keep (lo' := N) (N' := N13) (S' := S13) (P' := P13) (A' := A_13) t_a_14 (by omega) (by omega) (by omega) (by omega) (by omega) _ _ _ _ L4
  obtain ⟨l9, l9_, L9⟩ := rp_b _ _ _ z8 y9
  have M9 := rTr.keep (lo' := N) (N' := N13) (S' := S13) (P' := P13) (A' := A_13) t_b_14 (by omega) (by omega) (by omega) (by omega) (by omega) _ _ _ _ L9
  refine ⟨by omega, ⟨(Nat.le_refl _), by omega⟩, ?_⟩
  exact ⟨⟨⟨(Nat.le_refl _), by omega⟩, w0_14, w1_14⟩, ⟨by rw [w3_14]; exact n1 (i + 1) rfl u0, by rw [w4_14]; exact n9 _ z5 u6⟩, _, _, ⟨w5_14, w6_14⟩, M4, M9⟩
set_option maxHeartbeats 1000000 in
theorem q_paren (hf : lFacts κ ks sz) (hT : 2010 ≤ T) (hm : 5 ≤ m) (hE : N ≤ i ∧ S ≤ i ∧ P ≤ i ∧ A ≤ i) (hi : i ≤ cnt) (hz1 : z ≤ 31) (hW : ∀ (s : Sum Nat Nat) (τ : zSt) (N S P A : Nat), rR T len cnt kk pp ee f d τ N S P A C s → rE4 N S P A s → ∃ v τ', zF h0 qs ks T m 29 [.ref h0] τ = some (some (.int v), τ') ∧ rPe T len cnt kk pp ee f d C τ N S P A s G k v τ') (hz : k ≤ z) (h0_ : rR T len cnt kk pp ee f d τ0 (N + 1) S P A C (.inr (i + 1))) (g0 : rAg N S P A C τ τ0) (w0_0 : nV τ0 N 0 = nI 16) (w1_0 : nV τ0 N 1 = pp i) (w2_0 : nV τ0 N 2 = pp i) : ∃ v τ', (zci (zF h0 qs ks T m 29 [.ref h0] τ0) fun r59 s57 =>
  zgd (zin (nI N) 2100) (zlet (zA s57 11 (upd (s57.2.2.1 11) ((nI N)).toNatClampNeg r59)) fun s61 =>
  zcv (zF h0 qs ks T m 14 [.ref h0, .ref (ks 584)] s61) fun s63 =>
  some (some (.int (nI N)), s63))) = some (some (.int v), τ') ∧ rPe T len cnt kk pp ee f d C τ N S P A (.inr i) (fun i => (G (i + 1)).on fun a i1 => (aMs kk 41 i1).on fun _ i2 => .inr (tN 16 i 0 0 s0 s0 a tZ, i2)) z v τ' := by
  have A0 : aA4 cnt z 0 N S P A i (N + 1) S P A (Sum.inr (i + 1)) := aA4.nd
  have hcn := h0_.1.cn
  have hn0 : N < N + 1 := Nat.lt_succ_self N
  have hN : N < 2100 := by omega
  have zN := zin_n hN (show 2100 < 2 ^ 31 by decide)
  have cN : (nI N).toNatClampNeg = N := nI_clamp (by omega)
  try simp only [cN]
  obtain ⟨v1, τ1, f1, W1⟩ := hW (Sum.inr (i + 1)) τ0 (N + 1) S P A h0_ (A0.en hE)
  rw [f1, zci_at]
  obtain ⟨N1, S1, P1, A_1, x1, ⟨h1_, a1⟩, A1, ⟨mN1, mS1, mP1, mA1⟩, ⟨vx1, xb1⟩, rp_a⟩ := (A0.mo (z' := z) (c' := 5) (Nat.le_refl _) (by omega)).wi W1 hz (Nat.le_refl _)
  subst vx1
  have g1 := g0.tr a1 A0.1.1 A0.2.1.1 A0.2.2.1.1 A0.2.2.2.1 (Nat.le_refl _)
  have eN1 : nV τ1 N = nV τ0 N := (a1.at 0).1 N (Nat.zero_le _) hn0
  have w0_1 := (congrFun eN1 0).trans w0_0
  have w1_1 := (congrFun eN1 1).trans w1_0
  have w2_1 := (congrFun eN1 2).trans w2_0
  have hn1 : N < N1 := by omega
  have t_a_1 : rAt (N + 1) N1 S1 P1 A_1 τ1 τ1 := (rAg.rf (C := C) τ1).at (N + 1)
  rw [zgd_at zN, zlet_at]
  have h2_ := h1_.a (upd (τ1.2.2.1 11) N (nI x1)) (show 6 ≤ 11 by omega)
  have g2 := g1.a (k := 11) (x := N) (v := (nI x1)) (rFz.n6 (by omega) (by omega) (Nat.le_refl N))
  have w0_2 := (nV_wn τ1 N (nI x1) (k := 11) (c := 5) (q := 0) rfl (by decide)).trans w0_1
  have w1_2 := (nV_wn τ1 N (nI x1) (k := 11) (c := 5) (q := 1) rfl (by decide)).trans w1_1
  have w2_2 := (nV_wn τ1 N (nI x1) (k := 11) (c := 5) (q := 2) rfl (by decide)).trans w2_1
  have w5_2 := nV_we τ1 N (nI x1) (k := 11) (q := 5) rfl
  have t_a_2 := t_a_1.tr (rAt_zA τ1 (nI x1) (k := 11) (n := N) (by omega) (by omega) (Or.inl (by omega)))
  generalize zA τ1 11 (upd (τ1.2.2.1 11) N (nI x1)) = τ2 at h2_ g2 w0_2 w1_2 w2_2 w5_2 t_a_2 ⊢
  have A2 := A1
  have hn2 := hn1
  obtain ⟨τ3, f3, h3_, a3⟩ := q_must (h0 := h0) (qs := qs) (ks := ks) (m := m) hf hT h2_ (show (584, ")", 41) ∈ zKp by decide) (by omega)
  rw [f3, zcv_at]
  have g3 := g2.tr a3 A2.1.1 A2.2.1.1 A2.2.2.1.1 A2.2.2.2.1 (Nat.le_refl _)
  have eN3 : nV τ3 N = nV τ2 N := (a3.at 0).1 N (Nat.zero_le _) hn2
  have w0_3 := (congrFun eN3 0).trans w0_2
  have w1_3 := (congrFun eN3 1).trans w1_2
  have w2_3 := (congrFun eN3 2).trans w2_2
  have w5_3 := (congrFun eN3 5).trans w5_2
  have t_a_3 := t_a_2.tr ((a3.at (N + 1)).wk (Nat.le_refl _) (by omega) (by omega) (by omega) (by omega))
  have A3 := A2.ms h3_
  have hn3 := hn2
  have eT : aTo (.inr i) (fun i => (G (i + 1)).on fun a i1 => (aMs kk 41 i1).on fun _ i2 => .inr (tN 16 i 0 0 s0 s0 a tZ, i2)) = (aTo (aTo (Sum.inr (i + 1)) G) (aMs kk 41)) := on_st (H := fun s => aTo (s) (aMs kk 41)) (fun _ => rfl) (fun _ _ => on_st (H := fun s => s) (fun _ => rfl) (fun _ _ => rfl))
  refine ⟨_, τ3, rfl, N1, S1, P1, A_1, N, ?_⟩
  rw [eT]
  refine ⟨h3_, g3, fun i' e => (by cases e; exact A3.mo (Nat.le_refl _) (by omega)), fun j e => (by cases e), ⟨rfl, hN⟩, fun i' t j e e' => ?_⟩
  cases e
  obtain ⟨c0, j0, y0, e'⟩ := on_ok e'
  have z0 : aTo (Sum.inr (i + 1)) (G) = .inr j0 := by rw [aTo_ok, y0]; rfl
  obtain ⟨c1, j1, y1, e'⟩ := on_ok e'
  obtain ⟨u1, rfl⟩ := aMs_ok y1
  have z1 : aTo (aTo (Sum.inr (i + 1)) G) (aMs kk 41) = .inr (j0 + 1) := by rw [z0, aTo_ok, y1]; rfl
  cases e'
  obtain ⟨l0, l0_, L0⟩ := rp_a _ _ _ rfl y0
  have M0 := rTr.keep (lo' := N) (N' := N1) (S' := S1) (P' := P1) (A' := A_1) t_a_3 (by omega) (by omega) (by omega) (by omega) (by omega) _ _ _ _ L0
  refine ⟨by omega, ⟨(Nat.le_refl _), by omega⟩, ?_⟩
  exact ⟨⟨⟨(Nat.le_refl _), by omega⟩, w0_3, w1_3⟩, _, w5_3, M0⟩
set_option maxHeartbeats 1000000 in
theorem q_154 {s : Sum Nat Nat} {mk : tT → tT → tT} {o0 o1 o2 o3 o4 : Int32} (hf : lFacts κ ks sz) (hT : 2010 ≤ T) (hm : 5 ≤ m) (hE : N ≤ i ∧ S ≤ i ∧ P ≤ i ∧ A ≤ i) (hi : i ≤ cnt) (hz1 : z ≤ 31) (hW : ∀ (s : Sum Nat Nat) (τ : zSt) (N S P A : Nat), rR T len cnt kk pp ee f d τ N S P A C s → rE4 N S P A s → ∃ v τ', zF h0 qs ks T m 29 [.ref h0] τ = some (some (.int v), τ') ∧ rPe T len cnt kk pp ee f d C τ N S P A s G k v τ') (hz : k ≤ z) (h0_ : rR T len cnt kk pp ee f d τ0 (N + 1) S P A C s) (g0 : rAg N S P A C τ τ0) (A0 : aA4 cnt z 0 N S P A i (N + 1) S P A s) (w0_0 : nV τ0 N 0 = o0) (w1_0 : nV τ0 N 1 = o1) (w2_0 : nV τ0 N 2 = o2) (w3_0 : nV τ0 N 3 = o3) (w4_0 : nV τ0 N 4 = o4) : ∃ τ', j_expression_154 T (zF h0 qs ks T m) h0 qs ks (nI N) τ0 = some (some (.int (nI N)), τ') ∧ ∃ N' S' P' A', rR T len cnt kk pp ee f d τ' N' S' P' A' C (aTo s (aLt kk G mk)) ∧ rAg N S P A C τ τ' ∧ aA4 cnt z 5 N S P A i N' S' P' A' (aTo s (aLt kk G mk)) ∧ (nV τ' N 0 = o0 ∧ nV τ' N 1 = o1 ∧ nV τ' N 2 = o2 ∧ nV τ' N 3 = o3 ∧ nV τ' N 4 = o4) ∧ N < N' ∧ (∀ i' t j, s = .inr i' → aLt kk G mk i' = .inr (t, j) → ∃ a b x y, t = mk a b ∧ i' < j ∧ (nV τ' N 5 = nI x ∧ nV τ' N 6 = nI y) ∧ rTr pp τ' N N' S' P' A' a 0 0 x ∧ rTr pp τ' N N' S' P' A' b 0 0 y) := by
  unfold j_expression_154
  skip
  have hcn := h0_.1.cn
  have hn0 : N < N + 1 := Nat.lt_succ_self N
  have hN : N < 2100 := by omega
  have zN := zin_n hN (show 2100 < 2 ^ 31 by decide)
  have cN : (nI N).toNatClampNeg = N := nI_clamp (by omega)
  try simp only [cN]
  obtain ⟨τ1, f1, h1_, a1⟩ := q_must (h0 := h0) (qs := qs) (ks := ks) (m := m) hf hT h0_ (show (457, "=", 61) ∈ zKp by decide) (by omega)
  rw [f1, zcv_at]
  have g1 := g0.tr a1 A0.1.1 A0.2.1.1 A0.2.2.1.1 A0.2.2.2.1 (Nat.le_refl _)
  have eN1 : nV τ1 N = nV τ0 N := (a1.at 0).1 N (Nat.zero_le _) hn0
  have w0_1 := (congrFun eN1 0).trans w0_0
  have w1_1 := (congrFun eN1 1).trans w1_0
  have w2_1 := (congrFun eN1 2).trans w2_0
  have w3_1 := (congrFun eN1 3).trans w3_0
  have w4_1 := (congrFun eN1 4).trans w4_0
  have A1 := A0.ms h1_
  have hn1 := hn0
  obtain ⟨v2, τ2, f2, W2⟩ := hW (aTo s (aMs kk 61)) τ1 (N + 1) S P A h1_ (A1.en hE)
  rw [f2, zci_at]
  obtain ⟨N2, S2, P2, A_2, x2, ⟨h2_, a2⟩, A2, ⟨mN2, mS2, mP2, mA2⟩, ⟨vx2, xb2⟩, rp_a⟩ := (A1.mo (z' := z) (c' := 5) (Nat.le_refl _) (by omega)).wi W2 hz (Nat.le_refl _)
  subst vx2
  have g2 := g1.tr a2 A1.1.1 A1.2.1.1 A1.2.2.1.1 A1.2.2.2.1 (Nat.le_refl _)
  have eN2 : nV τ2 N = nV τ1 N := (a2.at 0).1 N (Nat.zero_le _) hn1
  have w0_2 := (congrFun eN2 0).trans w0_1
  have w1_2 := (congrFun eN2 1).trans w1_1
  have w2_2 := (congrFun eN2 2).trans w2_1
  have w3_2 := (congrFun eN2 3).trans w3_1
  have w4_2 := (congrFun eN2 4).trans w4_1
  have hn2 : N < N2 := by omega
  have t_a_2 : rAt (N + 1) N2 S2 P2 A_2 τ2 τ2 := (rAg.rf (C := C) τ2).at (N + 1)
  rw [zgd_at zN, zlet_at]
  have h3_ := h2_.a (upd (τ2.2.2.1 11) N (nI x2)) (show 6 ≤ 11 by omega)
  have g3 := g2.a (k := 11) (x := N) (v := (nI x2)) (rFz.n6 (by omega) (by omega) (Nat.le_refl N))
  have w0_3 := (nV_wn τ2 N (nI x2) (k := 11) (c := 5) (q := 0) rfl (by decide)).trans w0_2
  have w1_3 := (nV_wn τ2 N (nI x2) (k := 11) (c := 5) (q := 1) rfl (by decide)).trans w1_2
  have w2_3 := (nV_wn τ2 N (nI x2) (k := 11) (c := 5) (q := 2) rfl (by decide)).trans w2_2
  have w3_3 := (nV_wn τ2 N (nI x2) (k := 11) (c := 5) (q := 3) rfl (by decide)).trans w3_2
  have w4_3 := (nV_wn τ2 N (nI x2) (k := 11) (c := 5) (q := 4) rfl (by decide)).trans w4_2
  have w5_3 := nV_we τ2 N (nI x2) (k := 11) (q := 5) rfl
  have t_a_3 := t_a_2.tr (rAt_zA τ2 (nI x2) (k := 11) (n := N) (by omega) (by omega) (Or.inl (by omega)))
  generalize zA τ2 11 (upd (τ2.2.2.1 11) N (nI x2)) = τ3 at h3_ g3 w0_3 w1_3 w2_3 w3_3 w4_3 w5_3 t_a_3 ⊢
  have A3 := A2
  have hn3 := hn2
  obtain ⟨τ4, f4, h4_, a4⟩ := q_must (h0 := h0) (qs := qs) (ks := ks) (m := m) hf hT h3_ (show (541, "in", 208) ∈ zKp by decide) (by omega)
  rw [f4, zcv_at]
  have g4 := g3.tr a4 A3.1.1 A3.2.1.1 A3.2.2.1.1 A3.2.2.2.1 (Nat.le_refl _)
  have eN4 : nV τ4 N = nV τ3 N := (a4.at 0).1 N (Nat.zero_le _) hn3
  have w0_4 := (congrFun eN4 0).trans w0_3
  have w1_4 := (congrFun eN4 1).trans w1_3
  have w2_4 := (congrFun eN4 2).trans w2_3
  have w3_4 := (congrFun eN4 3).trans w3_3
  have w4_4 := (congrFun eN4 4).trans w4_3
  have w5_4 := (congrFun eN4 5).trans w5_3
  have t_a_4 := t_a_3.tr ((a4.at (N + 1)).wk (Nat.le_refl _) (by omega) (by omega) (by omega) (by omega))
  have A4 := A3.ms h4_
  have hn4 := hn3
  obtain ⟨v5, τ5, f5, W5⟩ := hW (aTo (aTo (aTo s (aMs kk 61)) G) (aMs kk 208)) τ4 N2 S2 P2 A_2 h4_ (A4.en hE)
  rw [f5, zci_at]
  obtain ⟨N5, S5, P5, A_5, x5, ⟨h5_, a5⟩, A5, ⟨mN5, mS5, mP5, mA5⟩, ⟨vx5, xb5⟩, rp_b⟩ := (A4.mo (z' := z) (c' := 5) (Nat.le_refl _) (by omega)).wi W5 hz (Nat.le_refl _)
  subst vx5
  have g5 := g4.tr a5 A4.1.1 A4.2.1.1 A4.2.2.1.1 A4.2.2.2.1 (Nat.le_refl _)
  have eN5 : nV τ5 N = nV τ4 N := (a5.at 0).1 N (Nat.zero_le _) hn4
  have w0_5 := (congrFun eN5 0).trans w0_4
  have w1_5 := (congrFun eN5 1).trans w1_4
  have w2_5 := (congrFun eN5 2).trans w2_4
  have w3_5 := (congrFun eN5 3).trans w3_4
  have w4_5 := (congrFun eN5 4).trans w4_4
  have w5_5 := (congrFun eN5 5).trans w5_4
  have t_a_5 := t_a_4.tr ((a5.at (N + 1)).wk (Nat.le_refl _) (by omega) (by omega) (by omega) (by omega))
  have hn5 : N < N5 := by omega
  have t_b_5 : rAt N2 N5 S5 P5 A_5 τ5 τ5 := (rAg.rf (C := C) τ5).at N2
  rw [zgd_at zN, zlet_at]
  have h6_ := h5_.a (upd (τ5.2.2.1 12) N (nI x5)) (show 6 ≤ 12 by omega)
  have g6 := g5.a (k := 12) (x := N) (v := (nI x5)) (rFz.n6 (by omega) (by omega) (Nat.le_refl N))
  have w0_6 := (nV_wn τ5 N (nI x5) (k := 12) (c := 6) (q := 0) rfl (by decide)).trans w0_5
  have w1_6 := (nV_wn τ5 N (nI x5) (k := 12) (c := 6) (q := 1) rfl (by decide)).trans w1_5
  have w2_6 := (nV_wn τ5 N (nI x5) (k := 12) (c := 6) (q := 2) rfl (by decide)).trans w2_5
  have w3_6 := (nV_wn τ5 N (nI x5) (k := 12) (c := 6) (q := 3) rfl (by decide)).trans w3_5
  have w4_6 := (nV_wn τ5 N (nI x5) (k := 12) (c := 6) (q := 4) rfl (by decide)).trans w4_5
  have w5_6 := (nV_wn τ5 N (nI x5) (k := 12) (c := 6) (q := 5) rfl (by decide)).trans w5_5
  have w6_6 := nV_we τ5 N (nI x5) (k := 12) (q := 6) rfl
  have t_a_6 := t_a_5.tr (rAt_zA τ5 (nI x5) (k := 12) (n := N) (by omega) (by omega) (Or.inl (by omega)))
  have t_b_6 := t_b_5.tr (rAt_zA τ5 (nI x5) (k := 12) (n := N) (by omega) (by omega) (Or.inl (by omega)))
  generalize zA τ5 12 (upd (τ5.2.2.1 12) N (nI x5)) = τ6 at h6_ g6 w0_6 w1_6 w2_6 w3_6 w4_6 w5_6 w6_6 t_a_6 t_b_6 ⊢
  have A6 := A5
  have hn6 := hn5
  have eT : aTo s (aLt kk G mk) = (aTo (aTo (aTo (aTo s (aMs kk 61)) G) (aMs kk 208)) G) := by
    cases s with
    | inl j => rfl
    | inr q => exact on_st (H := fun s => aTo (aTo (aTo (s) (G)) (aMs kk 208)) (G)) (fun _ => rfl) (fun _ _ => on_st (H := fun s => aTo (aTo (s) (aMs kk 208)) (G)) (fun _ => rfl) (fun _ _ => on_st (H := fun s => aTo (s) (G)) (fun _ => rfl) (fun _ _ => on_st (H := fun s => s) (fun _ => rfl) (fun _ _ => rfl))))
  refine ⟨τ6, rfl, N5, S5, P5, A_5, ?_⟩
  rw [eT]
  refine ⟨h6_, g6, A6, ⟨w0_6, w1_6, w2_6, w3_6, w4_6⟩, hn6, fun i' t j e e' => ?_⟩
  unfold aLt at e'
  obtain ⟨c0, j0, y0, e'⟩ := on_ok e'
  obtain ⟨u0, rfl⟩ := aMs_ok y0
  have z0 : aTo s (aMs kk 61) = .inr (i' + 1) := by rw [e, aTo_ok, y0]; rfl
  obtain ⟨c1, j1, y1, e'⟩ := on_ok e'
  have z1 : aTo (aTo s (aMs kk 61)) G = .inr j1 := by rw [z0, aTo_ok, y1]; rfl
  obtain ⟨c2, j2, y2, e'⟩ := on_ok e'
  obtain ⟨u2, rfl⟩ := aMs_ok y2
  have z2 : aTo (aTo (aTo s (aMs kk 61)) G) (aMs kk 208) = .inr (j1 + 1) := by rw [z1, aTo_ok, y2]; rfl
  obtain ⟨c3, j3, y3, e'⟩ := on_ok e'
  cases e'
  obtain ⟨l1, l1_, L1⟩ := rp_a _ _ _ z0 y1
  obtain ⟨l3, l3_, L3⟩ := rp_b _ _ _ z2 y3
  have M1 := rTr.keep (lo' := N) (N' := N5) (S' := S5) (P' := P5) (A' := A_5) t_a_6 (by omega) (by omega) (by omega) (by omega) (by omega) _ _ _ _ L1
  have M3 := rTr.keep (lo' := N) (N' := N5) (S' := S5) (P' := P5) (A' := A_5) t_b_6 (by omega) (by omega) (by omega) (by omega) (by omega) _ _ _ _ L3
  exact ⟨_, _, _, _, rfl, by omega, ⟨w5_6, w6_6⟩, M1, M3⟩
end RFR
