/-! the class's gather(): plain(), kind by kind -/
section KPL
variable {κ : oKv} {T n : Nat} {st : Nat} {l : Nat → Nat} {b0 : Nat} {nq : tQ → Int} {xs : List tQ} {σ : oSt} {pg ch ty : Nat} {cf : List Value} {At : Nat → Nat} {mo : Nat} {g : gG} {ρ : Nat → tY} {lv ov : Int32} {Ls : List Nat} {Ψ : kGh} {E : gN → Nat → Prop} {y : tY} {A : gTy} {m su : Nat} {gs : List Value} {t : gTe} {dn ds : Nat} {R : oRs}
theorem kMd.up {dn' ds' : Nat} (h : kMd st l b0 nq xs pg ch ty cf At mo g ρ lv ov Ψ Ls σ E A dn ds R) (h1 : dn ≤ dn') (h2 : ds ≤ ds') : kMd st l b0 nq xs pg ch ty cf At mo g ρ lv ov Ψ Ls σ E A dn' ds' R := by
  obtain ⟨σ', k, Q', r1, r2, r3, r4, r5, r6, r7⟩ := h
  exact ⟨σ', k, Q', r1, r2, r3, r4, r5, by omega, by omega⟩
/-- the answer is answered again -/
theorem kMd.rn (h : kMd st l b0 nq xs pg ch ty cf At mo g ρ lv ov Ψ Ls σ E A dn ds R) : kMd st l b0 nq xs pg ch ty cf At mo g ρ lv ov Ψ Ls σ E A dn ds (orn R fun r s => some (some (va_rf r), s)) := by
  obtain ⟨σ', k, Q', r1, r2⟩ := h
  rw [r1, orn_at]
  exact ⟨σ', k, Q', rfl, r2⟩
/-- what a Sum says, if it is a term -/
def suT (st : Nat) (l : Nat → Nat) (b0 : Nat) (Q : Nat → Prop) (σ : oSt) (E : gN → Nat → Prop) (su : Nat) (b : Bool) (t : gTe) : Prop := ∃ na ta cap L pl, cSm σ su na ta cap L pl ∧ sTe L = b ∧ (b = true → ∃ u, cTq st l b0 Q σ su u ∧ teR E t u)
/-- Known.of(kind, a Sum of the PROGRAM) -/
theorem c_kofS {b : Bool} (h : tpB st l b0 nq xs Ψ.2.2.1 pg ch ty cf At mo g ρ lv ov Ls σ) {kd : Int32} (hk : kd = cKd (yK y)) (hs : suT st l b0 Ψ.2.2.1 σ E su b t) : kMd st l b0 nq xs pg ch ty cf At mo g ρ lv ov Ψ Ls σ E (if b = true then gEq y t else gPl y) 3 17 (oF κ T (n + 2) 17 [.int kd, va_rf (some su)] σ) := by
  obtain ⟨na, ta, cap, L, pl, s1, s2, s3⟩ := hs
  cases b with
  | true =>
    obtain ⟨u, u1, u2⟩ := s3 rfl
    rw [if_pos rfl]
    exact c_kof1 h hk u1 u2
  | false =>
    rw [if_neg (by decide)]
    exact kMd.up (c_kofN h hk s1 s2) (by omega) (by omega)
theorem c_pl0 (hm : σ.1 m = some (.inr (7, gs))) {kd : Int32} (h0 : gs[0]? = some (.int kd)) : ofd σ (some m) 7 0 = some (.int kd) := (ofd_at hm).trans h0
/-- true, false -/
theorem c_plB (h : tpB st l b0 nq xs Ψ.2.2.1 pg ch ty cf At mo g ρ lv ov Ls σ) (hm : σ.1 m = some (.inr (7, gs))) (h0 : gs[0]? = some (.int 205) ∨ gs[0]? = some (.int 223)) : kMd st l b0 nq xs pg ch ty cf At mo g ρ lv ov Ψ Ls σ E (gPl (yB 1)) 1 15 (oF κ T (n + 2) 20 [va_rf (some m)] σ) := by
  rw [show n + 2 = (n + 1) + 1 from rfl, oE_X0_plain]
  unfold ob_X0_plain
  rcases h0 with h0 | h0
  · rw [c_pl0 hm h0, ovi_i, obn_at, if_neg (by decide), if_neg (by decide), if_neg (by decide), if_pos rfl, olet_at, obn_at, c_kn (n := n), ocv_at]
    exact h.k0 rfl
  · rw [c_pl0 hm h0, ovi_i, obn_at, if_neg (by decide), if_neg (by decide), if_neg (by decide), if_neg (by decide), if_neg (by decide), if_neg (by decide), if_pos rfl, olet_at, obn_at, c_kn (n := n), ocv_at]
    exact h.k0 rfl
/-- S / S, a[S] -/
theorem c_plI (h : tpB st l b0 nq xs Ψ.2.2.1 pg ch ty cf At mo g ρ lv ov Ls σ) (hm : σ.1 m = some (.inr (7, gs))) (h0 : gs[0]? = some (.int 47) ∨ gs[0]? = some (.int 91)) : kMd st l b0 nq xs pg ch ty cf At mo g ρ lv ov Ψ Ls σ E (gPl (yB 0)) 1 15 (oF κ T (n + 2) 20 [va_rf (some m)] σ) := by
  rw [show n + 2 = (n + 1) + 1 from rfl, oE_X0_plain]
  unfold ob_X0_plain
  rcases h0 with h0 | h0
  · rw [c_pl0 hm h0, ovi_i, obn_at, if_neg (by decide), if_neg (by decide), if_neg (by decide), if_neg (by decide), if_neg (by decide), if_neg (by decide), if_neg (by decide), if_neg (by decide), olet_at, obn_at, c_kn (n := n), ocv_at]
    exact h.k0 rfl
  · rw [c_pl0 hm h0, ovi_i, obn_at, if_neg (by decide), if_neg (by decide), if_neg (by decide), if_neg (by decide), if_neg (by decide), if_neg (by decide), if_neg (by decide), if_neg (by decide), olet_at, obn_at, c_kn (n := n), ocv_at]
    exact h.k0 rfl
/-- nil -/
theorem c_plN (h : tpB st l b0 nq xs Ψ.2.2.1 pg ch ty cf At mo g ρ lv ov Ls σ) (hm : σ.1 m = some (.inr (7, gs))) (h0 : gs[0]? = some (.int 216)) : kMd st l b0 nq xs pg ch ty cf At mo g ρ lv ov Ψ Ls σ E (gEq (yB 3) (none, 0)) 6 25 (oF κ T (n + 3) 20 [va_rf (some m)] σ) := by
  rw [show n + 3 = (n + 2) + 1 from rfl, oE_X0_plain]
  unfold ob_X0_plain
  obtain ⟨σ1, R1, s1, o1⟩ := c_sm0 (κ := κ) (T := T) (n := n + 1) (σ := σ) h.1.1
  rw [c_pl0 hm h0, ovi_i, obn_at, if_neg (by decide), if_neg (by decide), if_neg (by decide), if_neg (by decide), if_neg (by decide), if_pos rfl, olet_at, obn_at, R1, ocv_at]
  exact (kMd.pre h o1 (s1.n6 o1) (fun t => c_kof1 (κ := κ) (T := T) (n := n) (y := yB 3) (t := (none, 0)) (u := (none, 0)) t rfl (s1.tq o1 h.1 rfl (by decide) (Or.inl ⟨rfl, rfl⟩)) ⟨rfl, Or.inl ⟨rfl, rfl⟩⟩)).rn
/-- S :: NAME, and what is behind a list's first element: a NAME's size and a number -/
theorem c_kofN1 {a : Nat} {fa : List Value} {x : gN} {p : Int64} (hT : 2010 ≤ T) (h : tpB st l b0 nq xs Ψ.2.2.1 pg ch ty cf At mo g ρ lv ov Ls σ) (ha : σ.1 a = some (.inr (6, fa))) (hE : E x a) (hp : p.toInt = 1 ∨ p.toInt = -1) : kMd st l b0 nq xs pg ch ty cf At mo g ρ lv ov Ψ Ls σ E (gEq (yB 3) (some (x, 1), p.toInt)) 6 25 (orn (oF κ T (n + 4) 11 [va_rf (some a), .int 1, .long p] σ) fun r s => oF κ T (n + 4) 17 [.int 213, va_rf r] s) := by
  obtain ⟨σ1, R1, s1, o1⟩ := c_sof (κ := κ) (T := T) (n := n) (o := some a) (v := 1) (p := p) hT (fun b e => by injection e with e; rw [← e]; exact ⟨fa, ha⟩) (Or.inr (Or.inl rfl)) h.1.1
  rw [if_neg (by decide)] at s1
  have s1 : cSm σ1 σ.2.1 (σ.2.1 + 1) (σ.2.1 + 2) 2 [(a, 1)] p := s1
  rw [R1, orn_at]
  exact kMd.pre h o1 (s1.n6 o1) (fun t => c_kof1 (κ := κ) (T := T) (n := n + 2) (y := yB 3) (t := (some (x, 1), p.toInt)) (u := (some (a, 1), p.toInt)) t rfl (s1.tq o1 h.1 rfl (by show -1125899906842624 ≤ p.toInt ∧ p.toInt ≤ 1125899906842624; omega) (Or.inr ⟨a, 1, rfl, rfl, Or.inl rfl⟩)) ⟨rfl, Or.inr ⟨x, a, 1, rfl, rfl, hE⟩⟩)
theorem c_plC {a : Nat} {fa : List Value} {x : gN} (hT : 2010 ≤ T) (h : tpB st l b0 nq xs Ψ.2.2.1 pg ch ty cf At mo g ρ lv ov Ls σ) (hm : σ.1 m = some (.inr (7, gs))) (h0 : gs[0]? = some (.int 203)) (h9 : gs[9]? = some (.ref a)) (ha : σ.1 a = some (.inr (6, fa))) (hE : E x a) : kMd st l b0 nq xs pg ch ty cf At mo g ρ lv ov Ψ Ls σ E (gEq (yB 3) (some (x, 1), 1)) 6 25 (oF κ T (n + 5) 20 [va_rf (some m)] σ) := by
  rw [show n + 5 = (n + 4) + 1 from rfl, oE_X0_plain]
  unfold ob_X0_plain
  have k := (c_kofN1 (κ := κ) (T := T) (n := n) (p := 1) hT h ha hE (Or.inl rfl)).rn
  have f9 : ofd σ (some m) 7 9 = some (.ref a) := (ofd_at hm).trans h9
  rw [c_pl0 hm h0, ovi_i, obn_at, if_neg (by decide), if_neg (by decide), if_pos rfl, f9, ovr_rf, obn_at]
  obtain ⟨σ1, R1, s1, o1⟩ := c_sof (κ := κ) (T := T) (n := n) (o := some a) (v := 1) (p := 1) hT (fun b e => by injection e with e; rw [← e]; exact ⟨fa, ha⟩) (Or.inr (Or.inl rfl)) h.1.1
  rw [R1, orn_at] at k ⊢
  exact k
/-- new S -/
theorem c_plA {b : Bool} {x : Nat} {gx : List Value} (h : tpB st l b0 nq xs Ψ.2.2.1 pg ch ty cf At mo g ρ lv ov Ls σ) (hm : σ.1 m = some (.inr (7, gs))) (h0 : gs[0]? = some (.int 215)) (h15 : gs[15]? = some (.ref x)) (hx : σ.1 x = some (.inr (7, gx))) (x19 : gx[19]? = some (.ref su)) (hs : suT st l b0 Ψ.2.2.1 σ E su b t) : kMd st l b0 nq xs pg ch ty cf At mo g ρ lv ov Ψ Ls σ E (if b = true then gEq (yB 2) t else gPl (yB 2)) 3 17 (oF κ T (n + 3) 20 [va_rf (some m)] σ) := by
  rw [show n + 3 = (n + 2) + 1 from rfl, oE_X0_plain]
  unfold ob_X0_plain
  have f15 : ofd σ (some m) 7 15 = some (.ref x) := (ofd_at hm).trans h15
  have f19 : ofd σ (some x) 7 19 = some (.ref su) := (ofd_at hx).trans x19
  have K := (c_kofS (κ := κ) (T := T) (n := n) (y := yB 2) h rfl hs).rn
  generalize (if b = true then gEq (yB 2) t else gPl (yB 2)) = AA at K ⊢
  rw [c_pl0 hm h0, ovi_i, obn_at, if_neg (by decide), if_neg (by decide), if_neg (by decide), if_neg (by decide), if_pos rfl, f15, ovr_rf, obn_at, f19, ovr_rf, obn_at]
  exact K
/-- an S that is no NAME -/
theorem c_plS {b : Bool} {al : Int32} (h : tpB st l b0 nq xs Ψ.2.2.1 pg ch ty cf At mo g ρ lv ov Ls σ) (hm : σ.1 m = some (.inr (7, gs))) (h0 : gs[0]? = some (.int 400)) (h6 : gs[6]? = some (.int al)) (ha : al ≠ 1) (h19 : gs[19]? = some (.ref su)) (hs : suT st l b0 Ψ.2.2.1 σ E su b t) : kMd st l b0 nq xs pg ch ty cf At mo g ρ lv ov Ψ Ls σ E (if b = true then gEq (yB 0) t else gPl (yB 0)) 3 17 (oF κ T (n + 3) 20 [va_rf (some m)] σ) := by
  rw [show n + 3 = (n + 2) + 1 from rfl, oE_X0_plain]
  unfold ob_X0_plain
  have f6 : ofd σ (some m) 7 6 = some (.int al) := (ofd_at hm).trans h6
  have f19 : ofd σ (some m) 7 19 = some (.ref su) := (ofd_at hm).trans h19
  have K := (c_kofS (κ := κ) (T := T) (n := n) (y := yB 0) h rfl hs).rn
  generalize (if b = true then gEq (yB 0) t else gPl (yB 0)) = AA at K ⊢
  rw [c_pl0 hm h0, ovi_i, obn_at, if_neg (by decide), if_neg (by decide), if_neg (by decide), if_neg (by decide), if_neg (by decide), if_neg (by decide), if_neg (by decide), if_pos rfl, f6, ovi_i, obn_at, if_neg ha, f19, ovr_rf, obn_at]
  exact K
/-- a measured NAME -/
theorem c_plM {a : Nat} {fa : List Value} {x : gN} (h : tpB st l b0 nq xs Ψ.2.2.1 pg ch ty cf At mo g ρ lv ov Ls σ) (hm : σ.1 m = some (.inr (7, gs))) (h0 : gs[0]? = some (.int 400)) (h6 : gs[6]? = some (.int 1)) (h9 : gs[9]? = some (.ref a)) (h19 : gs[19]? = some (.ref su)) (ha : σ.1 a = some (.inr (6, fa))) (a3 : fa[3]? = some (.int (cKd (yK y)))) (yw : yW y) (ms : gMs y = true) (hs : suT st l b0 Ψ.2.2.1 σ E su true (some (x, 1), 0)) : kMd st l b0 nq xs pg ch ty cf At mo g ρ lv ov Ψ Ls σ E (gEq y (some (x, 1), 0)) 3 17 (oF κ T (n + 3) 20 [va_rf (some m)] σ) := by
  rw [show n + 3 = (n + 2) + 1 from rfl, oE_X0_plain]
  unfold ob_X0_plain
  have f6 : ofd σ (some m) 7 6 = some (.int 1) := (ofd_at hm).trans h6
  have f9 : ofd σ (some m) 7 9 = some (.ref a) := (ofd_at hm).trans h9
  have f19 : ofd σ (some m) 7 19 = some (.ref su) := (ofd_at hm).trans h19
  have f3 : ofd σ (some a) 6 3 = some (.int (cKd (yK y))) := (ofd_at ha).trans a3
  have mz := c_meas (κ := κ) (T := T) (n := n + 1) ha a3
  rw [isM_g yw, ms] at mz
  have := c_kofS (κ := κ) (T := T) (n := n) (y := y) h rfl hs
  rw [if_pos rfl] at this
  rw [c_pl0 hm h0, ovi_i, obn_at, if_neg (by decide), if_neg (by decide), if_neg (by decide), if_neg (by decide), if_neg (by decide), if_neg (by decide), if_neg (by decide), if_pos rfl, f6, ovi_i, obn_at, if_pos rfl, f9, ovr_rf, obn_at, oob_at ha, obn_at, mz, oin_at, if_neg (by decide), f9, ovr_rf, obn_at, f3, ovi_i, obn_at, f19, ovr_rf, obn_at]
  exact this.rn
end KPL
