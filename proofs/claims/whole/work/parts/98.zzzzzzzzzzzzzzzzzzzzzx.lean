/-! the class's gather(): plain(), what is left; Sums of the PROGRAM -/
section KPQ
variable {κ : oKv} {T n : Nat} {st : Nat} {l : Nat → Nat} {b0 : Nat} {nq : tQ → Int} {xs : List tQ} {σ : oSt} {pg ch ty : Nat} {cf : List Value} {At : Nat → Nat} {mo : Nat} {g : gG} {ρ : Nat → tY} {lv ov : Int32} {Ls : List Nat} {Ψ : kGh} {E : gN → Nat → Prop} {y : tY} {A : gTy} {m su : Nat} {gs : List Value} {t : gTe}
/-- a NAME that is not measured -/
theorem c_plF {a k : Nat} {fa : List Value} (hm : σ.1 m = some (.inr (7, gs))) (h0 : gs[0]? = some (.int 400)) (h6 : gs[6]? = some (.int 1)) (h9 : gs[9]? = some (.ref a)) (ha : σ.1 a = some (.inr (6, fa))) (a3 : fa[3]? = some (.int (cKd (yK y)))) (yw : yW y) (ms : gMs y = false) (a4 : fa[4]? = some (.ref k)) : oF κ T (n + 3) 20 [va_rf (some m)] σ = some (some (va_rf (some k)), σ) := by
  rw [show n + 3 = (n + 2) + 1 from rfl, oE_X0_plain]
  unfold ob_X0_plain
  have f6 : ofd σ (some m) 7 6 = some (.int 1) := (ofd_at hm).trans h6
  have f9 : ofd σ (some m) 7 9 = some (.ref a) := (ofd_at hm).trans h9
  have f4 : ofd σ (some a) 6 4 = some (.ref k) := (ofd_at ha).trans a4
  have mz := c_meas (κ := κ) (T := T) (n := n + 1) ha a3
  rw [isM_g yw, ms] at mz
  rw [c_pl0 hm h0, ovi_i, obn_at, if_neg (by decide), if_neg (by decide), if_neg (by decide), if_neg (by decide), if_neg (by decide), if_neg (by decide), if_neg (by decide), if_pos rfl, f6, ovi_i, obn_at, if_pos rfl, f9, ovr_rf, obn_at, oob_at ha, obn_at, mz, oin_at, if_pos (by decide), f9, ovr_rf, obn_at, f4, ovr_rf, obn_at]
/-- S * S -/
theorem c_plP {x z u1 a1 t1 c1 u2 a2 t2 c2 : Nat} {gx gz : List Value} {L1 L2 : List (Nat × Int32)} {p1 p2 : Int64} (hT : 2010 ≤ T) (h : tpB st l b0 nq xs Ψ.2.2.1 pg ch ty cf At mo g ρ lv ov Ls σ) (hm : σ.1 m = some (.inr (7, gs))) (h0 : gs[0]? = some (.int 42)) (h15 : gs[15]? = some (.ref x)) (h16 : gs[16]? = some (.ref z)) (hx : σ.1 x = some (.inr (7, gx))) (hz : σ.1 z = some (.inr (7, gz))) (x19 : gx[19]? = some (.ref u1)) (z19 : gz[19]? = some (.ref u2)) (h1 : cSm σ u1 a1 t1 c1 L1 p1) (h2 : cSm σ u2 a2 t2 c2 L2 p2) (hb : -1125899906842624 ≤ p1.toInt * p2.toInt ∧ p1.toInt * p2.toInt ≤ 1125899906842624) : kMd st l b0 nq xs pg ch ty cf At mo g ρ lv ov Ψ Ls σ E (if L1.length = 0 ∧ L2.length = 0 then gEq (yB 0) (none, p1.toInt * p2.toInt) else gPl (yB 0)) 6 25 (oF κ T (n + 6) 20 [va_rf (some m)] σ) := by
  rw [show n + 6 = (n + 5) + 1 from rfl, oE_X0_plain]
  unfold ob_X0_plain
  have f15 : ofd σ (some m) 7 15 = some (.ref x) := (ofd_at hm).trans h15
  have f16 : ofd σ (some m) 7 16 = some (.ref z) := (ofd_at hm).trans h16
  have g1 : ofd σ (some x) 7 19 = some (.ref u1) := (ofd_at hx).trans x19
  have g2 : ofd σ (some z) 7 19 = some (.ref u2) := (ofd_at hz).trans z19
  have K := (c_prod (κ := κ) (T := T) (n := n) (E := E) hT h h1 h2 hb).rn
  generalize (if L1.length = 0 ∧ L2.length = 0 then gEq (yB 0) (none, p1.toInt * p2.toInt) else gPl (yB 0)) = AA at K ⊢
  rw [c_pl0 hm h0, ovi_i, obn_at, if_neg (by decide), if_pos rfl, f15, ovr_rf, obn_at, g1, ovr_rf, obn_at, f16, ovr_rf, obn_at, g2, ovr_rf, obn_at]
  exact K
/-- S % S -/
theorem c_plR {x : Nat} {dn ds : Nat} (hm : σ.1 m = some (.inr (7, gs))) (h0 : gs[0]? = some (.int 37)) (h16 : gs[16]? = some (.ref x)) (K : kMd st l b0 nq xs pg ch ty cf At mo g ρ lv ov Ψ Ls σ E A dn ds (oF κ T (n + 2) 19 [va_rf (some x)] σ)) : kMd st l b0 nq xs pg ch ty cf At mo g ρ lv ov Ψ Ls σ E A dn ds (oF κ T (n + 3) 20 [va_rf (some m)] σ) := by
  rw [show n + 3 = (n + 2) + 1 from rfl, oE_X0_plain]
  unfold ob_X0_plain
  have f16 : ofd σ (some m) 7 16 = some (.ref x) := (ofd_at hm).trans h16
  rw [c_pl0 hm h0, ovi_i, obn_at, if_pos rfl, f16, ovr_rf, obn_at]
  exact K.rn
end KPQ
section SUT
variable {lo : Nat} {V σ : oSt} {st : Nat} {l : Nat → Nat} {b0 : Nat} {Q : Nat → Prop} {E : gN → Nat → Prop} {T : Nat} {f pp ee : Nat → Int32} {nm : Nat → Option Nat} {env : List Nat} {na : gN → Nat}
/-- NAMES that count, in cells -/
def enC (nm : Nat → Option Nat) (na : gN → Nat) (lo : Nat) (env : List Nat) : Prop := (∀ u, u ∈ env → nm u = some (na (.inl u)) ∧ lo ≤ na (.inl u)) ∧ ∀ u v, u ∈ env → v ∈ env → na (.inl u) = na (.inl v) → u = v
theorem nF_mem {w u : Nat} (h : nFind f pp ee env w = some u) : u ∈ env := List.mem_of_mem_take (List.mem_of_find?_eq_some h)
/-- an S's Sum: NAMES as cells -/
theorem enC.sl (h : enC nm na lo env) (ps : List tP) : sL (nR f pp ee nm env) ps = rMp (fun u => na (.inl u)) (sL (nFind f pp ee env) ps) ∧ rIn (fun u => u ∈ env) (sL (nFind f pp ee env) ps) := by
  refine sL_mp' (E := fun u => u ∈ env) (φ := fun u => na (.inl u)) (fun u v hu hv e => h.2 u v hu hv e) (fun w => ?_) (fun w u e => nF_mem e) ps
  unfold nR
  cases e : nFind f pp ee env w with
  | none => rfl
  | some u => exact (h.1 u (nF_mem e)).1
/-- **a Sum of the PROGRAM says what the reading says** -/
theorem enC.su {su na' ta cap : Nat} {pl : Int64} {ps : List tP} (h : enC nm na lo env) (hM : vM lo V σ) (q : pgQ lo V st l b0 σ) (s : cSm V su na' ta cap (sL (nR f pp ee nm env) ps) pl) (hs : lo ≤ su ∧ lo ≤ na' ∧ lo ≤ ta) (hb : b0 ≤ lo) (hQ : ¬ Q ta) (hp : -1125899906842624 ≤ pl.toInt ∧ pl.toInt ≤ 1125899906842624) (he : pl.toInt = (sPl T f pp ee ps).toInt) (hE : ∀ x e, (gOf T f pp ee env ps).1 = some (x, e) → E x (na x)) : suT st l b0 Q σ E su (gTs f pp ee env ps) (gOf T f pp ee env ps) := by
  obtain ⟨e1, e2⟩ := h.sl (f := f) (pp := pp) (ee := ee) ps
  have hN : ∀ p, p ∈ sL (nR f pp ee nm env) ps → lo ≤ p.1 := fun p hp' => by
    rw [e1] at hp'
    obtain ⟨p0, z1, z2⟩ := List.mem_map.mp hp'
    rw [← z2]
    exact (h.1 p0.1 (e2 p0 z1)).2
  have ht : sTe (sL (nR f pp ee nm env) ps) = gTs f pp ee env ps := by rw [e1, sTe_mp]; rfl
  refine ⟨na', ta, cap, _, pl, hM.sm s hs hN, ht, fun hb' => ?_⟩
  unfold gTs at hb'
  unfold gOf at hE ⊢
  cases eL : sL (nFind f pp ee env) ps with
  | nil =>
    rw [eL] at e1
    refine ⟨(none, pl.toInt), hM.tq q s hs hN hb hQ hp rfl (Or.inl ⟨rfl, e1⟩), ?_, Or.inl ⟨rfl, rfl⟩⟩
    exact he.symm
  | cons p r =>
    rw [eL] at e1 hb' hE
    have hr : r = [] ∧ (p.2.toInt = 1 ∨ p.2.toInt = -1) := by
      unfold sTe at hb'
      have c : ((p :: r).length == 0) = false := rfl
      rw [c, Bool.false_or, Bool.and_eq_true] at hb'
      obtain ⟨b1, b2⟩ := hb'
      have b1 : r.length + 1 = 1 := by simpa using b1
      have b2 := of_decide_eq_true b2
      have b2 : jAbs p.2 = 1 := b2
      refine ⟨List.length_eq_zero_iff.mp (by omega), ?_⟩
      exact jAbs_pm b2
    obtain ⟨r0, hv⟩ := hr
    subst r0
    have e1 : sL (nR f pp ee nm env) ps = [(na (.inl p.1), p.2)] := e1
    refine ⟨(some (na (.inl p.1), p.2.toInt), pl.toInt), hM.tq q s hs hN hb hQ hp rfl (Or.inr ⟨_, p.2, rfl, e1, hv⟩), ?_, Or.inr ⟨.inl p.1, na (.inl p.1), p.2.toInt, rfl, rfl, hE _ _ rfl⟩⟩
    exact he.symm
end SUT
