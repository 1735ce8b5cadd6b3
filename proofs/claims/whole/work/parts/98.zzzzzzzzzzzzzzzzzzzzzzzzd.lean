/-! the class's gather(): one ARG of a call -/
section WAS
variable {κ : oKv} {T T0 n : Nat} {st : Nat} {l : Nat → Nat} {b0 : Nat} {nq : tQ → Int} {xs : List tQ} {pg ch ty : Nat} {cf : List Value} {At : Nat → Nat} {mo : Nat} {g : gG} {ρ : Nat → tY} {lv ov : Int32} {CN : Nat → gCd → Prop} {NR : Nat → (Nat × Nat × tT × List tP × List Nat × Nat) → Prop} {V : oSt} {lo g0 : Nat} {nm : Nat → Option Nat} {tE tN : Nat → tY} {φ : Nat → Nat} {Us : List Nat} {kk pp ee f fc : Nat → Int32} {B : Nat → Nat} {D : cDt} {Γ : uGm} {C Bd : Int} {rt : Nat → gTm} {cnt : Nat} {i j m q idx k pa x lo1 : Nat} {gl : Nat → Option Nat} {gv : List Value} {tl tl' : List Nat} {Ψ : kGh} {Ls : List Nat} {σ : oSt} {ln : Nat → Nat} {ct : Nat → Nat → Option Nat} {cs : Nat} {s s1 : gSt} {ya yb : tY} {env : List Nat} {sc : List gEn} {Sc : List sEn} {os : Option Nat} {Es : List (gN × Nat)} {A A1 A' : gTy} {mm : gTm} {E : gN → Nat → Prop} {dd : Nat × Nat} {sl tk : Nat}
/-- what a function's Known says of its parameter -/
theorem kRl.par (hA : A.1 = .inr mm) (hy : mm.2.2.1 = .inner 0 () () ya yb) (h : kRl st l b0 nq xs Ψ σ E k A) : ∃ fs w fw gs, (σ.1 k = some (.inr (4, fs)) ∧ fs[0]? = some (.int 206) ∧ fs[1]? = some (.ref w)) ∧ (σ.1 w = some (.inr (4, fw)) ∧ fw[2]? = some (.ref (Ψ.1 (mPn mm)))) ∧ σ.1 (Ψ.1 (mPn mm)) = some (.inr (6, gs)) ∧ gs[3]? = some (.int (cKd (yK ya))) := by
  unfold kRl at h
  rw [hA] at h
  obtain ⟨h1, h2, G, h3, -, -⟩ := h
  obtain ⟨⟨⟨fw, gs, w1, ⟨w2, -⟩, w5, -, w6⟩, -⟩, -⟩ := h2.fn hy
  obtain ⟨fs, gn, ins, k1, k0, k2, -⟩ := h3.f
  rw [hy] at k0
  exact ⟨fs, _, fw, gs, ⟨k1, k0, k2⟩, ⟨w1, w2⟩, w5, w6.1⟩
theorem l_sz0 {x d : Nat} {mc : Int32} (h : σ.1 x = some (.inr (1, [.int mc, .ref d, .int (nI q)]))) : oF κ T (n + 1) 236 [va_rf (some x)] σ = some (some (.int (nI q)), σ) := by
  have f2 : ofd σ (some x) 1 2 = some (.int (nI q)) := by rw [ofd_at h]; rfl
  rw [oE_Jx4a65c_size_8abf5]
  simp only [ob_Jx4a65c_size_8abf5, f2, ovi, obn]
/-- the list of ARGS, in the state -/
theorem gwS.nl7 (h : gwS κ st l b0 nq xs pg ch ty cf At mo g ρ lv ov CN NR pp V lo g0 nm tN φ Us i tl Ψ Ls σ ln ct cs s) (c : cLn κ B D lo1 V pa q gl) (hl : lo ≤ lo1) (hq : 0 < q) (hg : ∀ j b, j < q → gl j = some b → lo ≤ b) : ∃ d cap mc, cLs κ σ pa d cap q mc gl 7 := by
  obtain ⟨d, cap, mc, c1, c2, c3, -⟩ := c
  have hd : lo ≤ d := by
    rcases c2 with z | ⟨z1, z2⟩
    · exact Nat.le_trans hl z.1
    · rcases c1.2.1 with ⟨z, -⟩ | ⟨z, -⟩
      · omega
      · rw [z2] at z; cases z
  exact ⟨d, cap, mc, h.2.2.1.1.ls c1 (Nat.le_trans hl c3.1) hd hq hg (Or.inr rfl)⟩
set_option maxHeartbeats 2000000 in
/-- **one ARG** -/
theorem wa_st {t : Nat} (hT : 9010 ≤ T) (hpp : ∀ u v, u < v → v < cnt → pp u < pp v) (hQ : rtQ Γ rt) (hC : 0 ≤ C) (hA : A.1 = .inr mm) (hy : mm.2.2.1 = .inner 0 () () ya yb) (h : gwS κ st l b0 nq xs pg ch ty cf At mo g ρ lv ov CN NR pp V lo g0 nm tN φ Us i tl Ψ Ls σ ln ct cs s) (hE : gwE st l b0 nq xs Ψ σ CN (dnO g0 φ tl) nm tN lo Ls env sc Sc os Es s.1) (kA : kRl st l b0 nq xs Ψ σ (fun y b => (y, b) ∈ Es) k A) (hm : lo ≤ m ∧ V.1 m = some (.inr (7, gv)) ∧ gv[18]? = some (.ref pa)) (hl : lo ≤ lo1) (hc : cLn κ B D lo1 V pa q gl) (hg : ∀ j b, j < q → gl j = some b → lo ≤ b) (hq2 : q ≤ 2000) (hi' : idx < q) (hx : gl idx = some x) (hx7 : ∃ fs, V.1 x = some (.inr (7, fs))) (W : wkR κ st l b0 nq xs pg ch ty cf At mo g ρ lv ov CN NR pp V lo g0 nm tN φ Us (fun y b => (y, b) ∈ Es) i j tl tl' Ψ Ls σ cs s1 A1 dd (oF κ T (n + 3) 30 [va_rf (some ch), va_rf (some x), va_rf os] σ)) (ht : ∀ u, u ∈ tl → u ∈ Us) (ht' : ∀ u, u ∈ tl' → u ∈ Us) (htt : ∀ u, u ∈ tl → u ∈ tl') (hq : ∀ u, u ∈ env → s1.1 u = s.1 u) (eA : gSy A1 = ya) (yw : yW ya) (wA : wfT Γ C Bd rt (nmS sc) A1) (wB : wfT Γ C Bd rt (nmS sc) A) (hw : scW Γ C Bd rt tN (scN sc)) (hD : yDp ya ≤ 60) (hn : 7 + yDp ya ≤ n + 2) (hln : s1.2.1.length + yLs ya + 1 ≤ 12100) (hj : j ≤ cnt) (hA' : A' = if gMs ya = true then A' else gAn A) (hsl : t15 (mm.2.1.count true) ≤ sl) (htk : t15 (mm.2.1.count true) ≤ tk) (hsu : gMs ya = true → 17 + 2 * mm.2.1.count true ≤ sl ∧ ∃ gx su, V.1 x = some (.inr (7, gx)) ∧ gx[19]? = some (.ref su) ∧ ∃ tt, A' = gPu (gAn A) (mPn mm) tt ∧ ∀ (σ' : oSt) (Ψ' : kGh) (Ls' : List Nat) (ln' : Nat → Nat) (ct' : Nat → Nat → Option Nat) (cs' : Nat) (s' : gSt), gwS κ st l b0 nq xs pg ch ty cf At mo g ρ lv ov CN NR pp V lo g0 nm tN φ Us j tl' Ψ' Ls' σ' ln' ct' cs' s' → gwE st l b0 nq xs Ψ' σ' CN (dnO g0 φ tl') nm tN lo Ls' env sc Sc os Es s'.1 → ∃ u, cTq st l b0 Ψ'.2.2.1 σ' su u ∧ teR (fun y b => (y, b) ∈ Es) tt u) : ∃ σ' k' Ψ' Ls' ln' ct' cs', ol_X0_walkCall_11 T (oF κ T (n + 3)) κ (t + 1) (some ch) (some m) os (some k) (nI idx) σ = ol_X0_walkCall_11 T (oF κ T (n + 3)) κ t (some ch) (some m) os (some k') (nI (idx + 1)) σ' ∧ kRl st l b0 nq xs Ψ' σ' (fun y b => (y, b) ∈ Es) k' A' ∧ gwS κ st l b0 nq xs pg ch ty cf At mo g ρ lv ov CN NR pp V lo g0 nm tN φ Us j tl' Ψ' Ls' σ' ln' ct' cs' (gFt (gFi ya A1 (gTk A) sc) s1) ∧ gwE st l b0 nq xs Ψ' σ' CN (dnO g0 φ tl') nm tN lo Ls' env sc Sc os Es s1.1 ∧ (gAg σ Ψ Ψ' ∧ ∀ k, Ψ'.2.2.2 k → Ψ.2.2.2 k ∨ (2 * i ≤ k ∧ k < 2 * j)) ∧ (gKp st l b0 (fun x => ∃ u, u ∈ tl' ∧ u ∉ tl ∧ x = φ u) σ σ' ∧ wK7 pp i j σ σ') ∧ (∀ z, z ∈ Ls → z ∈ Ls') ∧ gwC xs.length Ls Ls' cs cs' σ σ' (dd.1 + (3 + ((wFt ya A1 (gTk A)).1 + 3))) (dd.2 + (tk + ((wFt ya A1 (gTk A)).2 + sl))) := by
  obtain ⟨hm, o2, g18⟩ := hm
  have hfr := h.2.1.1.1
  have dj := h.dj ht ht'
  obtain ⟨dl, cap, mc, L⟩ := h.nl7 hc hl (by omega) hg
  obtain ⟨gs, g1, -, g3⟩ := h.2.2.1.1.nd hm o2
  obtain ⟨v, hv⟩ := h.2.1.2.2.2.1
  obtain ⟨fs0, wo0, -, -, ⟨p0, p0', -⟩, -⟩ := kA.par hA hy
  have f18 : ofd σ (some m) 7 18 = some (.ref pa) := (ofd_at g1).trans ((g3 18 (by decide) (by decide)).trans g18)
  have lg : oF κ T (n + 3) 234 [va_rf (some pa), .int (nI idx)] σ = some (some (va_rf (some x)), σ) := by
    rw [l_get (n := n) (L.o (by omega)) hi', hx]
  have oc : ocs σ (some x) 7 = true := by
    obtain ⟨b, fs, e1, e2⟩ := L.2.2 idx hi'
    rw [hx] at e1
    injection e1 with e1
    subst e1
    simp only [ocs, e2]; rfl
  -- walk()
  obtain ⟨σ1, k1, Ψ1, Ls1, ln1, ct1, cs1, w1, w2, w3, ⟨w4, w4'⟩, ⟨w5, w6⟩, w7, w8⟩ := W
  have E1 := hE.sp (Dn' := dnO g0 φ tl') (Ls' := Ls1) (q' := s1.1) w5 w4 hfr dj (fun _ z => dnO.up htt z) w7 hq
  have kA1 := kA.sp w5 w4 hfr
  have hfr1 := w3.2.1.1.1
  obtain ⟨fs1, wo1, -, -, ⟨p1, -, -⟩, -⟩ := kA1.par hA hy
  -- taken()
  obtain ⟨σ2, k2, R2, K2, G2, ⟨kp2, sh2⟩, c2⟩ := w3.stp (c_tk (κ := κ) (T := T) (n := n + 1) hA hy kA1 w3.2.1.1) hpp hj
  have E2 := E1.sp (Dn' := dnO g0 φ tl') (Ls' := Ls1) (q' := s1.1) kp2 (gAg.rf _ _) hfr1 (fun _ _ z => z) (fun _ z => z) (fun _ z => z) (fun _ _ => rfl)
  have kA2 := kA1.sp kp2 (gAg.rf _ _) hfr1
  have w2' := w2.sp kp2 (gAg.rf _ _) hfr1
  have hfr2 := G2.2.1.1.1
  obtain ⟨v2, hv2⟩ := G2.2.1.2.2.2.1
  obtain ⟨v1, hv1⟩ := w3.2.1.2.2.2.1
  -- fit()
  have sy : gSy A = .inner 0 () () ya yb := by unfold gSy; rw [hA]; exact hy
  have yk : yK (gSy A) = 1 := by rw [sy]; rfl
  have eB : gSy (gTk A) = ya := by rw [(gSy_tk hA).1, sy]; rfl
  have mB : ∃ m, (gTk A).1 = .inr m ∧ m.2.2.2.1 = [] := ⟨mTk mm, by unfold gTk; rw [hA], rfl⟩
  obtain ⟨σ3, ln3, ct3, cs3, R3, G3, ⟨kp3, x3, w73⟩, c3, -⟩ := G2.ft (T := T) (n := n + 2) (by omega) hQ hC E2 w2' K2 eA eB yw wA (wB.tk yk) mB hw hD hn (by have := G2.len.1; omega) hpp hj
  have kA3 := kA2.sp (kp3 (fun _ => False)) (gAg.rf _ _) hfr2
  have E3 := E2.sp (Dn' := dnO g0 φ tl') (Ls' := Ls1) (q' := s1.1) (kp3 (fun _ => False)) (gAg.rf _ _) hfr2 (fun _ _ z => z) (fun _ z => z) (fun _ z => z) (fun _ _ => rfl)
  have hfr3 := G3.2.1.1.1
  obtain ⟨fs3, wo3, fw3, gs3, ⟨p3, -, p3'⟩, ⟨p4, p4'⟩, p5, p5'⟩ := kA3.par hA hy
  -- answered()
  have an : ∃ σ4 k4, (ol_X0_walkCall_11 T (oF κ T (n + 3)) κ (t + 1) (some ch) (some m) os (some k) (nI idx) σ = ol_X0_walkCall_11 T (oF κ T (n + 3)) κ t (some ch) (some m) os (some k4) (nI (idx + 1)) σ4) ∧ kRl st l b0 nq xs Ψ1 σ4 (fun y b => (y, b) ∈ Es) k4 A' ∧ gwS κ st l b0 nq xs pg ch ty cf At mo g ρ lv ov CN NR pp V lo g0 nm tN φ Us j tl' Ψ1 Ls1 σ4 ln3 ct3 cs3 (gFt (gFi ya A1 (gTk A) sc) s1) ∧ (gKp st l b0 (fun _ => False) σ3 σ4 ∧ shX st σ3 σ4) ∧ gwC xs.length Ls1 Ls1 cs3 cs3 σ3 σ4 3 sl := by
    have nle : ¬ nI q ≤ nI idx := fun z => absurd z (Int32.not_le.mpr (nI_lt (a := idx) (b := q) hi' (by omega)))
    have go : ∀ (o : Option Nat) (σ4 : oSt) (k4 : Nat), oF κ T (n + 3) 4 [va_rf (some k), va_rf o] σ3 = some (some (va_rf (some k4)), σ4) → (gMs ya = false → o = none) → (gMs ya = true → ∃ su, o = some su ∧ ofd σ3 (some x) 7 19 = some (.ref su)) → ol_X0_walkCall_11 T (oF κ T (n + 3)) κ (t + 1) (some ch) (some m) os (some k) (nI idx) σ = ol_X0_walkCall_11 T (oF κ T (n + 3)) κ t (some ch) (some m) os (some k4) (nI (idx + 1)) σ4 := fun o σ4 k4 e4 n1 n2 => by
      rw [ol_X0_walkCall_11, f18, ovr_rf, obn_at, oob_at L.1, obn_at, l_sz L, oin_at, if_neg nle, (ofd_at p0).trans p0', ovi_i, obn_at, if_pos rfl, f18, ovr_rf, obn_at, oob_at L.1, obn_at, lg, orn_at, ogd_at oc, oob_at hv, obn_at, w1, orn_at, oob_at p1, obn_at, R2, orn_at, oob_at hv2, obn_at, R3, ocv_at, (ofd_at p3).trans p3', ovr_rf, obn_at, (ofd_at p4).trans p4', ovr_rf, obn_at, oob_at p5, obn_at, c_meas p5 p5', oin_at, isM_g yw]
      cases ms : gMs ya with
      | false =>
        rw [if_pos (by decide)]
        unfold oj_X0_walkCall_90
        rw [oob_at p3, obn_at, ← n1 ms, e4, orn_at, nI_1]
      | true =>
        obtain ⟨su, e5, e6⟩ := n2 ms
        rw [if_neg (by decide), e6, ovr_rf, obn_at]
        unfold oj_X0_walkCall_90
        rw [oob_at p3, obn_at, ← e5, e4, orn_at, nI_1]
    cases ms : gMs ya with
    | false =>
      obtain ⟨σ4, k4, r1, r2, r3, r4, r5⟩ := G3.stp (c_an0 (κ := κ) (T := T) (n := n + 1) hA hy kA3 (fun z => by rw [ms] at z; cases z) G3.2.1.1) hpp hj
      have eA' : A' = gAn A := by rw [hA', ms]; rfl
      refine ⟨σ4, k4, go none σ4 k4 r1 (fun _ => rfl) (fun z => by rw [ms] at z; cases z), by rw [eA']; exact r2, r3, r4, ?_⟩
      obtain ⟨q1, q2, q3⟩ := r5
      exact ⟨q1, q2, by omega⟩
    | true =>
      obtain ⟨hs1, gx, su, x7, x19, tt, eA', hc⟩ := hsu ms
      obtain ⟨u, hu, hte⟩ := hc σ3 Ψ1 Ls1 ln3 ct3 cs3 _ G3 E3
      obtain ⟨n1, n2⟩ := wfT.no wB hA
      obtain ⟨gx3, gx1, -, gx4⟩ := G3.2.2.1.1.nd (hg idx x hi' hx) x7
      obtain ⟨σ4, k4, r1, r2, r3, r4, r5⟩ := G3.stp (c_an1 (κ := κ) (T := T) (n := n + 1) hA hy ms kA3 n1 (by omega) (by omega) hu (A' := A') (Or.inl ⟨tt, eA', hte⟩) G3.2.1.1) hpp hj
      refine ⟨σ4, k4, go (some su) σ4 k4 r1 (fun z => by rw [ms] at z; cases z) (fun _ => ⟨su, rfl, (ofd_at gx1).trans ((gx4 19 (by decide) (by decide)).trans x19)⟩), r2, r3, r4, ?_⟩
      obtain ⟨q1, q2, q3⟩ := r5
      exact ⟨q1, q2, by omega⟩
  obtain ⟨σ4, k4, r1, r2, r3, ⟨kp4, sh4⟩, c4⟩ := an
  have kp : gKp st l b0 (fun x => ∃ u, u ∈ tl' ∧ u ∉ tl ∧ x = φ u) σ σ4 := ((w5.tr (kp2.mo (fun _ z => z.elim))).tr (kp3 _)).tr (kp4.mo (fun _ z => z.elim))
  refine ⟨σ4, k4, Ψ1, Ls1, ln3, ct3, cs3, r1, r2, r3, E3.sp kp4 (gAg.rf _ _) hfr3 (fun _ _ z => z) (fun _ z => z) (fun _ z => z) (fun _ _ => rfl), ⟨w4, w4'⟩, ⟨kp, ((w6.tr sh2.w7).tr (w73 i j)).tr sh4.w7⟩, w7, ?_⟩
  obtain ⟨q1, q2, q3⟩ := ((w8.tr c2).tr c3).tr c4
  refine ⟨q1, Nat.le_trans q2 (Nat.le_of_eq ?_), Nat.le_trans q3 ?_⟩
  · simp only [wFt]; omega
  · simp only [wFt]; omega
end WAS
