/-! the class's gather(): fitBody() -/
section GFS
variable {tN : Nat → tY} {r : tY}
theorem gFn_at : ∀ (q w j : Nat), j < q → yL (yRs j (gFn tN q w r)) = tN (w + j)
  | 0, _, _, h => absurd h (Nat.not_lt_zero _)
  | q + 1, w, 0, _ => rfl
  | q + 1, w, j + 1, h => by
    show yL (yRs j (gFn tN q (w + 1) r)) = _
    rw [gFn_at q (w + 1) j (by omega), show w + 1 + j = w + (j + 1) by omega]
theorem gFn_sub : ∀ (q w : Nat), yDp r ≤ yDp (gFn tN q w r) ∧ yLs r ≤ yLs (gFn tN q w r) ∧ (yW (gFn tN q w r) → yW r)
  | 0, _ => ⟨Nat.le_refl _, Nat.le_refl _, id⟩
  | q + 1, w => by
    obtain ⟨h1, h2, h3⟩ := gFn_sub q (w + 1)
    refine ⟨?_, ?_, fun z => h3 ?_⟩
    · show yDp r ≤ max (yDp (tN w)) (yDp (gFn tN q (w + 1) r)) + 1
      omega
    · show yLs r ≤ yLs (tN w) + yLs (gFn tN q (w + 1) r)
      omega
    · exact (show yW (tN w) ∧ yW (gFn tN q (w + 1) r) from z).2
theorem gPa_inr : ∀ (q w : Nat) (A : gTy) (sc : List gEn) (s : gSt), (∃ m, A.1 = .inr m) → ∃ m, (gPa q w A sc s).2.1.1 = .inr m
  | 0, _, _, _, _, h => h
  | q + 1, w, A, sc, s, ⟨m, hm⟩ => gPa_inr q (w + 1) (gAn A) _ _ ⟨mAn m, by unfold gAn; rw [hm]⟩
end GFS
section GTB
variable {κ : oKv} {T T0 n : Nat} {st : Nat} {l : Nat → Nat} {b0 : Nat} {nq : tQ → Int} {xs : List tQ} {pg ch ty : Nat} {cf : List Value} {At : Nat → Nat} {mo : Nat} {g : gG} {ρ : Nat → tY} {lv ov : Int32} {CN : Nat → gCd → Prop} {NR : Nat → (Nat × Nat × tT × List tP × List Nat × Nat) → Prop} {V : oSt} {lo g0 : Nat} {nm : Nat → Option Nat} {tE tN : Nat → tY} {φ : Nat → Nat} {Us : List Nat} {kk pp ee f fc : Nat → Int32} {B : Nat → Nat} {D : cDt} {Γ : uGm} {C Bd : Int} {rt : Nat → gTm} {M : Nat} {CB : List Nat → List (gCd × Bool) → Prop} {NB : List Nat → List (gCd × Bool) → (Nat × Nat × tT × List tP × List Nat × Nat) → Prop} {cnt : Nat} {i j m w q k pa d cap x fk : Nat} {mc : Int32} {gl : Nat → Option Nat} {gv : List Value} {tl : List Nat} {Ψ : kGh} {Ls : List Nat} {σ : oSt} {ln : Nat → Nat} {ct : Nat → Nat → Option Nat} {cs lo1 : Nat} {s : gSt} {r y : tY} {env : List Nat} {sc : List gEn} {Sc : List sEn} {os : Option Nat} {Es : List (gN × Nat)} {F A : gTy} {mm : gTm}
/-- the list of told NAMES, in the state -/
theorem gwS.nl {k0 : Nat} (h : gwS κ st l b0 nq xs pg ch ty cf At mo g ρ lv ov CN NR pp V lo g0 nm tN φ Us i tl Ψ Ls σ ln ct cs s) (c : cNl κ B D lo1 V nm pa w q k0) (hl : lo ≤ lo1) (hq : 0 < q) (hU : ∀ x, x < q → w + x ∈ Us) : ∃ d cap mc gl, cLs κ σ pa d cap q mc gl 6 ∧ ∀ j, j < q → gl j = some (φ (w + j)) := by
  obtain ⟨d, cap, mc, gl, c1, c2, c3, c4⟩ := c
  have at' : ∀ j, j < q → ∃ b, gl j = some b ∧ nm (w + j) = some b ∧ lo ≤ b := fun j hj => by
    obtain ⟨b, e1, e2, e3, -⟩ := c4 j hj
    exact ⟨b, e1, e2, Nat.le_trans hl e3.1⟩
  have hd : lo ≤ d := by
    rcases c2 with z | ⟨z1, z2⟩
    · exact Nat.le_trans hl z.1
    · rcases c1.2.1 with ⟨z, -⟩ | ⟨z, -⟩
      · omega
      · rw [z2] at z; cases z
  refine ⟨d, cap, mc, gl, h.2.2.1.1.ls c1 (Nat.le_trans hl c3.1) hd hq (fun j b hj e => ?_) (Or.inl rfl), fun j hj => ?_⟩
  · obtain ⟨b', e1, -, e3⟩ := at' j hj
    rw [e1] at e
    injection e with e
    omega
  · obtain ⟨b', e1, e2, -⟩ := at' j hj
    rw [e1, ← e2, (h.2.2.2.2.2.1.1 _ (hU j hj)).1]
theorem gwS.tn (h : gwS κ st l b0 nq xs pg ch ty cf At mo g ρ lv ov CN NR pp V lo g0 nm tN φ Us i tl Ψ Ls σ ln ct cs s) (c : cLs κ σ pa d cap q mc gl 6) (hg : ∀ j, j < q → gl j = some (φ (w + j))) (hq : 0 < q) (hq2 : q ≤ 2000) : toN κ (some pa) 0 Ψ.1 (List.range' w q) σ := by
  refine Or.inr ⟨pa, d, cap, q, mc, gl, rfl, c, ⟨hq, hq2⟩, by rw [List.length_range']; omega, fun j u hj => ?_⟩
  have hl : j < q := by
    by_cases z : j < q
    · exact z
    · rw [List.getElem?_eq_none (by rw [List.length_range']; omega)] at hj; cases hj
  rw [List.getElem?_range' hl, Nat.one_mul] at hj
  injection hj with hj
  rw [Nat.zero_add, hg j hl, h.2.2.2.2.2.2.1 u, hj]
theorem gwS.tb (h : gwS κ st l b0 nq xs pg ch ty cf At mo g ρ lv ov CN NR pp V lo g0 nm tN φ Us i tl Ψ Ls σ ln ct cs s) (hy : y = gFn tN q w r) (hU : ∀ x, x < q → w + x ∈ Us) : toB Ψ.1 Ls (List.range' w q) y σ := fun j u hj => by
  have hl : j < q := by
    by_cases z : j < q
    · exact z
    · rw [List.getElem?_eq_none (by rw [List.length_range']; omega)] at hj; cases hj
  rw [List.getElem?_range' hl, Nat.one_mul] at hj
  injection hj with hj
  rw [h.2.2.2.2.2.2.1 u, ← hj, hy, gFn_at q w j hl]
  obtain ⟨-, -, a3, fs, c, f0, -, -, -, f3⟩ := h.2.2.2.2.2.1.1 _ (hU j hl)
  exact ⟨a3, fs, f0, f3⟩
set_option maxHeartbeats 2000000 in
/-- **fitBody()** -/
theorem wk_body {a : tT} {p : List gEn × gTy × gSt} {ra : gSt × gTy} (hT : 9010 ≤ T) (hpp : ∀ u v, u < v → v < cnt → pp u < pp v) (hQ : rtQ Γ rt) (hC : 0 ≤ C) (hB : 4 ≤ Bd) (iha : cWk κ T T0 st l b0 nq xs pg ch ty cf At mo g ρ lv ov CN NR V lo g0 nm tE tN φ Us kk pp ee f fc B D Γ C Bd rt M CB NB cnt a) (ea : eT a) (hp : p = gPa q w F sc s) (hra : ra = gWk T f pp ee tE tN a (env ++ List.range' w q) p.1 A p.2.2) (hF1 : F.1 = .inr mm) (hF2 : F.2 = []) (hns : mm.2.2.2.1 = List.range' w q) (hy : mm.2.2.1 = gFn tN q w r) (hq0 : 0 < q) (hq2 : q ≤ 2000) (hSs : ∀ x, x ∈ mm.2.2.2.2 → (x, Ψ.1 x) ∈ Es) (kF : kRl st l b0 nq xs Ψ σ (fun y b => (y, b) ∈ Es) k F) (hK : toK Ψ σ mm.2.2.1 mm) (h : gwS κ st l b0 nq xs pg ch ty cf At mo g ρ lv ov CN NR pp V lo g0 nm tN φ Us i tl Ψ Ls σ ln ct cs s) (hE : gwE st l b0 nq xs Ψ σ CN (dnO g0 φ tl) nm tN lo Ls env sc Sc os Es s.1) (hw : ∀ x, x ∈ List.range' w q → x ∈ tl ∧ x ∉ env ∧ uNm Γ (.inl x)) (hen : ∀ u, u ∈ env → u ∈ tl) (hU : ∀ u, u ∈ tl → u ∈ Us) (hm : lo ≤ m) (o2 : V.1 m = some (.inr (7, gv))) (g11 : gv[11]? = some (.ref pa)) (g12 : gv[12]? = some (.ref x)) (hc : cLs κ σ pa d cap q mc gl 6) (hg : ∀ j, j < q → gl j = some (φ (w + j))) (ew : eW Γ C Bd rt tN env sc s.1) (wF : wfT Γ C Bd rt (nmS sc) F) (ga : gHq T f pp ee tE tN Γ C Bd rt M CB NB a (env ++ List.range' w q) (scC sc)) (a2 : gOk f pp ee tE tN a (env ++ List.range' w q) r) (a4 : tSn kk a) (a5 : wTx T f pp ee a (env ++ List.range' w q)) (r5 : tRg a i j) (hj : j ≤ cnt) (h3 : lo ≤ lo1) (o4 : cTX κ T0 kk pp ee fc B D (fun m u => eXw σ g ρ tE m u) lo1 V nm a (env ++ List.range' w q) fk (fun _ => none) 0 x) (h4 : (∀ u, u ∈ wW a → u ∈ Us ∧ u ∉ tl) ∧ (wW a).Nodup) (h6 : ∀ k, 2 * i ≤ k → k < 2 * j → ¬ Ψ.2.2.2 k) (h9 : Sc.length + q + 63 * tH a ≤ 5000) (hl1 : ra.1.2.1.length ≤ 12000) (hl2 : ra.1.2.2.length ≤ 12000) (yd : yDp r ≤ 60) (yl : yLs r ≤ 60) (yw : yW r) (hN : 75 + 4 * tH a ≤ n + 3) : gSy p.2.1 = r ∧ (∀ u, u ∈ env → ra.1.1 u = s.1 u) ∧ ∃ σ' Ψ' Ls' ln' ct' cs', oF κ T (n + 4) 29 [va_rf (some ch), va_rf (some m), va_rf (some k), va_rf os] σ = some (none, σ') ∧ gwS κ st l b0 nq xs pg ch ty cf At mo g ρ lv ov CN NR pp V lo g0 nm tN φ Us j (tl ++ wW a) Ψ' Ls' σ' ln' ct' cs' (gFt (gFi r ra.2 p.2.1 p.1) ra.1) ∧ gwE st l b0 nq xs Ψ' σ' CN (dnO g0 φ (tl ++ wW a)) nm tN lo Ls' env sc Sc os Es ra.1.1 ∧ kRl st l b0 nq xs Ψ' σ' (fun y b => (y, b) ∈ Es) k F ∧ (gAg σ Ψ Ψ' ∧ ∀ k, Ψ'.2.2.2 k → Ψ.2.2.2 k ∨ (2 * i ≤ k ∧ k < 2 * j)) ∧ (gKp st l b0 (fun x => ∃ u, u ∈ tl ++ wW a ∧ u ∉ tl ∧ x = φ u) σ σ' ∧ wK7 pp i j σ σ') ∧ (∀ z, z ∈ Ls → z ∈ Ls') ∧ gwC xs.length Ls Ls' cs cs' σ σ' (4 * q + ((wCo T f pp ee tE tN xs a (env ++ List.range' w q) p.1 A p.2.2).1 + (wFt r ra.2 p.2.1).1)) (19 * q + ((wCo T f pp ee tE tN xs a (env ++ List.range' w q) p.1 A p.2.2).2 + (wFt r ra.2 p.2.1).2)) := by
  have hij := tRg.le a i j r5
  have hfr := h.2.1.1.1
  have eU : ∀ u, u ∈ env → u ∈ Us := fun u hu => hU u (hen u hu)
  obtain ⟨gs, g1, -, g3⟩ := h.2.2.1.1.nd hm o2
  obtain ⟨σ1, k1, Sc1, os1, Es1, b1, b2, b3, b4, ⟨b5, b6⟩, ⟨b7, b7'⟩, b8⟩ := c_fbL (n := n) (cnt := cnt) (e := m) hT hpp (by omega) hU q 0 w T F mm k env sc Sc os Es s σ gs hF1 hF2 hns hy hSs kF hK h hE (fun x hx => ⟨(hw x hx).1, (hw x hx).2.1⟩) eU g1 ((g3 11 (by decide) (by decide)).trans g11) (by rw [Nat.zero_add]; exact hc) (by omega) (by omega) (fun j hj => by rw [Nat.zero_add]; exact hg j hj) (by omega)
  rw [← hp] at b2 b3 b4
  have P := gPa_w hQ (r := r) q w F sc s env (by unfold gSy; rw [hF1]; exact hy) ew wF (fun m' e => by
    rw [hF1] at e
    injection e with e
    rw [← e]; exact hns) (fun _ => ⟨mm, hF1⟩) (fun x hx => (hw x hx).2)
  have pi := gPa_inr q w F sc s ⟨mm, hF1⟩
  rw [← hp] at P pi
  obtain ⟨p1, p2, p3, p4, p5, p6, p7⟩ := P
  obtain ⟨m', hm'⟩ := pi
  have ga' : gHq T f pp ee tE tN Γ C Bd rt M CB NB a (env ++ List.range' w q) (scC p.1) := by rw [p5]; exact ga
  have O1 := gWk_w (T := T) (f := f) (pp := pp) (ee := ee) (tE := tE) (tN := tN) (CB := CB) (NB := NB) (M := M) hQ hC hB a (env ++ List.range' w q) p.1 A p.2.2 r ga' a2 p1 (aH_e ea)
  rw [yOu_e ea, ← hra] at O1
  have W1 := iha (env ++ List.range' w q) p.1 Sc1 os1 Es1 A p.2.2 Ψ Ls σ1 ln ct cs i j x fk tl r (n + 3) ea ⟨⟨ga', a2, p1, a4, a5⟩, ⟨r5, hj⟩, ⟨lo1, h3, cTX.kp b5 o4⟩, h4, ⟨fun u hu => (List.mem_append.mp hu).elim (hen u) (fun z => (hw u z).1), hU⟩, h6, b3, b4, by omega, by rw [← hra]; exact hl1, by rw [← hra]; exact hl2⟩ hN
  rw [← hra] at W1
  have U1 : ∀ u, u ∈ tl ++ wW a → u ∈ Us := fun u hu => (List.mem_append.mp hu).elim (hU u) (fun z => (h4.1 u z).1)
  obtain ⟨k3, σ3, σ4, Ψ4, Ls4, ln4, ct4, cs4, F1, ⟨v3, F1'⟩, F2, F3, -, -, ⟨F6, F6'⟩, ⟨F7, F8⟩, F9, F10⟩ := wk_fit (T := T) (n := n + 2) (by omega) hQ hC b3 W1 b4 b2 hU U1 (fun u hu => List.mem_append_left _ hu) O1.2.1 O1.1.1 p3 yw O1.1.2 p2 ⟨m', hm', p4 m' hm'⟩ p1.2.1 yd (by omega) (by omega) hpp hj
  have same : ∀ u, u ∈ env → ra.1.1 u = s.1 u := fun u hu => (O1.2.1 u (List.mem_append_left _ hu)).trans (p6 u (fun z => (hw u z).2.1 hu))
  have kp : gKp st l b0 (fun x => ∃ u, u ∈ tl ++ wW a ∧ u ∉ tl ∧ x = φ u) σ σ4 := (b5.mo (fun _ z => z.elim)).tr F7
  have ag : gAg σ Ψ Ψ4 := (gAg.rf σ Ψ).tr F6 b5.2.2.2
  refine ⟨p3, same, σ4, Ψ4, Ls4, ln4, ct4, cs4, ?_, F3, hE.sp (Dn' := dnO g0 φ (tl ++ wW a)) (Ls' := Ls4) (q' := ra.1.1) kp ag hfr (h.dj hU U1) (fun _ z => dnO.up (fun u hu => List.mem_append_left _ hu) z) F9 same, kF.sp kp ag hfr, ⟨ag, F6'⟩, ⟨kp, b6.w7.tr F8⟩, F9, ?_⟩
  · obtain ⟨gs1, g11', -, g13⟩ := b3.2.2.1.1.nd hm o2
    obtain ⟨v1, hv1⟩ := b3.2.1.2.2.2.1
    obtain ⟨t, ht⟩ : ∃ t, T - q = t + 1 := ⟨T - q - 1, by omega⟩
    have f11 : ofd σ1 (some m) 7 11 = some (.ref pa) := (ofd_at g11').trans ((g13 11 (by decide) (by decide)).trans g11)
    have f12 : ofd σ1 (some m) 7 12 = some (.ref x) := (ofd_at g11').trans ((g13 12 (by decide) (by decide)).trans g12)
    rw [oE_X0_fitBody]
    unfold ob_X0_fitBody
    rw [show (0 : Int32) = nI 0 from rfl, b1, ht, ol_X0_fitBody_9, f11, ovr_rf, obn_at, oob_at b7'.1, obn_at, l_sz b7', oin_at, if_pos (Int32.le_refl _), f12, ovr_rf, obn_at, oob_at hv1, obn_at, F1, orn_at, oob_at F1', obn_at, F2, ocv_at]
  · obtain ⟨q1, q2, q3⟩ := b8.tr F10
    exact ⟨q1, q2, q3⟩
end GTB
