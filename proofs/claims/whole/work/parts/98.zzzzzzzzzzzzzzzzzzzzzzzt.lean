/-! the class's gather(): walk() of let -/
section CW1
variable {κ : oKv} {T T0 : Nat} {st : Nat} {l : Nat → Nat} {b0 : Nat} {nq : tQ → Int} {xs : List tQ} {pg ch ty : Nat} {cf : List Value} {At : Nat → Nat} {mo : Nat} {g : gG} {ρ : Nat → tY} {lv ov : Int32} {CN : Nat → gCd → Prop} {NR : Nat → (Nat × Nat × tT × List tP × List Nat × Nat) → Prop} {V : oSt} {lo g0 : Nat} {nm : Nat → Option Nat} {tE tN : Nat → tY} {φ : Nat → Nat} {Us : List Nat} {kk pp ee f fc : Nat → Int32} {B : Nat → Nat} {D : cDt} {Γ : uGm} {C Bd : Int} {rt : Nat → gTm} {M : Nat} {CB : List Nat → List (gCd × Bool) → Prop} {NB : List Nat → List (gCd × Bool) → (Nat × Nat × tT × List tP × List Nat × Nat) → Prop} {cnt : Nat}
theorem es_sub {w b : Nat} {y : tY} {Es : List (gN × Nat)} : ∀ (x : gN) (c : Nat), (x, c) ∈ Es → (x, c) ∈ (if gMs y = true then (.inl w, b) :: Es else Es) := fun x c z => by
  split
  · exact List.mem_cons_of_mem _ z
  · exact z
set_option maxHeartbeats 2000000 in
/-- **let** -/
theorem cw_1 {d z} {a b : tT} (hT : 9010 ≤ T) (hnq : ∀ x, x ∈ xs → -1125899906842624 ≤ nq x ∧ nq x ≤ 1125899906842624) (hcf : cfO pg ty st cf) (hpp : ∀ u v, u < v → v < cnt → pp u < pp v) (hQ : rtQ Γ rt) (hC : 0 ≤ C) (hB : 4 ≤ Bd) (hyd : ∀ key y ns env, rtC rt tN M key y ns env → yDp y ≤ 60 ∧ yLs y ≤ 60) (iha : cWk κ T T0 st l b0 nq xs pg ch ty cf At mo g ρ lv ov CN NR V lo g0 nm tE tN φ Us kk pp ee f fc B D Γ C Bd rt M CB NB cnt a) (ihb : cWk κ T T0 st l b0 nq xs pg ch ty cf At mo g ρ lv ov CN NR V lo g0 nm tE tN φ Us kk pp ee f fc B D Γ C Bd rt M CB NB cnt b) : cWk κ T T0 st l b0 nq xs pg ch ty cf At mo g ρ lv ov CN NR V lo g0 nm tE tN φ Us kk pp ee f fc B D Γ C Bd rt M CB NB cnt (.inner 1 d z a b) := by
  intro env sc Sc os Es A s Ψ Ls σ ln ct cs i j m fk tl y N hE hI hN
  obtain ⟨⟨a1, a2, a3, a4, a5⟩, ⟨h2, h2'⟩, ⟨lo1, h3, h3'⟩, ⟨h4, h4'⟩, h5, h6, h7, h8, h9, h10, h11⟩ := hI
  have a1 : CB env (scC sc) ∧ (rtC rt tN M (2 * d.1) (tE d.1) [] env ∧ (d.1 + 1 ∉ env ∧ uNm Γ (.inl (d.1 + 1))) ∧ (gSv tN (env ++ [d.1 + 1])).length + ySx (tE d.1) ≤ M ∧ CB (env ++ [d.1 + 1]) (scC sc)) ∧ (eT a ∧ eT b) ∧ gHq T f pp ee tE tN Γ C Bd rt M CB NB a env (scC sc) ∧ gHq T f pp ee tE tN Γ C Bd rt M CB NB b (env ++ [d.1 + 1]) (scC sc) := a1
  obtain ⟨-, ⟨rc, ⟨ue, un⟩, -, -⟩, ⟨ea, eb⟩, ga, gb⟩ := a1
  have a2 : tE d.1 = y ∧ gOk f pp ee tE tN a env (tN (d.1 + 1)) ∧ gOk f pp ee tE tN b (env ++ [d.1 + 1]) y := a2
  obtain ⟨rfl, a2a, a2b⟩ := a2
  obtain ⟨⟨r1, r2, -⟩, k, ⟨r3, -⟩, r5, r6⟩ : (i ≤ d.1 ∧ d.1 < j ∧ (1 = 10 → d.2.2.2.1.1 = d.1) ∧ (1 = 33 → d.1 ≤ d.2.2.2.1.1 ∧ d.2.2.2.1.1 ≤ d.1 + 1)) ∧ ∃ k, (d.1 + 1 ≤ k ∧ (1 = 33 → d.2.2.2.1.1 < k)) ∧ tRg a (d.1 + 1) k ∧ tRg b k j := h2
  have kk1 := tRg.le a _ k r5
  have kk2 := tRg.le b k j r6
  obtain ⟨X8, o1, x, y', w, o2, o3, o4, o5⟩ := h3'
  have hm : lo ≤ m := by have := o1.1; omega
  obtain ⟨yd, yl⟩ := hyd _ _ _ _ rc
  have hH : tH (.inner 1 d z a b) = max (tH a) (tH b) + 1 := rfl
  obtain ⟨n, rfl⟩ : ∃ n, N = n + 4 := ⟨N - 4, by omega⟩
  have hfr := h7.2.1.1.1
  have hU : ∀ u, u ∈ tl → u ∈ Us := h5.2
  have eU : ∀ u, u ∈ env → u ∈ Us := fun u hu => hU u (h5.1 u hu)
  have h4 : ∀ u, u ∈ wW a ++ ([d.1 + 1] ++ wW b) → u ∈ Us ∧ u ∉ tl := h4
  have h4' : (wW a ++ ([d.1 + 1] ++ wW b)).Nodup := h4'
  obtain ⟨nd1, nd2, nd3⟩ := List.nodup_append.mp h4'
  obtain ⟨-, nd4, nd5⟩ := List.nodup_append.mp nd2
  have um : d.1 + 1 ∈ wW a ++ ([d.1 + 1] ++ wW b) := List.mem_append_right _ (List.mem_append_left _ (List.mem_singleton.mpr rfl))
  have uU := (h4 _ um).1
  have hw : w = φ (d.1 + 1) := Option.some.inj (o3.1.symm.trans (h7.2.2.2.2.2.1.1 _ uU).1)
  subst hw
  -- what it is
  obtain ⟨ra, hra⟩ : ∃ r, r = gWk T f pp ee tE tN a env sc A s := ⟨_, rfl⟩
  obtain ⟨rb, hrb⟩ : ∃ r, r = gWk T f pp ee tE tN b (env ++ [d.1 + 1]) (gNm (.inl (d.1 + 1)) ra.2 sc) A (gTn (d.1 + 1) ra.2 ra.1) := ⟨_, rfl⟩
  have eG : gWk T f pp ee tE tN (.inner 1 d z a b) env sc A s = (gFt (gFi (tE d.1) rb.2 (gTp (2 * d.1) (tE d.1) [] sc) (gNm (.inl (d.1 + 1)) ra.2 sc)) rb.1, gTp (2 * d.1) (tE d.1) [] sc) := by rw [hrb, hra]; rfl
  have eC : wCo T f pp ee tE tN xs (.inner 1 d z a b) env sc A s = wS [wCo T f pp ee tE tN xs a env sc A s, (1, 4), wT xs (tE d.1) sc, wCo T f pp ee tE tN xs b (env ++ [d.1 + 1]) (gNm (.inl (d.1 + 1)) ra.2 sc) A (gTn (d.1 + 1) ra.2 ra.1), wFt (tE d.1) rb.2 (gTp (2 * d.1) (tE d.1) [] sc)] := by rw [hrb, hra]; rfl
  rw [eG] at h10 h11
  rw [eG, eC]
  have gb1 : sGr (gTn (d.1 + 1) ra.2 ra.1) rb.1 := by rw [hrb]; exact gWk_gr b _ _ _ _
  have gb2 : sGr rb.1 (gFt (gFi (tE d.1) rb.2 (gTp (2 * d.1) (tE d.1) [] sc) (gNm (.inl (d.1 + 1)) ra.2 sc)) rb.1) := sGr.rf.ft
  have gb3 : sGr ra.1 rb.1 := gb1
  have lb1 := gb2.1; have lb2 := gb2.2; have la1 := gb3.1; have la2 := gb3.2
  have h10 : (gFt (gFi (tE d.1) rb.2 (gTp (2 * d.1) (tE d.1) [] sc) (gNm (.inl (d.1 + 1)) ra.2 sc)) rb.1).2.1.length ≤ 12000 := h10
  have h11 : (gFt (gFi (tE d.1) rb.2 (gTp (2 * d.1) (tE d.1) [] sc) (gNm (.inl (d.1 + 1)) ra.2 sc)) rb.1).2.2.length ≤ 12000 := h11
  -- what is said of it
  have O1 := gWk_w (T := T) (f := f) (pp := pp) (ee := ee) (tE := tE) (tN := tN) (CB := CB) (NB := NB) (M := M) hQ hC hB a env sc A s (tN (d.1 + 1)) ga a2a a3 (aH_e ea)
  rw [yOu_e ea, ← hra] at O1
  have W1 := iha env sc Sc os Es A s Ψ Ls σ ln ct cs (d.1 + 1) k x fk tl (tN (d.1 + 1)) (n + 2) ea ⟨⟨ga, a2a, a3, a4.2.1, a5.2.1⟩, ⟨r5, by omega⟩, ⟨lo1, h3, o4⟩, ⟨fun u hu => h4 u (List.mem_append_left _ hu), nd1⟩, h5, fun q q1 q2 => h6 q (by omega) (by omega), h7.ix (by omega), h8, by omega, by rw [← hra]; omega, by rw [← hra]; omega⟩ (by omega)
  rw [← hra] at W1
  obtain ⟨σ1, k1, Ψ1, Ls1, ln1, ct1, cs1, w1, w2, w3, ⟨w4, w4'⟩, ⟨w5, w6⟩, w7, w8⟩ := W1
  have U1 : ∀ u, u ∈ tl ++ wW a → u ∈ Us := fun u hu => (List.mem_append.mp hu).elim (hU u) (fun z => (h4 u (List.mem_append_left _ z)).1)
  have E1 := h8.sp (Dn' := dnO g0 φ (tl ++ wW a)) (Ls' := Ls1) (q' := ra.1.1) w5 w4 hfr (h7.dj hU U1) (fun _ z => dnO.up (fun u hu => List.mem_append_left _ hu) z) w7 O1.2.1
  -- the NAME
  have unt : d.1 + 1 ∉ tl ++ wW a := fun z => (List.mem_append.mp z).elim (h4 _ um).2 (fun z => nd3 _ z _ (List.mem_append_left _ (List.mem_singleton.mpr rfl)) rfl)
  obtain ⟨fs, σ2, f0, f8, hS2, G2, E2, K2, ⟨k2, s2⟩, c2⟩ := w3.kw (u := d.1 + 1) (k := k1) (A := ra.2) E1 w2 uU unt U1 ue hpp (by omega)
  have U2 : ∀ u, u ∈ tl ++ wW a ++ [d.1 + 1] → u ∈ Us := fun u hu => (List.mem_append.mp hu).elim (U1 u) (fun z => by rw [List.mem_singleton.mp z]; exact uU)
  have ut2 : d.1 + 1 ∈ tl ++ wW a ++ [d.1 + 1] := List.mem_append_right _ (List.mem_singleton.mpr rfl)
  obtain ⟨σ3, hS3, G3, E3, E3', K3, ⟨k3, s3⟩, c3⟩ := G2.sc2 (u := d.1 + 1) (k := k1) (A := ra.2) E2 K2 ut2 U2 ue eU O1.1.1 ⟨fs.set 4 (.ref k1), by rw [hS2, oput_eq], by rw [List.getElem?_set_self (by omega)]⟩ (if_pos rfl) hpp (by omega)
  have hfr3 := G3.2.1.1.1
  have tlt : ∀ u, u ∈ tl → u ∈ tl ++ wW a ++ [d.1 + 1] := fun u hu => List.mem_append_left _ (List.mem_append_left _ hu)
  have P1 : ∀ x, (∃ u, u ∈ tl ++ wW a ∧ u ∉ tl ∧ x = φ u) → ∃ u, u ∈ tl ++ wW (.inner 1 d z a b) ∧ u ∉ tl ∧ x = φ u := fun x ⟨u, u1, u2, u3⟩ => ⟨u, (List.mem_append.mp u1).elim (fun w => List.mem_append_left _ w) (fun w => List.mem_append_right _ (List.mem_append_left _ w)), u2, u3⟩
  have kp3 : gKp st l b0 (fun x => ∃ u, u ∈ tl ++ wW (.inner 1 d z a b) ∧ u ∉ tl ∧ x = φ u) σ σ3 := ((w5.mo P1).tr (k2.mo (fun x hx => ⟨d.1 + 1, List.mem_append_right _ um, (h4 _ um).2, hx⟩))).tr (k3.mo (fun _ z => z.elim))
  obtain ⟨c0, x8, c0n, c0ρ⟩ := eXw.kp kp3 X8
  -- the TEMPLATE
  obtain ⟨σ4, kW, Ψ4, Ls4, T1, T2, T3, ⟨T4, T4'⟩, ⟨T5, T6⟩, T7, T8, -⟩ := G3.tm (n := n) (key := 2 * d.1) (c := c0) (y := tE d.1) (ns := []) (nl := none) hT hnq hcf E3 (fun q => (w4' _ q).elim (h6 (2 * d.1) (by omega) (by omega)) (fun q => by omega)) c0ρ c0n (Or.inl ⟨rfl, rfl⟩) (fun j w z => by cases z) ⟨List.nodup_nil, fun w hw => by cases hw⟩ eU U2 (by have := rc.2.2.1; rw [a3.ss]; omega) yd (by omega) (by omega) hpp (by omega)
  have T5 : gKp st l b0 (fun _ => False) σ3 σ4 := T5.mo (fun x ⟨w, hw, _⟩ => by cases hw)
  have hfr4 := T3.2.1.1.1
  have E4 := E3'.sp (Dn' := dnO g0 φ (tl ++ wW a ++ [d.1 + 1])) (Ls' := Ls4) (q' := (gTn (d.1 + 1) ra.2 ra.1).1) T5 T4 hfr3 (fun _ _ z => z) (fun _ z => z) T7 (fun _ _ => rfl)
  have kp4 := kp3.tr (T5.mo (fun _ z => z.elim))
  have e4 : eW Γ C Bd rt tN (env ++ [d.1 + 1]) (gNm (.inl (d.1 + 1)) ra.2 sc) (gTn (d.1 + 1) ra.2 ra.1).1 := (a3.cg O1.2.1).tel ue un O1.1.2 O1.1.1
  have gb' : gHq T f pp ee tE tN Γ C Bd rt M CB NB b (env ++ [d.1 + 1]) (scC (gNm (.inl (d.1 + 1)) ra.2 sc)) := by rw [scC_nm]; exact gb
  have O2 := gWk_w (T := T) (f := f) (pp := pp) (ee := ee) (tE := tE) (tN := tN) (CB := CB) (NB := NB) (M := M) hQ hC hB b (env ++ [d.1 + 1]) (gNm (.inl (d.1 + 1)) ra.2 sc) A (gTn (d.1 + 1) ra.2 ra.1) (tE d.1) gb' a2b e4 (aH_e eb)
  rw [yOu_e eb, ← hrb] at O2
  have W2 := ihb (env ++ [d.1 + 1]) (gNm (.inl (d.1 + 1)) ra.2 sc) (.inl (φ (d.1 + 1)) :: Sc) (some σ2.2.1) (if gMs (tN (d.1 + 1)) = true then (.inl (d.1 + 1), φ (d.1 + 1)) :: Es else Es) A (gTn (d.1 + 1) ra.2 ra.1) Ψ4 Ls4 σ4 ln1 ct1 cs1 k j y' (fk + nF a) (tl ++ wW a ++ [d.1 + 1]) (tE d.1) (n + 2) eb ⟨⟨gb', a2b, e4, a4.2.2, a5.2.2⟩, ⟨r6, h2'⟩, ⟨lo1, h3, cTX.kp kp4 o5⟩, ⟨fun u hu => ⟨(h4 u (List.mem_append_right _ (List.mem_append_right _ hu))).1, fun w => (List.mem_append.mp w).elim (fun w => (List.mem_append.mp w).elim (h4 u (List.mem_append_right _ (List.mem_append_right _ hu))).2 (fun w => nd3 u w u (List.mem_append_right _ hu) rfl)) (fun w => nd5 u w u hu rfl)⟩, nd4⟩, ⟨fun u hu => (List.mem_append.mp hu).elim (fun w => tlt u (h5.1 u w)) (fun w => List.mem_append_right _ w), U2⟩, fun q q1 q2 w => (T4' q w).elim (fun w => (w4' q w).elim (h6 q (by omega) (by omega)) (fun w => by omega)) (fun w => by omega), T3, E4, by show Sc.length + 1 + _ ≤ _; omega, by rw [← hrb]; omega, by rw [← hrb]; omega⟩ (by omega)
  rw [← hrb] at W2
  have yw : yW (tE d.1) := by
    have := T3.2.1.2.2.2.2.2.2.w _ c0 (Nat.le_refl _) c0n
    rw [c0ρ] at this
    exact this
  have U4 : ∀ u, u ∈ (tl ++ wW a ++ [d.1 + 1]) ++ wW b → u ∈ Us := fun u hu => (List.mem_append.mp hu).elim (U2 u) (fun w => (h4 u (List.mem_append_right _ (List.mem_append_right _ w))).1)
  have hl2 : rb.1.2.1.length + yLs (tE d.1) + 1 ≤ 12100 := by omega
  obtain ⟨k6, σ6, σ7, Ψ7, Ls7, ln7, ct7, cs7, F1, ⟨v3, F1'⟩, F2, F3, -, -, ⟨F6, F6'⟩, ⟨F7, F8⟩, F9, F10⟩ := wk_fit (T := T) (n := n + 1) (by omega) hQ hC T3 W2 E4 (T2.mo es_sub) U2 U4 (fun u hu => List.mem_append_left _ hu) O2.2.1 O2.1.1 rfl yw O2.1.2 ((a3.tp rc).mo (nm_sub _ _ _)) ⟨_, rfl, rfl⟩ e4.2.1 yd (by omega) hl2 hpp h2'
  have KW := T2.sp F7 F6 hfr4
  -- the program
  obtain ⟨gs, g1, -, g3⟩ := h7.2.2.1.1.nd hm o2
  obtain ⟨v, hv⟩ := h7.2.1.2.2.2.1
  obtain ⟨v3', hv3⟩ := G3.2.1.2.2.2.1
  obtain ⟨v4', hv4⟩ := T3.2.1.2.2.2.1
  obtain ⟨gs2, g21, -, g23⟩ := G2.2.2.1.1.nd hm o2
  obtain ⟨gs4, g41, -, g43⟩ := T3.2.2.1.1.nd hm o2
  have hfr2 := G2.2.1.1.1
  have ne2 : ∀ {y cc}, σ2.1 y = some cc → y ≠ σ2.2.1 := fun e z => by rw [z, hfr2 _ (Nat.le_refl _)] at e; cases e
  have f10 : ofd σ (some m) 7 10 = some (.ref (φ (d.1 + 1))) := (ofd_at g1).trans ((g3 10 (by decide) (by decide)).trans rfl)
  have f12 : ofd σ (some m) 7 12 = some (.ref x) := (ofd_at g1).trans ((g3 12 (by decide) (by decide)).trans rfl)
  have f10' : ofd (onew σ2 (.inr (10, odef 10)) (oq 10).2.2) (some m) 7 10 = some (.ref (φ (d.1 + 1))) := (ofd_at ((onew_ne (ne2 g21)).trans g21)).trans ((g23 10 (by decide) (by decide)).trans rfl)
  have f13 : ofd σ4 (some m) 7 13 = some (.ref y') := (ofd_at g41).trans ((g43 13 (by decide) (by decide)).trans rfl)
  have R2 : oF κ T (n + 2) 2 [va_rf (some σ2.2.1), va_rf (some (φ (d.1 + 1))), va_rf os] (onew σ2 (.inr (10, odef 10)) (oq 10).2.2) = some (none, σ3) := by rw [hS3]; exact c_sc2 (κ := κ) (T := T) (n := n + 1)
  have P2 : opf σ1 (some (φ (d.1 + 1))) 6 4 (va_rf (some k1)) = some σ2 := by rw [hS2]; exact opf_at f0 (by omega)
  rw [c_wk0 g1 ((g3 17 (by decide) (by decide)).trans rfl)]
  unfold oj_X0_walk_21
  rw [c_pl0 g1 ((g3 0 (by decide) (by decide)).trans rfl), ovi_i, obn_at, if_neg (by decide), if_neg (by decide), if_neg (by decide), if_neg (by decide), if_pos rfl, oob_at hv, obn_at, show n + 3 = (n + 2) + 1 from rfl, oE_X0_walkLet]
  unfold ob_X0_walkLet
  rw [f10, ovr_rf, obn_at, f12, ovr_rf, obn_at, oob_at hv, obn_at, w1, orn_at, P2, obn_at, olet_at, f10', ovr_rf, obn_at, obn_at, R2, ocv_at, x8, ovi_i, obn_at, oob_at hv3, obn_at, T1, orn_at, f13, ovr_rf, obn_at, oob_at hv4, obn_at, F1, orn_at, oob_at F1', obn_at, F2, ocv_at, orn_at]
  have le3 : σ.2.1 ≤ σ3.2.1 := kp3.2.2.2
  have T4s : gAg σ3 Ψ1 Ψ4 := T4
  refine ⟨σ7, kW, Ψ7, Ls7, ln7, ct7, cs7, rfl, KW, F3.dn (fun u hu => ?_), ⟨(w4.tr T4s le3).tr F6 kp4.2.2.2, fun q hq => ?_⟩, ⟨?_, ?_⟩, fun w hw => F9 w (T7 w (w7 w hw)), ?_⟩
  · rw [List.append_assoc, List.append_assoc] at hu
    exact hu
  · rcases F6' q hq with w | w
    · rcases T4' q w with w | w
      · exact (w4' q w).imp id (fun w => by omega)
      · exact Or.inr (by omega)
    · exact Or.inr (by omega)
  · refine kp4.tr (F7.mo (fun x ⟨u, u1, u2, u3⟩ => ⟨u, ?_, fun w => u2 (tlt u w), u3⟩))
    rw [List.append_assoc, List.append_assoc] at u1
    exact u1
  · exact ((w6.mo (by omega) (by omega)).tr (s2.w7.tr s3.w7)).tr (T6.w7.tr (F8.mo (by omega) (Nat.le_refl _)))
  · obtain ⟨q1, q2, q3⟩ := (w8.tr (c2.tr c3)).tr (T8.tr F10)
    refine ⟨q1, Nat.le_trans q2 (Nat.le_of_eq ?_), Nat.le_trans q3 (Nat.le_of_eq ?_)⟩
    · simp only [wS, wT, wFt]; omega
    · simp only [wS, wT, wFt]; omega
end CW1
