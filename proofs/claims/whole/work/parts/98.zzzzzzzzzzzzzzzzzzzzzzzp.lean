section CW4
variable {κ : oKv} {T T0 : Nat} {st : Nat} {l : Nat → Nat} {b0 : Nat} {nq : tQ → Int} {xs : List tQ} {pg ch ty : Nat} {cf : List Value} {At : Nat → Nat} {mo : Nat} {g : gG} {ρ : Nat → tY} {lv ov : Int32} {NR : Nat → (Nat × Nat × tT × List tP × List Nat × Nat) → Prop} {V : oSt} {lo g0 : Nat} {nm : Nat → Option Nat} {tE tN : Nat → tY} {φ : Nat → Nat} {Us : List Nat} {kk pp ee f fc : Nat → Int32} {B : Nat → Nat} {D : cDt} {Γ : uGm} {C Bd : Int} {rt : Nat → gTm} {M : Nat} {CB : List Nat → List (gCd × Bool) → Prop} {NB : List Nat → List (gCd × Bool) → (Nat × Nat × tT × List tP × List Nat × Nat) → Prop} {cnt : Nat}
theorem aH_e {env : List Nat} {sc : List gEn} {A : gTy} {y : tY} : ∀ {t : tT}, eT t → aH tN Γ C Bd rt M env sc A y t
  | .leaf, h => h.elim
  | .inner _ _ _ _ _, h => ⟨fun z => absurd z h.1, fun z => by
    rcases z with z | z | z
    · exact absurd z h.2.1
    · exact absurd z h.2.2.1
    · exact absurd z h.2.2.2⟩
set_option maxHeartbeats 2000000 in

theorem cw_4 {d z} {a b : tT} (hT : 9010 ≤ T) (hnq : ∀ x, x ∈ xs → -1125899906842624 ≤ nq x ∧ nq x ≤ 1125899906842624) (hcf : cfO pg ty st cf) (hpp : ∀ u v, u < v → v < cnt → pp u < pp v) (hQ : rtQ Γ rt) (hC : 0 ≤ C) (hB : 4 ≤ Bd) (hyd : ∀ key y ns env, rtC rt tN M key y ns env → yDp y ≤ 60 ∧ yLs y ≤ 60) (ih : ∀ d' z' a' b', b = .inner 31 d' z' a' b' → cWk κ T T0 st l b0 nq xs pg ch ty cf At mo g ρ lv ov (nCl κ T T0 kk pp ee f fc B D V nm lo) NR V lo g0 nm tE tN φ Us kk pp ee f fc B D Γ C Bd rt M CB NB cnt a' ∧ cWk κ T T0 st l b0 nq xs pg ch ty cf At mo g ρ lv ov (nCl κ T T0 kk pp ee f fc B D V nm lo) NR V lo g0 nm tE tN φ Us kk pp ee f fc B D Γ C Bd rt M CB NB cnt b') : cWk κ T T0 st l b0 nq xs pg ch ty cf At mo g ρ lv ov (nCl κ T T0 kk pp ee f fc B D V nm lo) NR V lo g0 nm tE tN φ Us kk pp ee f fc B D Γ C Bd rt M CB NB cnt (.inner 4 d z a b) := by
  intro env sc Sc os Es A s Ψ Ls σ ln ct cs i j m fk tl y N hE hI hN
  obtain ⟨⟨a1, a2, a3, a4, a5⟩, ⟨h2, h2'⟩, ⟨lo1, h3, h3'⟩, ⟨h4, h4'⟩, h5, h6, h7, h8, h9, h10, h11⟩ := hI
  have a1 : CB env (scC sc) ∧ (rtC rt tN M (2 * d.1) (tE d.1) [] env ∧ (gSv tN env).length + ySx (tE d.1) ≤ M) ∧ (∃ d' z a' b', b = .inner 31 d' z a' b') ∧ gHq T f pp ee tE tN Γ C Bd rt M CB NB b env ((.inl (a, env), true) :: scC sc) := a1
  obtain ⟨-, ⟨rc, -⟩, ⟨d', z', a', b', rfl⟩, gb⟩ := a1
  obtain ⟨iha, ihb⟩ := ih d' z' a' b' rfl
  have gb : CB env ((.inl (a, env), true) :: scC sc) ∧ CB env (cFl ((.inl (a, env), true) :: scC sc)) ∧ (eT a' ∧ eT b') ∧ gHq T f pp ee tE tN Γ C Bd rt M CB NB a' env ((.inl (a, env), true) :: scC sc) ∧ gHq T f pp ee tE tN Γ C Bd rt M CB NB b' env (cFl ((.inl (a, env), true) :: scC sc)) := gb
  obtain ⟨-, -, ⟨ea, eb⟩, ga, gb'⟩ := gb
  have a2 : tE d.1 = y ∧ gCk f pp ee tN env a ∧ gOk f pp ee tE tN a' env y ∧ gOk f pp ee tE tN b' env y := a2
  obtain ⟨rfl, -, a2a, a2b⟩ := a2
  obtain ⟨⟨r1, r2, -⟩, k, ⟨r3, -⟩, -, k', r5, r6⟩ : (i ≤ d.1 ∧ d.1 < j ∧ (4 = 10 → d.2.2.2.1.1 = d.1) ∧ (4 = 33 → d.1 ≤ d.2.2.2.1.1 ∧ d.2.2.2.1.1 ≤ d.1 + 1)) ∧ ∃ k, (d.1 + 1 ≤ k ∧ (4 = 33 → d.2.2.2.1.1 < k)) ∧ True ∧ ∃ k', tRg a' k k' ∧ tRg b' k' j := h2
  have kk1 := tRg.le a' k k' r5
  have kk2 := tRg.le b' k' j r6
  obtain ⟨⟨c0, x8, c0n, c0ρ⟩, o1, c, x, y', o2, o3, x', ox, o4, o5⟩ := h3'
  have ox : x = x' := Option.some.inj ox
  subst ox
  have hm : lo ≤ m := by have := o1.1; omega
  obtain ⟨yd, yl⟩ := hyd _ _ _ _ rc
  have hH : tH (.inner 4 d z a (.inner 31 d' z' a' b')) = max (tH a') (tH b') + 1 := rfl
  obtain ⟨n, rfl⟩ : ∃ n, N = n + 4 := ⟨N - 4, by omega⟩
  have hfr := h7.2.1.1.1
  have hU : ∀ u, u ∈ tl → u ∈ Us := h5.2
  have h4 : ∀ u, u ∈ wW a' ++ wW b' → u ∈ Us ∧ u ∉ tl := h4
  have h4' : (wW a' ++ wW b').Nodup := h4'
  obtain ⟨nd1, nd2, nd3⟩ := List.nodup_append.mp h4'

  obtain ⟨σ1, kW, Ψ1, Ls1, T1, T2, T3, ⟨T4, T4'⟩, ⟨T5, T6⟩, T7, T8, -⟩ := h7.tm (n := n) (key := 2 * d.1) (c := c0) (y := tE d.1) (ns := []) (nl := none) hT hnq hcf h8 (h6 (2 * d.1) (by omega) (by omega)) c0ρ c0n (Or.inl ⟨rfl, rfl⟩) (fun j w z => by cases z) ⟨List.nodup_nil, fun w hw => by cases hw⟩ (fun u hu => hU u (h5.1 u hu)) hU (by have := rc.2.2.1; rw [a3.ss]; omega) yd (by omega) (by omega) hpp (by omega)
  have T5 : gKp st l b0 (fun _ => False) σ σ1 := T5.mo (fun x ⟨w, hw, _⟩ => by cases hw)
  have hfr1 := T3.2.1.1.1
  have E1 := h8.sp (Dn' := dnO g0 φ tl) (Ls' := Ls1) (q' := s.1) T5 T4 hfr (fun _ _ z => z) (fun _ z => z) T7 (fun _ _ => rfl)
  obtain ⟨gs1, g11, -, g13⟩ := T3.2.2.1.1.nd hm o2
  have ne1 : ∀ {y cc}, σ1.1 y = some cc → y ≠ σ1.2.1 := fun e z => by rw [z, hfr1 _ (Nat.le_refl _)] at e; cases e

  have on1 : oNl σ1 (onew σ1 (.inr (10, [va_rf none, .ref c, .int (b01 true), va_rf os])) 4) 1 4 := oNl.new hfr1
  obtain ⟨G2, ⟨k2, s2⟩, c2⟩ := T3.nw on1 (o10_n6 hfr1) hpp (by omega)
  have E2 := E1.cd (m := c) (c := .inl (a, env)) (hh := true) T3.2.1.1 ⟨a5.2.1, lo1, h3, o3⟩
  have kW2 := T2.sp k2 (gAg.rf σ1 Ψ1) hfr1
  have f14 : ofd (onew σ1 (.inr (10, odef 10)) (oq 10).2.2) (some m) 7 14 = some (.ref c) := (ofd_at ((onew_ne (ne1 g11)).trans g11)).trans ((g13 14 (by decide) (by decide)).trans rfl)
  have R13 : oF κ T (n + 2) 13 [va_rf (some σ1.2.1), va_rf (some c), .int 1, va_rf os] (onew σ1 (.inr (10, odef 10)) (oq 10).2.2) = some (none, onew σ1 (.inr (10, [va_rf none, .ref c, .int (b01 true), va_rf os])) 4) := c_sc13 (κ := κ) (T := T) (n := n + 1) (σ := σ1) (m := c) (hh := true) (ou := os)
  generalize onew σ1 (.inr (10, [va_rf none, .ref c, .int (b01 true), va_rf os])) 4 = σ2 at on1 G2 k2 s2 c2 E2 kW2 R13
  have O1 := gWk_w (T := T) (f := f) (pp := pp) (ee := ee) (tE := tE) (tN := tN) (CB := CB) (NB := NB) (M := M) hQ hC hB a' env (.inr (.inl (a, env), true) :: sc) (gTp (2 * d.1) (tE d.1) [] sc) s (tE d.1) ga a2a a3.ic (aH_e ea)
  have sg1 : sGr (gWk T f pp ee tE tN a' env (.inr (.inl (a, env), true) :: sc) (gTp (2 * d.1) (tE d.1) [] sc) s).1 (gWk T f pp ee tE tN (.inner 4 d z a (.inner 31 d' z' a' b')) env sc A s).1 := ((sGr.rf.ft).tr (gWk_gr b' _ _ _ _)).ft
  have W1 := iha env (.inr (.inl (a, env), true) :: sc) (.inr (c, true) :: Sc) (some σ1.2.1) Es (gTp (2 * d.1) (tE d.1) [] sc) s Ψ1 Ls1 σ2 ln ct cs k k' x fk tl (tE d.1) (n + 2) ea ⟨⟨ga, a2a, a3.ic, a4.2.2.2.1, a5.2.2.2.1⟩, ⟨r5, by omega⟩, ⟨lo1, h3, cTX.kp (T5.tr k2) o4⟩, ⟨fun u hu => h4 u (List.mem_append_left _ hu), nd1⟩, h5, fun q q1 q2 z => (T4' q z).elim (h6 q (by omega) (by omega)) (fun w => by omega), G2.ix (by omega), E2, by show Sc.length + 1 + _ ≤ _; omega, by have := sg1.1; omega, by have := sg1.2; omega⟩ (by omega)
  have yw : yW (tE d.1) := by
    have := h7.2.1.2.2.2.2.2.2.w _ c0 (Nat.le_refl _) c0n
    rw [c0ρ] at this
    exact this
  have len1 : (gWk T f pp ee tE tN a' env (.inr (.inl (a, env), true) :: sc) (gTp (2 * d.1) (tE d.1) [] sc) s).1.2.1.length ≤ 12000 := by have := sg1.1; omega
  have U1 : ∀ u, u ∈ tl ++ wW a' → u ∈ Us := fun u hu => (List.mem_append.mp hu).elim (hU u) (fun z => (h4 u (List.mem_append_left _ z)).1)
  obtain ⟨k3, σ3, σ4, Ψ4, Ls4, ln4, ct4, cs4, F1, ⟨v3, F1'⟩, F2, F3, F4, F5, ⟨F6, F6'⟩, ⟨F7, F8⟩, F9, F10⟩ := wk_fit (T := T) (n := n + 1) (by omega) hQ hC (G2.ix (by omega)) W1 E2 kW2 hU U1 (fun u hu => List.mem_append_left _ hu) O1.2.1 (O1.1.1.trans (yOu_e ea)) rfl yw O1.1.2 (a3.tp rc) ⟨_, rfl, rfl⟩ a3.2.1 yd (by omega) (by omega) hpp (by omega)

  have kpA : gKp st l b0 (fun x => ∃ u, u ∈ tl ++ wW a' ∧ u ∉ tl ∧ x = φ u) σ1 σ4 := (k2.mo (fun _ z => z.elim)).tr F7
  have agA : gAg σ1 Ψ1 Ψ4 := (gAg.rf σ1 Ψ1).tr F6 k2.2.2.2
  have E4 := E1.sp (Dn' := dnO g0 φ (tl ++ wW a')) (Ls' := Ls4) (q' := (gWk T f pp ee tE tN a' env (.inr (.inl (a, env), true) :: sc) (gTp (2 * d.1) (tE d.1) [] sc) s).1.1) kpA agA hfr1 (T3.dj hU U1) (fun _ z => dnO.up (fun u hu => List.mem_append_left _ hu) z) F9 O1.2.1
  have hfr4 := F3.2.1.1.1
  obtain ⟨gs4, g41, -, g43⟩ := F3.2.2.1.1.nd hm o2
  have ne4 : ∀ {y cc}, σ4.1 y = some cc → y ≠ σ4.2.1 := fun e z => by rw [z, hfr4 _ (Nat.le_refl _)] at e; cases e
  have on4 : oNl σ4 (onew σ4 (.inr (10, [va_rf none, .ref c, .int (b01 false), va_rf os])) 4) 1 4 := oNl.new hfr4
  obtain ⟨G5, ⟨k5, s5⟩, c5⟩ := F3.nw on4 (o10_n6 hfr4) hpp (by omega)
  have E5 := E4.cd (m := c) (c := .inl (a, env)) (hh := false) F3.2.1.1 ⟨a5.2.1, lo1, h3, o3⟩
  have kW5 := F5.sp k5 (gAg.rf σ4 Ψ4) hfr4
  have f14' : ofd (onew σ4 (.inr (10, odef 10)) (oq 10).2.2) (some m) 7 14 = some (.ref c) := (ofd_at ((onew_ne (ne4 g41)).trans g41)).trans ((g43 14 (by decide) (by decide)).trans rfl)
  have R13' : oF κ T (n + 2) 13 [va_rf (some σ4.2.1), va_rf (some c), .int 0, va_rf os] (onew σ4 (.inr (10, odef 10)) (oq 10).2.2) = some (none, onew σ4 (.inr (10, [va_rf none, .ref c, .int (b01 false), va_rf os])) 4) := c_sc13 (κ := κ) (T := T) (n := n + 1) (σ := σ4) (m := c) (hh := false) (ou := os)
  generalize onew σ4 (.inr (10, [va_rf none, .ref c, .int (b01 false), va_rf os])) 4 = σ5 at on4 G5 k5 s5 c5 E5 kW5 R13'
  have e4 : eW Γ C Bd rt tN env (.inr (.inl (a, env), false) :: sc) (gWk T f pp ee tE tN a' env (.inr (.inl (a, env), true) :: sc) (gTp (2 * d.1) (tE d.1) [] sc) s).1.1 := (a3.cg O1.2.1).ic
  have O2 := gWk_w (T := T) (f := f) (pp := pp) (ee := ee) (tE := tE) (tN := tN) (CB := CB) (NB := NB) (M := M) hQ hC hB b' env (.inr (.inl (a, env), false) :: sc) (gTp (2 * d.1) (tE d.1) [] sc) (gFt (gFi (tE d.1) (gWk T f pp ee tE tN a' env (.inr (.inl (a, env), true) :: sc) (gTp (2 * d.1) (tE d.1) [] sc) s).2 (gTp (2 * d.1) (tE d.1) [] sc) (.inr (.inl (a, env), true) :: sc)) (gWk T f pp ee tE tN a' env (.inr (.inl (a, env), true) :: sc) (gTp (2 * d.1) (tE d.1) [] sc) s).1) (tE d.1) gb' a2b e4 (aH_e eb)
  have sg2 : sGr (gWk T f pp ee tE tN b' env (.inr (.inl (a, env), false) :: sc) (gTp (2 * d.1) (tE d.1) [] sc) (gFt (gFi (tE d.1) (gWk T f pp ee tE tN a' env (.inr (.inl (a, env), true) :: sc) (gTp (2 * d.1) (tE d.1) [] sc) s).2 (gTp (2 * d.1) (tE d.1) [] sc) (.inr (.inl (a, env), true) :: sc)) (gWk T f pp ee tE tN a' env (.inr (.inl (a, env), true) :: sc) (gTp (2 * d.1) (tE d.1) [] sc) s).1)).1 (gWk T f pp ee tE tN (.inner 4 d z a (.inner 31 d' z' a' b')) env sc A s).1 := sGr.rf.ft
  have W2 := ihb env (.inr (.inl (a, env), false) :: sc) (.inr (c, false) :: Sc) (some σ4.2.1) Es (gTp (2 * d.1) (tE d.1) [] sc) (gFt (gFi (tE d.1) (gWk T f pp ee tE tN a' env (.inr (.inl (a, env), true) :: sc) (gTp (2 * d.1) (tE d.1) [] sc) s).2 (gTp (2 * d.1) (tE d.1) [] sc) (.inr (.inl (a, env), true) :: sc)) (gWk T f pp ee tE tN a' env (.inr (.inl (a, env), true) :: sc) (gTp (2 * d.1) (tE d.1) [] sc) s).1) Ψ4 Ls4 σ5 ln4 ct4 cs4 k' j y' (fk + nF a') (tl ++ wW a') (tE d.1) (n + 2) eb ⟨⟨gb', a2b, e4, a4.2.2.2.2, a5.2.2.2.2⟩, ⟨r6, h2'⟩, ⟨lo1, h3, cTX.kp ((T5.mo (fun _ z => z.elim)).tr (kpA.tr (k5.mo (fun _ z => z.elim)))) o5⟩, ⟨fun u hu => ⟨(h4 u (List.mem_append_right _ hu)).1, fun w => (List.mem_append.mp w).elim (h4 u (List.mem_append_right _ hu)).2 (fun w => nd3 u w u hu rfl)⟩, nd2⟩, ⟨fun u hu => List.mem_append_left _ (h5.1 u hu), U1⟩, fun q q1 q2 w => (F6' q w).elim (fun w => (T4' q w).elim (h6 q (by omega) (by omega)) (fun w => by omega)) (fun w => by omega), G5, E5, by show Sc.length + 1 + _ ≤ _; omega, by have := sg2.1; omega, by have := sg2.2; omega⟩ (by omega)
  have len2 := sg2.1
  have U2 : ∀ u, u ∈ (tl ++ wW a') ++ wW b' → u ∈ Us := fun u hu => (List.mem_append.mp hu).elim (U1 u) (fun w => (h4 u (List.mem_append_right _ w)).1)
  obtain ⟨k6, σ6, σ7, Ψ7, Ls7, ln7, ct7, cs7, H1, ⟨v6, H1'⟩, H2, H3, -, H5, ⟨H6, H6'⟩, ⟨H7, H8⟩, H9, H10⟩ := wk_fit (T := T) (n := n + 1) (by omega) hQ hC G5 W2 E5 kW5 U1 U2 (fun u hu => List.mem_append_left _ hu) O2.2.1 (O2.1.1.trans (yOu_e eb)) rfl yw O2.1.2 (a3.tp rc) ⟨_, rfl, rfl⟩ a3.2.1 yd (by omega) (by omega) hpp h2'
  obtain ⟨gs, g1, -, g3⟩ := h7.2.2.1.1.nd hm o2
  obtain ⟨v, hv⟩ := h7.2.1.2.2.2.1
  obtain ⟨v2, hv2⟩ := G2.2.1.2.2.2.1
  obtain ⟨v5, hv5⟩ := G5.2.1.2.2.2.1
  obtain ⟨gs2, g21, -, g23⟩ := G2.2.2.1.1.nd hm o2
  obtain ⟨gs5, g51, -, g53⟩ := G5.2.2.1.1.nd hm o2
  have f12 : ofd σ2 (some m) 7 12 = some (.ref x) := (ofd_at g21).trans ((g23 12 (by decide) (by decide)).trans rfl)
  have f13 : ofd σ5 (some m) 7 13 = some (.ref y') := (ofd_at g51).trans ((g53 13 (by decide) (by decide)).trans rfl)
  rw [c_wk0 g1 ((g3 17 (by decide) (by decide)).trans rfl)]
  unfold oj_X0_walk_21
  rw [c_pl0 g1 ((g3 0 (by decide) (by decide)).trans rfl), ovi_i, obn_at, if_neg (by decide), if_neg (by decide), if_neg (by decide), if_pos rfl, oob_at hv, obn_at, show n + 3 = (n + 2) + 1 from rfl, oE_X0_walkIf]
  unfold ob_X0_walkIf
  rw [x8, ovi_i, obn_at, oob_at hv, obn_at, T1, orn_at, olet_at, f14, ovr_rf, obn_at, obn_at, R13, ocv_at, f12, ovr_rf, obn_at, oob_at hv2, obn_at, F1, orn_at, oob_at F1', obn_at, F2, ocv_at, olet_at, f14', ovr_rf, obn_at, obn_at, R13', ocv_at, f13, ovr_rf, obn_at, oob_at hv5, obn_at, H1, orn_at, oob_at H1', obn_at, H2, ocv_at, orn_at]
  refine ⟨σ7, kW, Ψ7, Ls7, ln7, ct7, cs7, rfl, H5, H3.dn (fun u hu => by
    rw [List.append_assoc] at hu
    exact hu), ⟨(T4.tr agA T5.2.2.2).tr ((gAg.rf σ4 Ψ4).tr H6 k5.2.2.2) (Nat.le_trans T5.2.2.2 kpA.2.2.2), fun q hq => ?_⟩, ⟨?_, ?_⟩, fun w hw => H9 w (F9 w (T7 w hw)), ?_⟩
  · rcases H6' q hq with w | w
    · rcases F6' q w with w | w
      · exact (T4' q w).imp id (fun w => by omega)
      · exact Or.inr (by omega)
    · exact Or.inr (by omega)
  · have hA : ∀ x, (∃ u, u ∈ tl ++ wW a' ∧ u ∉ tl ∧ x = φ u) → ∃ u, u ∈ tl ++ wW (.inner 4 d z a (.inner 31 d' z' a' b')) ∧ u ∉ tl ∧ x = φ u := fun x ⟨u, u1, u2, u3⟩ => ⟨u, (List.mem_append.mp u1).elim (fun w => List.mem_append_left _ w) (fun w => List.mem_append_right _ (List.mem_append_left _ w)), u2, u3⟩
    refine ((T5.mo (fun _ w => w.elim)).tr (kpA.mo hA)).tr ((k5.mo (fun _ w => w.elim)).tr (H7.mo (fun x ⟨u, u1, u2, u3⟩ => ⟨u, ?_, fun w => u2 (List.mem_append_left _ w), u3⟩)))
    rw [List.append_assoc] at u1
    exact u1
  · exact ((T6.w7.tr s2.w7).tr (F8.mo (by omega) (by omega))).tr (s5.w7.tr (H8.mo (by omega) (Nat.le_refl _)))
  · obtain ⟨q1, q2, q3⟩ := (T8.tr c2).tr ((F10.tr c5).tr H10)
    refine ⟨q1, Nat.le_trans q2 (Nat.le_of_eq ?_), Nat.le_trans q3 (Nat.le_of_eq ?_)⟩
    · show _ = _ + 10 * (tCn xs (tE d.1) + (2 + (((wCo T f pp ee tE tN xs a' env (.inr (.inl (a, env), true) :: sc) (gTp (2 * d.1) (tE d.1) [] sc) s).1 + ((wFt (tE d.1) (gWk T f pp ee tE tN a' env (.inr (.inl (a, env), true) :: sc) (gTp (2 * d.1) (tE d.1) [] sc) s).2 (gTp (2 * d.1) (tE d.1) [] sc)).1 + ((wCo T f pp ee tE tN xs b' env (.inr (.inl (a, env), false) :: sc) (gTp (2 * d.1) (tE d.1) [] sc) (gFt (gFi (tE d.1) (gWk T f pp ee tE tN a' env (.inr (.inl (a, env), true) :: sc) (gTp (2 * d.1) (tE d.1) [] sc) s).2 (gTp (2 * d.1) (tE d.1) [] sc) (.inr (.inl (a, env), true) :: sc)) (gWk T f pp ee tE tN a' env (.inr (.inl (a, env), true) :: sc) (gTp (2 * d.1) (tE d.1) [] sc) s).1)).1 + ((wFt (tE d.1) (gWk T f pp ee tE tN b' env (.inr (.inl (a, env), false) :: sc) (gTp (2 * d.1) (tE d.1) [] sc) (gFt (gFi (tE d.1) (gWk T f pp ee tE tN a' env (.inr (.inl (a, env), true) :: sc) (gTp (2 * d.1) (tE d.1) [] sc) s).2 (gTp (2 * d.1) (tE d.1) [] sc) (.inr (.inl (a, env), true) :: sc)) (gWk T f pp ee tE tN a' env (.inr (.inl (a, env), true) :: sc) (gTp (2 * d.1) (tE d.1) [] sc) s).1)).2 (gTp (2 * d.1) (tE d.1) [] sc)).1 + 0)))) + 0)))
      omega
    · show _ = _ + (tCs xs (tE d.1) (gSs sc).length + (8 + (((wCo T f pp ee tE tN xs a' env (.inr (.inl (a, env), true) :: sc) (gTp (2 * d.1) (tE d.1) [] sc) s).2 + ((wFt (tE d.1) (gWk T f pp ee tE tN a' env (.inr (.inl (a, env), true) :: sc) (gTp (2 * d.1) (tE d.1) [] sc) s).2 (gTp (2 * d.1) (tE d.1) [] sc)).2 + ((wCo T f pp ee tE tN xs b' env (.inr (.inl (a, env), false) :: sc) (gTp (2 * d.1) (tE d.1) [] sc) (gFt (gFi (tE d.1) (gWk T f pp ee tE tN a' env (.inr (.inl (a, env), true) :: sc) (gTp (2 * d.1) (tE d.1) [] sc) s).2 (gTp (2 * d.1) (tE d.1) [] sc) (.inr (.inl (a, env), true) :: sc)) (gWk T f pp ee tE tN a' env (.inr (.inl (a, env), true) :: sc) (gTp (2 * d.1) (tE d.1) [] sc) s).1)).2 + ((wFt (tE d.1) (gWk T f pp ee tE tN b' env (.inr (.inl (a, env), false) :: sc) (gTp (2 * d.1) (tE d.1) [] sc) (gFt (gFi (tE d.1) (gWk T f pp ee tE tN a' env (.inr (.inl (a, env), true) :: sc) (gTp (2 * d.1) (tE d.1) [] sc) s).2 (gTp (2 * d.1) (tE d.1) [] sc) (.inr (.inl (a, env), true) :: sc)) (gWk T f pp ee tE tN a' env (.inr (.inl (a, env), true) :: sc) (gTp (2 * d.1) (tE d.1) [] sc) s).1)).2 (gTp (2 * d.1) (tE d.1) [] sc)).2 + 0)))) + 0)))
      omega
end CW4
