/-! the class's gather(): walk() of let rec -/
section CW2
variable {κ : oKv} {T T0 : Nat} {st : Nat} {l : Nat → Nat} {b0 : Nat} {nq : tQ → Int} {xs : List tQ} {pg ch ty : Nat} {cf : List Value} {At : Nat → Nat} {mo : Nat} {g : gG} {ρ : Nat → tY} {lv ov : Int32} {CN : Nat → gCd → Prop} {NR : Nat → (Nat × Nat × tT × List tP × List Nat × Nat) → Prop} {V : oSt} {lo g0 : Nat} {nm : Nat → Option Nat} {tE tN : Nat → tY} {φ : Nat → Nat} {Us : List Nat} {kk pp ee f fc : Nat → Int32} {B : Nat → Nat} {D : cDt} {Γ : uGm} {C Bd : Int} {rt : Nat → gTm} {M : Nat} {CB : List Nat → List (gCd × Bool) → Prop} {NB : List Nat → List (gCd × Bool) → (Nat × Nat × tT × List tP × List Nat × Nat) → Prop} {cnt : Nat}
theorem gFn_dp {r : tY} : ∀ (q w : Nat), q ≤ yDp (gFn tN q w r)
  | 0, _ => Nat.zero_le _
  | q + 1, w => by
    have := gFn_dp (r := r) q (w + 1)
    show _ ≤ max (yDp (tN w)) (yDp (gFn tN q (w + 1) r)) + 1
    omega
set_option maxHeartbeats 4000000 in
/-- **let rec** -/
theorem cw_2 {d z} {a b : tT} (hT : 9010 ≤ T) (hnq : ∀ x, x ∈ xs → -1125899906842624 ≤ nq x ∧ nq x ≤ 1125899906842624) (hcf : cfO pg ty st cf) (hpp : ∀ u v, u < v → v < cnt → pp u < pp v) (hQ : rtQ Γ rt) (hC : 0 ≤ C) (hB : 4 ≤ Bd) (hyd : ∀ key y ns env, rtC rt tN M key y ns env → yDp y ≤ 60 ∧ yLs y ≤ 60) (iha : cWk κ T T0 st l b0 nq xs pg ch ty cf At mo g ρ lv ov CN NR V lo g0 nm tE tN φ Us kk pp ee f fc B D Γ C Bd rt M CB NB cnt a) (ihb : cWk κ T T0 st l b0 nq xs pg ch ty cf At mo g ρ lv ov CN NR V lo g0 nm tE tN φ Us kk pp ee f fc B D Γ C Bd rt M CB NB cnt b) : cWk κ T T0 st l b0 nq xs pg ch ty cf At mo g ρ lv ov CN NR V lo g0 nm tE tN φ Us kk pp ee f fc B D Γ C Bd rt M CB NB cnt (.inner 2 d z a b) := by
  intro env sc Sc os Es A s Ψ Ls σ ln ct cs i j m fk tl y N hE hI hN
  obtain ⟨⟨a1, a2, a3, a4, a5⟩, ⟨h2, h2'⟩, ⟨lo1, h3, h3'⟩, ⟨h4, h4'⟩, h5, h6, h7, h8, h9, h10, h11⟩ := hI
  have a1 : CB env (scC sc) ∧ (rtC rt tN M (2 * d.1) (tE d.1) [] env ∧ rtC rt tN M (2 * d.1 + 1) (tN (d.1 + 2)) (List.range' (d.1 + 3) d.2.1) env ∧ (d.1 + 2 ∉ env ∧ uNm Γ (.inl (d.1 + 2))) ∧ (∀ x, x ∈ List.range' (d.1 + 3) d.2.1 → x ∉ env ++ [d.1 + 2] ∧ uNm Γ (.inl x)) ∧ 1 ≤ d.2.1 ∧ (gSv tN env).length + ySx (tE d.1) ≤ M ∧ CB (env ++ ([d.1 + 2] ++ List.range' (d.1 + 3) d.2.1)) (scC sc) ∧ ∀ r, tN (d.1 + 2) = gFn tN d.2.1 (d.1 + 3) r → (gSv tN (env ++ ([d.1 + 2] ++ List.range' (d.1 + 3) d.2.1))).length + ySx r ≤ M) ∧ (eT a ∧ eT b) ∧ gHq T f pp ee tE tN Γ C Bd rt M CB NB a (env ++ ([d.1 + 2] ++ List.range' (d.1 + 3) d.2.1)) (scC sc) ∧ gHq T f pp ee tE tN Γ C Bd rt M CB NB b (env ++ [d.1 + 2]) (scC sc) := a1
  obtain ⟨-, ⟨rc, rc', ⟨ue, un⟩, pn, q1, -, -, -⟩, ⟨ea, eb⟩, ga, gb⟩ := a1
  have a2 : tE d.1 = y ∧ (∃ r, tN (d.1 + 2) = gFn tN d.2.1 (d.1 + 3) r ∧ gOk f pp ee tE tN a (env ++ ([d.1 + 2] ++ List.range' (d.1 + 3) d.2.1)) r) ∧ gOk f pp ee tE tN b (env ++ [d.1 + 2]) y := a2
  obtain ⟨rfl, ⟨r, hy, a2a⟩, a2b⟩ := a2
  obtain ⟨⟨r1, r2, -⟩, k, ⟨r3, -⟩, r5, r6⟩ : (i ≤ d.1 ∧ d.1 < j ∧ (2 = 10 → d.2.2.2.1.1 = d.1) ∧ (2 = 33 → d.1 ≤ d.2.2.2.1.1 ∧ d.2.2.2.1.1 ≤ d.1 + 1)) ∧ ∃ k, (d.1 + 1 ≤ k ∧ (2 = 33 → d.2.2.2.1.1 < k)) ∧ tRg a (d.1 + 1) k ∧ tRg b k j := h2
  have kk1 := tRg.le a _ k r5
  have kk2 := tRg.le b k j r6
  have a5 : wTx T f pp ee a (env ++ ([d.1 + 2] ++ List.range' (d.1 + 3) d.2.1)) ∧ wTx T f pp ee b (env ++ [d.1 + 2]) := a5.2
  obtain ⟨X8, o1, x, y', w, pa, o2, -, o3, o3', o4, o5⟩ := h3'
  rw [← List.append_assoc] at ga a2a o4 a5
  have hm : lo ≤ m := by have := o1.1; omega
  obtain ⟨yd, yl⟩ := hyd _ _ _ _ rc
  obtain ⟨yd', yl'⟩ := hyd _ _ _ _ rc'
  have hH : tH (.inner 2 d z a b) = max (tH a) (tH b) + 1 := rfl
  obtain ⟨n, rfl⟩ : ∃ n, N = n + 6 := ⟨N - 6, by omega⟩
  have hfr := h7.2.1.1.1
  have hU : ∀ u, u ∈ tl → u ∈ Us := h5.2
  have eU : ∀ u, u ∈ env → u ∈ Us := fun u hu => hU u (h5.1 u hu)
  have h4 : ∀ u, u ∈ [d.1 + 2] ++ (List.range' (d.1 + 3) d.2.1 ++ (wW a ++ wW b)) → u ∈ Us ∧ u ∉ tl := h4
  have h4' : ([d.1 + 2] ++ (List.range' (d.1 + 3) d.2.1 ++ (wW a ++ wW b))).Nodup := h4'
  obtain ⟨-, nd2, nd3⟩ := List.nodup_append.mp h4'
  obtain ⟨-, nd4, nd5⟩ := List.nodup_append.mp nd2
  obtain ⟨nd6, nd7, nd8⟩ := List.nodup_append.mp nd4
  have um : d.1 + 2 ∈ [d.1 + 2] ++ (List.range' (d.1 + 3) d.2.1 ++ (wW a ++ wW b)) := List.mem_append_left _ (List.mem_singleton.mpr rfl)
  have nm' : ∀ u, u ∈ List.range' (d.1 + 3) d.2.1 → u ∈ [d.1 + 2] ++ (List.range' (d.1 + 3) d.2.1 ++ (wW a ++ wW b)) := fun u hu => List.mem_append_right _ (List.mem_append_left _ hu)
  have am : ∀ u, u ∈ wW a → u ∈ [d.1 + 2] ++ (List.range' (d.1 + 3) d.2.1 ++ (wW a ++ wW b)) := fun u hu => List.mem_append_right _ (List.mem_append_right _ (List.mem_append_left _ hu))
  have bm : ∀ u, u ∈ wW b → u ∈ [d.1 + 2] ++ (List.range' (d.1 + 3) d.2.1 ++ (wW a ++ wW b)) := fun u hu => List.mem_append_right _ (List.mem_append_right _ (List.mem_append_right _ hu))
  have uU := (h4 _ um).1
  have uT := (h4 _ um).2
  have uR : d.1 + 2 ∉ List.range' (d.1 + 3) d.2.1 := fun w => by have := (List.mem_range'_1.mp w).1; omega
  have hw : w = φ (d.1 + 2) := Option.some.inj (o3.1.symm.trans (h7.2.2.2.2.2.1.1 _ uU).1)
  subst hw
  have q60 := gFn_dp (tN := tN) (r := r) d.2.1 (d.1 + 3)
  rw [← hy] at q60
  -- what it is
  obtain ⟨F, hF⟩ : ∃ F, F = gTp (2 * d.1 + 1) (tN (d.1 + 2)) (List.range' (d.1 + 3) d.2.1) sc := ⟨_, rfl⟩
  obtain ⟨p, hp⟩ : ∃ p, p = gPa d.2.1 (d.1 + 3) F sc (gTn (d.1 + 2) F s) := ⟨_, rfl⟩
  obtain ⟨ra, hra⟩ : ∃ q, q = gWk T f pp ee tE tN a ((env ++ [d.1 + 2]) ++ List.range' (d.1 + 3) d.2.1) p.1 A p.2.2 := ⟨_, rfl⟩
  obtain ⟨rb, hrb⟩ : ∃ q, q = gWk T f pp ee tE tN b (env ++ [d.1 + 2]) sc A (gFt (gFi (gSy p.2.1) ra.2 p.2.1 p.1) ra.1) := ⟨_, rfl⟩
  have eG : gWk T f pp ee tE tN (.inner 2 d z a b) env sc A s = (gFt (gFi (tE d.1) rb.2 (gTp (2 * d.1) (tE d.1) [] sc) sc) rb.1, gTp (2 * d.1) (tE d.1) [] sc) := by rw [hrb, hra, hp, hF, List.append_assoc]; rfl
  have eC : wCo T f pp ee tE tN xs (.inner 2 d z a b) env sc A s = wS [wT xs (tN (d.1 + 2)) sc, (1, 4), (4 * d.2.1, 19 * d.2.1), wCo T f pp ee tE tN xs a ((env ++ [d.1 + 2]) ++ List.range' (d.1 + 3) d.2.1) p.1 A p.2.2, wFt (gSy p.2.1) ra.2 p.2.1, wT xs (tE d.1) sc, wCo T f pp ee tE tN xs b (env ++ [d.1 + 2]) sc A (gFt (gFi (gSy p.2.1) ra.2 p.2.1 p.1) ra.1), wFt (tE d.1) rb.2 (gTp (2 * d.1) (tE d.1) [] sc)] := by rw [hrb, hra, hp, hF, List.append_assoc]; rfl
  rw [eG] at h10 h11
  rw [eG, eC]
  have gb1 : sGr (gFt (gFi (gSy p.2.1) ra.2 p.2.1 p.1) ra.1) rb.1 := by rw [hrb]; exact gWk_gr b _ _ _ _
  have gb2 : sGr rb.1 (gFt (gFi (tE d.1) rb.2 (gTp (2 * d.1) (tE d.1) [] sc) sc) rb.1) := sGr.rf.ft
  have gb3 : sGr ra.1 rb.1 := (sGr.rf.ft).tr gb1
  have lb1 := gb2.1; have lb2 := gb2.2; have la1 := gb3.1; have la2 := gb3.2
  have h10 : (gFt (gFi (tE d.1) rb.2 (gTp (2 * d.1) (tE d.1) [] sc) sc) rb.1).2.1.length ≤ 12000 := h10
  have h11 : (gFt (gFi (tE d.1) rb.2 (gTp (2 * d.1) (tE d.1) [] sc) sc) rb.1).2.2.length ≤ 12000 := h11
  -- the function's TEMPLATE
  obtain ⟨N1, N2⟩ := h7.2.2.2.2.2.1
  obtain ⟨-, -, -, fsu, cu, fu0, fu2, cun, ρcu, fu3⟩ := N1 _ uU
  have oU : ∀ x, x < d.2.1 → d.1 + 3 + x ∈ Us := fun x hx => (h4 _ (nm' _ (List.mem_range'_1.mpr ⟨by omega, by omega⟩))).1
  obtain ⟨dl, cap, mc, gl, L1, L2⟩ := h7.nl o3' h3 (by omega) oU
  obtain ⟨σ1, kF, Ψ1, Ls1, T1, T2, T3, ⟨T4, T4'⟩, ⟨T5, T6⟩, T7, T8, T9⟩ := h7.tm (n := n + 2) (key := 2 * d.1 + 1) (c := cu) (y := tN (d.1 + 2)) (ns := List.range' (d.1 + 3) d.2.1) (nl := some pa) hT hnq hcf h8 (h6 (2 * d.1 + 1) (by omega) (by omega)) ρcu cun (h7.tn L1 L2 (by omega) (by omega)) (h7.tb hy oU) ⟨rc'.2.2.2.1, fun w hw => ⟨(h4 w (nm' w hw)).1, rc'.2.2.2.2 w hw, (h4 w (nm' w hw)).2⟩⟩ eU hU (by have := rc'.2.2.1; rw [a3.ss]; omega) yd' (by omega) (by omega) hpp (by omega)
  rw [← hF] at T2
  have hs : ∃ f, σ.1 st = some (.inl (.object "LiquidTongue$Name", 73, f)) := ⟨_, h7.2.1.2.2.2.2.1.choose_spec⟩
  have L3 := toNx hs L1 T6 T5 (by omega)
  have U1 : ∀ u, u ∈ tl ++ List.range' (d.1 + 3) d.2.1 → u ∈ Us := fun u hu => (List.mem_append.mp hu).elim (hU u) (fun z => (h4 u (nm' u z)).1)
  have E1 := h8.sp (Dn' := dnO g0 φ (tl ++ List.range' (d.1 + 3) d.2.1)) (Ls' := Ls1) (q' := s.1) T5 T4 hfr (fun a ha ⟨w, hw, e⟩ => h7.nu (h4 w (nm' w hw)).1 (h4 w (nm' w hw)).2 hU a ha e) (fun _ z => dnO.up (fun u hu => List.mem_append_left _ hu) z) T7 (fun _ _ => rfl)
  have G1 := T3.dn (tl' := tl ++ List.range' (d.1 + 3) d.2.1) (fun u hu => List.mem_append_left _ hu)
  -- its NAME
  have unt : d.1 + 2 ∉ tl ++ List.range' (d.1 + 3) d.2.1 := fun z => (List.mem_append.mp z).elim uT uR
  obtain ⟨fs, σ2, f0, f8, hS2, G2, E2, K2, ⟨k2, s2⟩, c2⟩ := G1.kw (u := d.1 + 2) (k := kF) (A := F) E1 T2 uU unt U1 ue hpp (by omega)
  have hs1 : ∃ f, σ1.1 st = some (.inl (.object "LiquidTongue$Name", 73, f)) := ⟨_, T3.2.1.2.2.2.2.1.choose_spec⟩
  have hs2 : ∃ f, σ2.1 st = some (.inl (.object "LiquidTongue$Name", 73, f)) := ⟨_, G2.2.1.2.2.2.2.1.choose_spec⟩
  have U2 : ∀ u, u ∈ tl ++ List.range' (d.1 + 3) d.2.1 ++ [d.1 + 2] → u ∈ Us := fun u hu => (List.mem_append.mp hu).elim (U1 u) (fun z => by rw [List.mem_singleton.mp z]; exact uU)
  have ut2 : d.1 + 2 ∈ tl ++ List.range' (d.1 + 3) d.2.1 ++ [d.1 + 2] := List.mem_append_right _ (List.mem_singleton.mpr rfl)
  have gy : gSy F = tN (d.1 + 2) := by rw [hF]; rfl
  have gm : ¬ gMs (tN (d.1 + 2)) = true := fun w => gMs_1 w (by
    obtain ⟨k, hk⟩ : ∃ k, d.2.1 = k + 1 := ⟨d.2.1 - 1, by omega⟩
    rw [hy, hk]; rfl)
  have ng : gNm (.inl (d.1 + 2)) F sc = sc := if_neg (by rw [gy]; exact gm)
  obtain ⟨σ3, hS3, G3, E3, E3', K3, ⟨k3, s3⟩, c3⟩ := G2.sc2 (u := d.1 + 2) (k := kF) (A := F) E2 K2 ut2 U2 ue eU gy ⟨fs.set 4 (.ref kF), by rw [hS2, oput_eq], by rw [List.getElem?_set_self (by omega)]⟩ (if_pos rfl) hpp (by omega)
  rw [ng, if_neg gm] at E3'
  have hfr3 := G3.2.1.1.1
  have L4 := toNx hs2 (toNx hs1 L3 s2 k2 (by omega)) s3 k3 (by omega)
  have T9' : toK Ψ1 σ3 (tN (d.1 + 2)) (2 * d.1 + 1, [], tN (d.1 + 2), List.range' (d.1 + 3) d.2.1, gSs sc) := toK.sp k3 _ _ (fun _ _ z => z) (agB.rf Ψ1 _) (toK.sp k2 _ _ (fun w hw z => by
    rw [T3.2.2.2.2.2.2.1 w] at z
    have := N2 w (d.1 + 2) (h4 w (nm' w hw)).1 uU z
    subst this
    exact uR hw) (agB.rf Ψ1 _) T9)
  have tlt : ∀ u, u ∈ tl → u ∈ tl ++ List.range' (d.1 + 3) d.2.1 ++ [d.1 + 2] := fun u hu => List.mem_append_left _ (List.mem_append_left _ hu)
  have P1 : ∀ x, (∃ w, w ∈ List.range' (d.1 + 3) d.2.1 ∧ x = φ w) → ∃ u, u ∈ tl ++ wW (.inner 2 d z a b) ∧ u ∉ tl ∧ x = φ u := fun x ⟨w, hw, e⟩ => ⟨w, List.mem_append_right _ (nm' w hw), (h4 w (nm' w hw)).2, e⟩
  have kp3 : gKp st l b0 (fun x => ∃ u, u ∈ tl ++ wW (.inner 2 d z a b) ∧ u ∉ tl ∧ x = φ u) σ σ3 := ((T5.mo P1).tr (k2.mo (fun x hx => ⟨d.1 + 2, List.mem_append_right _ um, uT, hx⟩))).tr (k3.mo (fun _ z => z.elim))
  have HF : wfT Γ C Bd rt (nmS sc) F := by rw [hF]; exact a3.tp rc'
  have eF : eW Γ C Bd rt tN (env ++ [d.1 + 2]) sc (gTn (d.1 + 2) F s).1 := by
    have := a3.tel ue un HF gy
    rw [ng] at this
    exact this
  have yw' : yW (tN (d.1 + 2)) := h7.yw uU
  obtain ⟨s1', s2', s3'⟩ := gFn_sub (tN := tN) (r := r) d.2.1 (d.1 + 3)
  rw [← hy] at s1' s2' s3'
  have anot : ∀ u, u ∈ wW a → u ∉ tl ++ List.range' (d.1 + 3) d.2.1 ++ [d.1 + 2] := fun u hu w => (List.mem_append.mp w).elim (fun w => (List.mem_append.mp w).elim (h4 u (am u hu)).2 (fun w => nd5 u w u (List.mem_append_left _ hu) rfl)) (fun w => nd3 u w u (List.mem_append_right _ (List.mem_append_left _ hu)) rfl)
  have bnot : ∀ u, u ∈ wW b → u ∉ tl ++ List.range' (d.1 + 3) d.2.1 ++ [d.1 + 2] := fun u hu w => (List.mem_append.mp w).elim (fun w => (List.mem_append.mp w).elim (h4 u (bm u hu)).2 (fun w => nd5 u w u (List.mem_append_right _ hu) rfl)) (fun w => nd3 u w u (List.mem_append_right _ (List.mem_append_right _ hu)) rfl)
  have enT : ∀ u, u ∈ env ++ [d.1 + 2] → u ∈ tl ++ List.range' (d.1 + 3) d.2.1 ++ [d.1 + 2] := fun u hu => (List.mem_append.mp hu).elim (fun w => tlt u (h5.1 u w)) (fun w => List.mem_append_right _ w)
  -- its body
  obtain ⟨p3, same, σ4, Ψ4, Ls4, ln4, ct4, cs4, Q1, Q2, Q3, Q4, ⟨Q5, Q5'⟩, ⟨Q6, Q7⟩, Q8, Q9⟩ := wk_body (n := n) (mm := (2 * d.1 + 1, [], tN (d.1 + 2), List.range' (d.1 + 3) d.2.1, gSs sc)) hT hpp hQ hC hB iha ea hp hra (by rw [hF]; rfl) (by rw [hF]; rfl) rfl hy (by omega) (by omega) (fun x hx => E3.en (by
    have hx : x ∈ gSs sc := hx
    rw [gSs_mS, List.mem_reverse] at hx
    exact hx)) K3 T9' (G3.ix (j := d.1 + 1) (by omega)) E3' (fun x hx => ⟨List.mem_append_left _ (List.mem_append_right _ hx), pn x hx⟩) enT U2 hm o2 rfl rfl L4 L2 eF HF ga a2a a4.2.1 a5.1 r5 (by omega) h3 (cTX.kp kp3 o4) ⟨fun u hu => ⟨(h4 u (am u hu)).1, anot u hu⟩, nd6⟩ (fun q q1 q2 w => (T4' q w).elim (h6 q (by omega) (by omega)) (fun w => by omega)) (by show Sc.length + 1 + _ + _ ≤ _; omega) (by omega) (by omega) (by omega) (by omega) (s3' yw') (by omega)
  rw [p3] at hrb gb1 ⊢
  have hfr4 := Q2.2.1.1.1
  have U4 : ∀ u, u ∈ (tl ++ List.range' (d.1 + 3) d.2.1 ++ [d.1 + 2]) ++ wW a → u ∈ Us := fun u hu => (List.mem_append.mp hu).elim (U2 u) (fun z => (h4 u (am u z)).1)
  have E4 := E3.sp (Dn' := dnO g0 φ ((tl ++ List.range' (d.1 + 3) d.2.1 ++ [d.1 + 2]) ++ wW a)) (Ls' := Ls4) (q' := ra.1.1) Q6 Q5 hfr3 (G3.dj U2 U4) (fun _ z => dnO.up (fun u hu => List.mem_append_left _ hu) z) Q8 (fun u hu => same u (List.mem_append_left _ hu))
  have P2 : ∀ x, (∃ u, u ∈ (tl ++ List.range' (d.1 + 3) d.2.1 ++ [d.1 + 2]) ++ wW a ∧ u ∉ tl ++ List.range' (d.1 + 3) d.2.1 ++ [d.1 + 2] ∧ x = φ u) → ∃ u, u ∈ tl ++ wW (.inner 2 d z a b) ∧ u ∉ tl ∧ x = φ u := fun x ⟨u, u1, u2, u3⟩ => ⟨u, List.mem_append_right _ (am u ((List.mem_append.mp u1).elim (fun w => absurd w u2) id)), fun w => u2 (tlt u w), u3⟩
  have kp4 := kp3.tr (Q6.mo P2)
  obtain ⟨c0, x8, c0n, c0ρ⟩ := eXw.kp kp4 X8
  -- the TEMPLATE
  obtain ⟨σ5, kW, Ψ5, Ls5, R1, R2, R3, ⟨R4, R4'⟩, ⟨R5, R6⟩, R7, R8, -⟩ := Q2.tm (n := n + 2) (key := 2 * d.1) (c := c0) (y := tE d.1) (ns := []) (nl := none) hT hnq hcf E4 (fun q => (Q5' _ q).elim (fun q => (T4' _ q).elim (h6 (2 * d.1) (by omega) (by omega)) (fun q => by omega)) (fun q => by omega)) c0ρ c0n (Or.inl ⟨rfl, rfl⟩) (fun j w z => by cases z) ⟨List.nodup_nil, fun w hw => by cases hw⟩ eU U4 (by have := rc.2.2.1; rw [a3.ss]; omega) yd (by omega) (by omega) hpp (by omega)
  have R5 : gKp st l b0 (fun _ => False) σ4 σ5 := R5.mo (fun x ⟨w, hw, _⟩ => by cases hw)
  have hfr5 := R3.2.1.1.1
  have E5 := Q3.sp (Dn' := dnO g0 φ ((tl ++ List.range' (d.1 + 3) d.2.1 ++ [d.1 + 2]) ++ wW a)) (Ls' := Ls5) (q' := (gFt (gFi r ra.2 p.2.1 p.1) ra.1).1) R5 R4 hfr4 (fun _ _ z => z) (fun _ z => z) R7 (fun _ _ => rfl)
  have kp5 := kp4.tr (R5.mo (fun _ z => z.elim))
  have e5 : eW Γ C Bd rt tN (env ++ [d.1 + 2]) sc (gFt (gFi r ra.2 p.2.1 p.1) ra.1).1 := eF.cg same
  have O2 := gWk_w (T := T) (f := f) (pp := pp) (ee := ee) (tE := tE) (tN := tN) (CB := CB) (NB := NB) (M := M) hQ hC hB b (env ++ [d.1 + 2]) sc A (gFt (gFi r ra.2 p.2.1 p.1) ra.1) (tE d.1) gb a2b e5 (aH_e eb)
  rw [yOu_e eb, ← hrb] at O2
  have W2 := ihb (env ++ [d.1 + 2]) sc (.inl (φ (d.1 + 2)) :: Sc) (some σ2.2.1) Es A (gFt (gFi r ra.2 p.2.1 p.1) ra.1) Ψ5 Ls5 σ5 ln4 ct4 cs4 k j y' (fk + 1 + nF a) ((tl ++ List.range' (d.1 + 3) d.2.1 ++ [d.1 + 2]) ++ wW a) (tE d.1) (n + 4) eb ⟨⟨gb, a2b, e5, a4.2.2, a5.2⟩, ⟨r6, h2'⟩, ⟨lo1, h3, cTX.kp kp5 o5⟩, ⟨fun u hu => ⟨(h4 u (bm u hu)).1, fun w => (List.mem_append.mp w).elim (bnot u hu) (fun w => nd8 u w u hu rfl)⟩, nd7⟩, ⟨fun u hu => List.mem_append_left _ (enT u hu), U4⟩, fun q q1 q2 w => (R4' q w).elim (fun w => (Q5' q w).elim (fun w => (T4' q w).elim (h6 q (by omega) (by omega)) (fun w => by omega)) (fun w => by omega)) (fun w => by omega), R3, E5, by show Sc.length + 1 + _ ≤ _; omega, by rw [← hrb]; omega, by rw [← hrb]; omega⟩ (by omega)
  rw [← hrb] at W2
  have yw : yW (tE d.1) := by
    have := R3.2.1.2.2.2.2.2.2.w _ c0 (Nat.le_refl _) c0n
    rw [c0ρ] at this
    exact this
  have U5 : ∀ u, u ∈ ((tl ++ List.range' (d.1 + 3) d.2.1 ++ [d.1 + 2]) ++ wW a) ++ wW b → u ∈ Us := fun u hu => (List.mem_append.mp hu).elim (U4 u) (fun w => (h4 u (bm u w)).1)
  obtain ⟨k6, σ6, σ7, Ψ7, Ls7, ln7, ct7, cs7, F1, ⟨v3, F1'⟩, F2, F3, -, F5, ⟨F6, F6'⟩, ⟨F7, F8⟩, F9, F10⟩ := wk_fit (T := T) (n := n + 3) (by omega) hQ hC R3 W2 E5 R2 U4 U5 (fun u hu => List.mem_append_left _ hu) O2.2.1 O2.1.1 rfl yw O2.1.2 (a3.tp rc) ⟨_, rfl, rfl⟩ a3.2.1 yd (by omega) (by omega) hpp h2'
  -- the program
  obtain ⟨gs, g1, -, g3⟩ := h7.2.2.1.1.nd hm o2
  obtain ⟨v, hv⟩ := h7.2.1.2.2.2.1
  obtain ⟨v3', hv3⟩ := G3.2.1.2.2.2.1
  obtain ⟨v4', hv4⟩ := Q2.2.1.2.2.2.1
  obtain ⟨v5', hv5⟩ := R3.2.1.2.2.2.1
  obtain ⟨gs1, g11, -, g13⟩ := T3.2.2.1.1.nd hm o2
  obtain ⟨gs2, g21, -, g23⟩ := G2.2.2.1.1.nd hm o2
  obtain ⟨gs5, g51, -, g53⟩ := R3.2.2.1.1.nd hm o2
  have hfr2 := G2.2.1.1.1
  have ne2 : ∀ {y cc}, σ2.1 y = some cc → y ≠ σ2.2.1 := fun e z => by rw [z, hfr2 _ (Nat.le_refl _)] at e; cases e
  have f10 : ofd σ (some m) 7 10 = some (.ref (φ (d.1 + 2))) := (ofd_at g1).trans ((g3 10 (by decide) (by decide)).trans rfl)
  have f11 : ofd σ (some m) 7 11 = some (.ref pa) := (ofd_at g1).trans ((g3 11 (by decide) (by decide)).trans rfl)
  have fN2 : ofd σ (some (φ (d.1 + 2))) 6 2 = some (.int (nI cu)) := (ofd_at fu0).trans fu2
  have f10a : ofd σ1 (some m) 7 10 = some (.ref (φ (d.1 + 2))) := (ofd_at g11).trans ((g13 10 (by decide) (by decide)).trans rfl)
  have f10' : ofd (onew σ2 (.inr (10, odef 10)) (oq 10).2.2) (some m) 7 10 = some (.ref (φ (d.1 + 2))) := (ofd_at ((onew_ne (ne2 g21)).trans g21)).trans ((g23 10 (by decide) (by decide)).trans rfl)
  have f13 : ofd σ5 (some m) 7 13 = some (.ref y') := (ofd_at g51).trans ((g53 13 (by decide) (by decide)).trans rfl)
  have X2 : oF κ T (n + 4) 2 [va_rf (some σ2.2.1), va_rf (some (φ (d.1 + 2))), va_rf os] (onew σ2 (.inr (10, odef 10)) (oq 10).2.2) = some (none, σ3) := by rw [hS3]; exact c_sc2 (κ := κ) (T := T) (n := n + 3)
  have X1 : opf σ1 (some (φ (d.1 + 2))) 6 4 (va_rf (some kF)) = some σ2 := by rw [hS2]; exact opf_at f0 (by omega)
  rw [c_wk0 g1 ((g3 17 (by decide) (by decide)).trans rfl)]
  unfold oj_X0_walk_21
  rw [c_pl0 g1 ((g3 0 (by decide) (by decide)).trans rfl), ovi_i, obn_at, if_neg (by decide), if_neg (by decide), if_neg (by decide), if_neg (by decide), if_neg (by decide), if_neg (by decide), if_pos rfl, oob_at hv, obn_at, show n + 5 = (n + 4) + 1 from rfl, oE_X0_walkRec]
  unfold ob_X0_walkRec
  rw [f10, ovr_rf, obn_at, fN2, ovi_i, obn_at, f11, ovr_rf, obn_at, oob_at hv, obn_at, T1, orn_at, f10a, ovr_rf, obn_at, X1, obn_at, olet_at, f10', ovr_rf, obn_at, obn_at, X2, ocv_at, oob_at hv3, obn_at, Q1, ocv_at, x8, ovi_i, obn_at, oob_at hv4, obn_at, R1, orn_at, f13, ovr_rf, obn_at, oob_at hv5, obn_at, F1, orn_at, oob_at F1', obn_at, F2, ocv_at, orn_at]
  have mv : ∀ u, u ∈ ((tl ++ List.range' (d.1 + 3) d.2.1 ++ [d.1 + 2]) ++ wW a) ++ wW b → u ∈ tl ++ wW (.inner 2 d z a b) := fun u hu => by
    rcases List.mem_append.mp hu with hu | hu
    · rcases List.mem_append.mp hu with hu | hu
      · rcases List.mem_append.mp hu with hu | hu
        · rcases List.mem_append.mp hu with hu | hu
          · exact List.mem_append_left _ hu
          · exact List.mem_append_right _ (nm' u hu)
        · rw [List.mem_singleton.mp hu]; exact List.mem_append_right _ um
      · exact List.mem_append_right _ (am u hu)
    · exact List.mem_append_right _ (bm u hu)
  have ag3 : gAg σ Ψ Ψ4 := T4.tr Q5 kp3.2.2.2
  have ag5 : gAg σ Ψ Ψ5 := ag3.tr R4 kp4.2.2.2
  refine ⟨σ7, kW, Ψ7, Ls7, ln7, ct7, cs7, rfl, F5, F3.dn mv, ⟨ag5.tr F6 kp5.2.2.2, fun q hq => ?_⟩, ⟨kp5.tr (F7.mo (fun x ⟨u, u1, u2, u3⟩ => ⟨u, mv u u1, fun w => u2 (List.mem_append_left _ (tlt u w)), u3⟩)), ?_⟩, fun w hw => F9 w (R7 w (Q8 w (T7 w hw))), ?_⟩
  · rcases F6' q hq with w | w
    · rcases R4' q w with w | w
      · rcases Q5' q w with w | w
        · exact (T4' q w).imp id (fun w => by omega)
        · exact Or.inr (by omega)
      · exact Or.inr (by omega)
    · exact Or.inr (by omega)
  · exact ((T6.w7.tr (s2.w7.tr s3.w7)).tr (Q7.mo (by omega) (by omega))).tr (R6.w7.tr (F8.mo (by omega) (Nat.le_refl _)))
  · obtain ⟨q1, q2, q3⟩ := ((T8.tr (c2.tr c3)).tr Q9).tr (R8.tr F10)
    refine ⟨q1, Nat.le_trans q2 (Nat.le_of_eq ?_), Nat.le_trans q3 (Nat.le_of_eq ?_)⟩
    · simp only [wS, wT]; omega
    · simp only [wS, wT]; omega
end CW2
