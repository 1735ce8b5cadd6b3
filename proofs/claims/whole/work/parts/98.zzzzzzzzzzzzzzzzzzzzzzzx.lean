/-! the class's gather(): walk() of fun -/
section CW3
variable {κ : oKv} {T T0 : Nat} {st : Nat} {l : Nat → Nat} {b0 : Nat} {nq : tQ → Int} {xs : List tQ} {pg ch ty : Nat} {cf : List Value} {At : Nat → Nat} {mo : Nat} {g : gG} {ρ : Nat → tY} {lv ov : Int32} {CN : Nat → gCd → Prop} {NR : Nat → (Nat × Nat × tT × List tP × List Nat × Nat) → Prop} {V : oSt} {lo g0 : Nat} {nm : Nat → Option Nat} {tE tN : Nat → tY} {φ : Nat → Nat} {Us : List Nat} {kk pp ee f fc : Nat → Int32} {B : Nat → Nat} {D : cDt} {Γ : uGm} {C Bd : Int} {rt : Nat → gTm} {M : Nat} {CB : List Nat → List (gCd × Bool) → Prop} {NB : List Nat → List (gCd × Bool) → (Nat × Nat × tT × List tP × List Nat × Nat) → Prop} {cnt : Nat}
set_option maxHeartbeats 2000000 in
/-- **fun** -/
theorem cw_3 {d z} {a b : tT} (hT : 9010 ≤ T) (hnq : ∀ x, x ∈ xs → -1125899906842624 ≤ nq x ∧ nq x ≤ 1125899906842624) (hcf : cfO pg ty st cf) (hpp : ∀ u v, u < v → v < cnt → pp u < pp v) (hQ : rtQ Γ rt) (hC : 0 ≤ C) (hB : 4 ≤ Bd) (hyd : ∀ key y ns env, rtC rt tN M key y ns env → yDp y ≤ 60 ∧ yLs y ≤ 60) (iha : cWk κ T T0 st l b0 nq xs pg ch ty cf At mo g ρ lv ov CN NR V lo g0 nm tE tN φ Us kk pp ee f fc B D Γ C Bd rt M CB NB cnt a) : cWk κ T T0 st l b0 nq xs pg ch ty cf At mo g ρ lv ov CN NR V lo g0 nm tE tN φ Us kk pp ee f fc B D Γ C Bd rt M CB NB cnt (.inner 3 d z a b) := by
  intro env sc Sc os Es A s Ψ Ls σ ln ct cs i j m fk tl y N hE hI hN
  obtain ⟨⟨a1, a2, a3, a4, a5⟩, ⟨h2, h2'⟩, ⟨lo1, h3, h3'⟩, ⟨h4, h4'⟩, h5, h6, h7, h8, h9, h10, h11⟩ := hI
  have a1 : CB env (scC sc) ∧ (rtC rt tN M (2 * d.1) (tE d.1) [d.1 + 1] env ∧ uNm Γ (.inl (d.1 + 1)) ∧ (gSv tN (env ++ [d.1 + 1])).length + ySx (yR (tE d.1)) ≤ M ∧ CB (env ++ [d.1 + 1]) (scC sc)) ∧ eT a ∧ gHq T f pp ee tE tN Γ C Bd rt M CB NB a (env ++ [d.1 + 1]) (scC sc) := a1
  obtain ⟨-, ⟨rc, un, -, -⟩, ea, ga⟩ := a1
  have a2 : tE d.1 = y ∧ ∃ r, y = yA (tN (d.1 + 1)) r ∧ gOk f pp ee tE tN a (env ++ [d.1 + 1]) r := a2
  obtain ⟨rfl, r, hy, a2a⟩ := a2
  obtain ⟨⟨r1, r2, -⟩, k, ⟨r3, -⟩, r5, r6⟩ : (i ≤ d.1 ∧ d.1 < j ∧ (3 = 10 → d.2.2.2.1.1 = d.1) ∧ (3 = 33 → d.1 ≤ d.2.2.2.1.1 ∧ d.2.2.2.1.1 ≤ d.1 + 1)) ∧ ∃ k, (d.1 + 1 ≤ k ∧ (3 = 33 → d.2.2.2.1.1 < k)) ∧ tRg a (d.1 + 1) k ∧ tRg b k j := h2
  have kk1 := tRg.le a _ k r5
  have kk2 := tRg.le b k j r6
  obtain ⟨⟨c0, x8, c0n, c0ρ⟩, o1, x, pa, mk, o2, -, o3, o4⟩ := h3'
  have hm : lo ≤ m := by have := o1.1; omega
  have hlm : lo ≤ m + 1 := by omega
  obtain ⟨yd, yl⟩ := hyd _ _ _ _ rc
  have hH : tH (.inner 3 d z a b) = max (tH a) (tH b) + 1 := rfl
  obtain ⟨n, rfl⟩ : ∃ n, N = n + 6 := ⟨N - 6, by omega⟩
  have hfr := h7.2.1.1.1
  have hU : ∀ u, u ∈ tl → u ∈ Us := h5.2
  have eU : ∀ u, u ∈ env → u ∈ Us := fun u hu => hU u (h5.1 u hu)
  have h4 : ∀ u, u ∈ [d.1 + 1] ++ wW a → u ∈ Us ∧ u ∉ tl := h4
  have h4' : ([d.1 + 1] ++ wW a).Nodup := h4'
  obtain ⟨-, nd2, nd3⟩ := List.nodup_append.mp h4'
  have um : d.1 + 1 ∈ [d.1 + 1] ++ wW a := List.mem_append_left _ (List.mem_singleton.mpr rfl)
  have uU := (h4 _ um).1
  have uT := (h4 _ um).2
  have ue : d.1 + 1 ∉ env := fun w => uT (h5.1 _ w)
  have hy' : tE d.1 = gFn tN 1 (d.1 + 1) r := hy
  -- what it is
  obtain ⟨p, hp⟩ : ∃ p, p = gPa 1 (d.1 + 1) (gTp (2 * d.1) (tE d.1) (List.range' (d.1 + 1) 1) sc) sc s := ⟨_, rfl⟩
  obtain ⟨ra, hra⟩ : ∃ q, q = gWk T f pp ee tE tN a (env ++ List.range' (d.1 + 1) 1) p.1 A p.2.2 := ⟨_, rfl⟩
  have eY : yR (tE d.1) = r := by rw [hy]; rfl
  have eG : gWk T f pp ee tE tN (.inner 3 d z a b) env sc A s = (gFt (gFi r ra.2 p.2.1 p.1) ra.1, gTp (2 * d.1) (tE d.1) (List.range' (d.1 + 1) 1) sc) := by rw [hra, hp, ← eY]; rfl
  have eC : wCo T f pp ee tE tN xs (.inner 3 d z a b) env sc A s = wS [wT xs (tE d.1) sc, (4, 19), wCo T f pp ee tE tN xs a (env ++ List.range' (d.1 + 1) 1) p.1 A p.2.2, wFt r ra.2 p.2.1] := by rw [hra, hp, ← eY]; rfl
  rw [eG] at h10 h11
  rw [eG, eC]
  have gb2 : sGr ra.1 (gFt (gFi r ra.2 p.2.1 p.1) ra.1) := sGr.rf.ft
  have lb1 := gb2.1; have lb2 := gb2.2
  have h10 : (gFt (gFi r ra.2 p.2.1 p.1) ra.1).2.1.length ≤ 12000 := h10
  have h11 : (gFt (gFi r ra.2 p.2.1 p.1) ra.1).2.2.length ≤ 12000 := h11
  -- the TEMPLATE
  have oU : ∀ x, x < 1 → d.1 + 1 + x ∈ Us := fun x hx => by
    obtain rfl : x = 0 := by omega
    exact uU
  obtain ⟨dl, cap, mc, gl, L1, L2⟩ := h7.nl o3 hlm (by omega) oU
  obtain ⟨σ1, kW, Ψ1, Ls1, T1, T2, T3, ⟨T4, T4'⟩, ⟨T5, T6⟩, T7, T8, T9⟩ := h7.tm (n := n + 2) (key := 2 * d.1) (c := c0) (y := tE d.1) (ns := List.range' (d.1 + 1) 1) (nl := some pa) hT hnq hcf h8 (h6 (2 * d.1) (by omega) (by omega)) c0ρ c0n (h7.tn L1 L2 (by omega) (by omega)) (h7.tb hy' oU) ⟨rc.2.2.2.1, fun w hw => by
    obtain rfl : w = d.1 + 1 := List.mem_singleton.mp hw
    exact ⟨uU, ue, uT⟩⟩ eU hU (by have := rc.2.2.1; rw [a3.ss]; omega) yd (by omega) (by omega) hpp (by omega)
  have hs : ∃ f, σ.1 st = some (.inl (.object "LiquidTongue$Name", 73, f)) := ⟨_, h7.2.1.2.2.2.2.1.choose_spec⟩
  have L3 := toNx hs L1 T6 T5 (by omega)
  have nu := h7.nu uU uT hU
  have E1 := h8.sp (Dn' := dnO g0 φ (tl ++ [d.1 + 1])) (Ls' := Ls1) (q' := s.1) T5 T4 hfr (fun a ha ⟨w, hw, e⟩ => by
    obtain rfl : w = d.1 + 1 := List.mem_singleton.mp hw
    exact nu a ha e) (fun _ z => dnO.up (fun u hu => List.mem_append_left _ hu) z) T7 (fun _ _ => rfl)
  have U1 : ∀ u, u ∈ tl ++ [d.1 + 1] → u ∈ Us := fun u hu => (List.mem_append.mp hu).elim (hU u) (fun z => by rw [List.mem_singleton.mp z]; exact uU)
  have G1 := (T3.dn (tl' := tl ++ [d.1 + 1]) (fun u hu => List.mem_append_left _ hu)).ix (j := d.1 + 1) (by omega)
  have yw : yW (tE d.1) := by
    have := h7.2.1.2.2.2.2.2.2.w _ c0 (Nat.le_refl _) c0n
    rw [c0ρ] at this
    exact this
  obtain ⟨s1, s2, s3⟩ := gFn_sub (tN := tN) (r := r) 1 (d.1 + 1)
  rw [← hy'] at s1 s2 s3
  -- the body
  obtain ⟨p3, -, σ2, Ψ2, Ls2, ln2, ct2, cs2, Q1, Q2, -, Q4, ⟨Q5, Q5'⟩, ⟨Q6, Q7⟩, Q8, Q9⟩ := wk_body (n := n) (mm := (2 * d.1, [], tE d.1, List.range' (d.1 + 1) 1, gSs sc)) hT hpp hQ hC hB iha ea hp hra rfl rfl rfl hy' (by omega) (by omega) (fun x hx => E1.en (by
    have hx : x ∈ gSs sc := hx
    rw [gSs_mS, List.mem_reverse] at hx
    exact hx)) T2 T9 G1 E1 (fun x hx => by
    obtain rfl : x = d.1 + 1 := List.mem_singleton.mp hx
    exact ⟨List.mem_append_right _ (List.mem_singleton.mpr rfl), ue, un⟩) (fun u hu => List.mem_append_left _ (h5.1 u hu)) U1 hm o2 rfl rfl L3 L2 a3 (a3.tp rc) ga a2a a4.2.1 a5.2 r5 (by omega) hlm (cTX.kp T5 o4) ⟨fun u hu => ⟨(h4 u (List.mem_append_right _ hu)).1, fun w => (List.mem_append.mp w).elim (h4 u (List.mem_append_right _ hu)).2 (fun w => nd3 u w u hu rfl)⟩, nd2⟩ (fun q q1 q2 w => (T4' q w).elim (h6 q (by omega) (by omega)) (fun w => by omega)) (by omega) (by omega) (by omega) (by omega) (by omega) (s3 yw) (by omega)
  -- the program
  obtain ⟨gs, g1, -, g3⟩ := h7.2.2.1.1.nd hm o2
  obtain ⟨v, hv⟩ := h7.2.1.2.2.2.1
  obtain ⟨v1, hv1⟩ := T3.2.1.2.2.2.1
  have f11 : ofd σ (some m) 7 11 = some (.ref pa) := (ofd_at g1).trans ((g3 11 (by decide) (by decide)).trans rfl)
  rw [c_wk0 g1 ((g3 17 (by decide) (by decide)).trans rfl)]
  unfold oj_X0_walk_21
  rw [c_pl0 g1 ((g3 0 (by decide) (by decide)).trans rfl), ovi_i, obn_at, if_neg (by decide), if_neg (by decide), if_pos rfl, oob_at hv, obn_at, show n + 5 = (n + 4) + 1 from rfl, oE_X0_walkFunction]
  unfold ob_X0_walkFunction
  rw [x8, ovi_i, obn_at, f11, ovr_rf, obn_at, oob_at hv, obn_at, T1, orn_at, oob_at hv1, obn_at, Q1, ocv_at, orn_at]
  have P1 : ∀ x, (∃ w, w ∈ List.range' (d.1 + 1) 1 ∧ x = φ w) → ∃ u, u ∈ tl ++ wW (.inner 3 d z a b) ∧ u ∉ tl ∧ x = φ u := fun x ⟨w, hw, e⟩ => by
    obtain rfl : w = d.1 + 1 := List.mem_singleton.mp hw
    exact ⟨_, List.mem_append_right _ um, uT, e⟩
  refine ⟨σ2, kW, Ψ2, Ls2, ln2, ct2, cs2, rfl, Q4, (Q2.dn (fun u hu => ?_)).ix kk2, ⟨T4.tr Q5 T5.2.2.2, fun q hq => ?_⟩, ⟨?_, ?_⟩, fun w hw => Q8 w (T7 w hw), ?_⟩
  · rw [List.append_assoc] at hu
    exact hu
  · rcases Q5' q hq with w | w
    · exact (T4' q w).imp id (fun w => by omega)
    · exact Or.inr (by omega)
  · refine (T5.mo P1).tr (Q6.mo (fun x ⟨u, u1, u2, u3⟩ => ⟨u, ?_, fun w => u2 (List.mem_append_left _ w), u3⟩))
    rw [List.append_assoc] at u1
    exact u1
  · exact T6.w7.tr (Q7.mo (by omega) (by omega))
  · obtain ⟨q1, q2, q3⟩ := T8.tr Q9
    refine ⟨q1, Nat.le_trans q2 (Nat.le_of_eq ?_), Nat.le_trans q3 (Nat.le_of_eq ?_)⟩
    · simp only [wS, wT]; omega
    · simp only [wS, wT]; omega
end CW3
