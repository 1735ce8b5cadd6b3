/-! the class's gather(): walk() of match -/
section CWM
variable {κ : oKv} {T T0 : Nat} {st : Nat} {l : Nat → Nat} {b0 : Nat} {nq : tQ → Int} {xs : List tQ} {pg ch ty : Nat} {cf : List Value} {At : Nat → Nat} {mo : Nat} {g : gG} {ρ : Nat → tY} {lv ov : Int32} {NR : Nat → (Nat × Nat × tT × List tP × List Nat × Nat) → Prop} {V : oSt} {lo g0 : Nat} {nm : Nat → Option Nat} {tE tN : Nat → tY} {φ : Nat → Nat} {Us : List Nat} {kk pp ee f fc : Nat → Int32} {B : Nat → Nat} {D : cDt} {Γ : uGm} {C Bd : Int} {rt : Nat → gTm} {M : Nat} {CB : List Nat → List (gCd × Bool) → Prop} {NB : List Nat → List (gCd × Bool) → (Nat × Nat × tT × List tP × List Nat × Nat) → Prop} {cnt : Nat}
theorem orn_as (r : oRs) (f h : Option Nat → oSt → oRs) : orn r (fun x s => orn (f x s) h) = orn (orn r f) h := by
  unfold orn
  split <;> rfl
theorem eW.one {env : List Nat} {sc : List gEn} {q : Nat → gTy} {c : Int} {u : Nat} (hB : 4 ≤ Bd) (e : eW Γ C Bd rt tN env sc q) (hc : c = 1 ∨ c = -1) (hu : u ∈ env) (ht : tN u = yB 3) : Sum.inl u ∈ nmS sc ∧ wfT Γ C Bd rt (nmS sc) (gEq (yB 3) (some (.inl u, 1), c)) := by
  have mu : Sum.inl u ∈ nmS sc := e.me.mpr (gSv_me.mpr ⟨u, hu, by rw [ht]; rfl, rfl⟩)
  refine ⟨mu, gEq_w (by decide) (fun x e' w => ?_) ⟨⟨?_, ?_⟩, ?_, ?_⟩ (fun x e' w => ?_)⟩
  · injection w with w; injection w with w1 w2
    rw [← w1, ← w2]
    exact ⟨scW.nm _ e.2.1 _ mu, Or.inl rfl⟩
  · show -1125899906842624 ≤ c; omega
  · show c ≤ 1125899906842624; omega
  · show -Bd ≤ 2 * c - 2; omega
  · show 2 * c + 2 ≤ Bd; omega
  · injection w with w; injection w with w1 w2
    rw [← w1]
    exact mu
set_option maxHeartbeats 4000000 in
/-- **match** -/
theorem cw_19 {d z} {a b : tT} (hT : 9010 ≤ T) (hnq : ∀ x, x ∈ xs → -1125899906842624 ≤ nq x ∧ nq x ≤ 1125899906842624) (hcf : cfO pg ty st cf) (hpp : ∀ u v, u < v → v < cnt → pp u < pp v) (hQ : rtQ Γ rt) (hC : 0 ≤ C) (hB : 4 ≤ Bd) (hyd : ∀ key y ns env, rtC rt tN M key y ns env → yDp y ≤ 60 ∧ yLs y ≤ 60) (hfc : ∀ env w, nFind fc pp ee env w = nFind f pp ee env w) (iha : cWk κ T T0 st l b0 nq xs pg ch ty cf At mo g ρ lv ov (nCl κ T T0 kk pp ee f fc B D V nm lo) NR V lo g0 nm tE tN φ Us kk pp ee f fc B D Γ C Bd rt M CB NB cnt a) (ihb : cWk κ T T0 st l b0 nq xs pg ch ty cf At mo g ρ lv ov (nCl κ T T0 kk pp ee f fc B D V nm lo) NR V lo g0 nm tE tN φ Us kk pp ee f fc B D Γ C Bd rt M CB NB cnt b) : cWk κ T T0 st l b0 nq xs pg ch ty cf At mo g ρ lv ov (nCl κ T T0 kk pp ee f fc B D V nm lo) NR V lo g0 nm tE tN φ Us kk pp ee f fc B D Γ C Bd rt M CB NB cnt (.inner 19 d z a b) := by
  intro env sc Sc os Es A s Ψ Ls σ ln ct cs i j m fk tl y N hE hI hN
  obtain ⟨⟨a1, a2, a3, a4, a5⟩, ⟨h2, h2'⟩, ⟨lo1, h3, h3'⟩, ⟨h4, h4'⟩, h5, h6, h7, h8, h9, h10, h11⟩ := hI
  obtain ⟨lu, hlu⟩ : ∃ u, u = gNu f pp ee env (d.1 + 1) := ⟨_, rfl⟩
  have a1 : CB env (scC sc) ∧ (rtC rt tN M (2 * d.1) (tE d.1) [] env ∧ gNu f pp ee env (d.1 + 1) ∈ env ∧ (d.2.1 ∉ env ∧ d.2.1 + 1 ∉ env ∧ uNm Γ (.inl d.2.1) ∧ uNm Γ (.inl (d.2.1 + 1))) ∧ ((gSv tN env).length + ySx (tE d.1) ≤ M ∧ (gSv tN (env ++ [d.2.1, d.2.1 + 1])).length + ySx (tE d.1) ≤ M) ∧ CB env ((.inr (gNu f pp ee env (d.1 + 1)), true) :: scC sc) ∧ CB (env ++ [d.2.1, d.2.1 + 1]) ((.inr (gNu f pp ee env (d.1 + 1)), false) :: scC sc)) ∧ (eT a ∧ eT b) ∧ gHq T f pp ee tE tN Γ C Bd rt M CB NB a env ((.inr (gNu f pp ee env (d.1 + 1)), true) :: scC sc) ∧ gHq T f pp ee tE tN Γ C Bd rt M CB NB b (env ++ [d.2.1, d.2.1 + 1]) ((.inr (gNu f pp ee env (d.1 + 1)), false) :: scC sc) := a1
  have a2 : tE d.1 = y ∧ tN (gNu f pp ee env (d.1 + 1)) = yB 3 ∧ (tN d.2.1 = yB 0 ∧ tN (d.2.1 + 1) = yB 3) ∧ gOk f pp ee tE tN a env y ∧ gOk f pp ee tE tN b (env ++ [d.2.1, d.2.1 + 1]) y := a2
  rw [← hlu] at a1 a2
  obtain ⟨-, ⟨rc, lE, ⟨w0e, w1e, w0n, w1n⟩, -, -, -⟩, ⟨ea, eb⟩, ga, gb⟩ := a1
  obtain ⟨rfl, lt, ⟨w0t, w1t⟩, a2a, a2b⟩ := a2
  obtain ⟨⟨r1, r2, -⟩, k, ⟨r3, -⟩, r5, r6⟩ : (i ≤ d.1 ∧ d.1 < j ∧ (19 = 10 → d.2.2.2.1.1 = d.1) ∧ (19 = 33 → d.1 ≤ d.2.2.2.1.1 ∧ d.2.2.2.1.1 ≤ d.1 + 1)) ∧ ∃ k, (d.1 + 1 ≤ k ∧ (19 = 33 → d.2.2.2.1.1 < k)) ∧ tRg a (d.1 + 1) k ∧ tRg b k j := h2
  have kk1 := tRg.le a _ k r5
  have kk2 := tRg.le b k j r6
  obtain ⟨lu', hlu'⟩ := a5.1.2.2.2.1 (Or.inr rfl)
  have gu : lu = lu' := by rw [hlu]; unfold gNu; rw [hlu']; rfl
  subst gu
  have a5 : wTx T f pp ee a env ∧ wTx T f pp ee b (env ++ [d.2.1, d.2.1 + 1]) := a5.2
  obtain ⟨⟨c0, x8, c0n, c0ρ⟩, o1, x, y', c, pa, su, na, ta, o2, o3, o3', o6, o4, o5⟩ := h3'
  have hm : lo ≤ m := by have := o1.1; omega
  obtain ⟨yd, yl⟩ := hyd _ _ _ _ rc
  have hH : tH (.inner 19 d z a b) = max (tH a) (tH b) + 1 := rfl
  obtain ⟨n, rfl⟩ : ∃ n, N = n + 6 := ⟨N - 6, by omega⟩
  have hfr := h7.2.1.1.1
  have hU : ∀ u, u ∈ tl → u ∈ Us := h5.2
  have eU : ∀ u, u ∈ env → u ∈ Us := fun u hu => hU u (h5.1 u hu)
  have h4 : ∀ u, u ∈ wW a ++ ([d.2.1, d.2.1 + 1] ++ wW b) → u ∈ Us ∧ u ∉ tl := h4
  have h4' : (wW a ++ ([d.2.1, d.2.1 + 1] ++ wW b)).Nodup := h4'
  obtain ⟨nd1, nd2, nd3⟩ := List.nodup_append.mp h4'
  obtain ⟨-, nd4, nd5⟩ := List.nodup_append.mp nd2
  have m0' : d.2.1 ∈ [d.2.1, d.2.1 + 1] := List.mem_cons_self ..
  have m1' : d.2.1 + 1 ∈ [d.2.1, d.2.1 + 1] := List.mem_cons_of_mem _ (List.mem_cons_self ..)
  have m0 : d.2.1 ∈ wW a ++ ([d.2.1, d.2.1 + 1] ++ wW b) := List.mem_append_right _ (List.mem_append_left _ m0')
  have m1 : d.2.1 + 1 ∈ wW a ++ ([d.2.1, d.2.1 + 1] ++ wW b) := List.mem_append_right _ (List.mem_append_left _ m1')
  have oU : ∀ x, x < 2 → d.2.1 + x ∈ Us := fun x hx => by
    rcases (show x = 0 ∨ x = 1 by omega) with rfl | rfl
    · exact (h4 _ m0).1
    · exact (h4 _ m1).1
  have cn : nCl κ T T0 kk pp ee f fc B D V nm lo c (.inr lu) := ⟨lo1, su, na, ta, d.1 + 1, env, h3, hlu', o3, o3'⟩
  -- what it is
  obtain ⟨ra, hra⟩ : ∃ r, r = gWk T f pp ee tE tN a env (.inr (.inr lu, true) :: sc) A s := ⟨_, rfl⟩
  obtain ⟨s2, hs2⟩ : ∃ r, r = gTn (d.2.1 + 1) (gEq (yB 3) (some (.inl lu, 1), -1)) (gTn d.2.1 (gPl (yB 0)) (gFt (gFi (tE d.1) ra.2 (gTp (2 * d.1) (tE d.1) [] sc) (.inr (.inr lu, true) :: sc)) ra.1)) := ⟨_, rfl⟩
  obtain ⟨sn, hsn⟩ : ∃ r, r = gNm (.inl (d.2.1 + 1)) (gEq (yB 3) (some (.inl lu, 1), -1)) (gNm (.inl d.2.1) (gPl (yB 0)) (.inr (.inr lu, false) :: sc)) := ⟨_, rfl⟩
  obtain ⟨rb, hrb⟩ : ∃ r, r = gWk T f pp ee tE tN b (env ++ [d.2.1, d.2.1 + 1]) sn A s2 := ⟨_, rfl⟩
  have eG : gWk T f pp ee tE tN (.inner 19 d z a b) env sc A s = (gFt (gFi (tE d.1) rb.2 (gTp (2 * d.1) (tE d.1) [] sc) sn) rb.1, gTp (2 * d.1) (tE d.1) [] sc) := by rw [hrb, hs2, hsn, hra, hlu]; rfl
  have eC : wCo T f pp ee tE tN xs (.inner 19 d z a b) env sc A s = wS [wT xs (tE d.1) sc, (1, 4), wCo T f pp ee tE tN xs a env (.inr (.inr lu, true) :: sc) A s, wFt (tE d.1) ra.2 (gTp (2 * d.1) (tE d.1) [] sc), (10, 52), wCo T f pp ee tE tN xs b (env ++ [d.2.1, d.2.1 + 1]) sn A s2, wFt (tE d.1) rb.2 (gTp (2 * d.1) (tE d.1) [] sc)] := by rw [hrb, hs2, hsn, hra, hlu]; rfl
  rw [eG] at h10 h11
  rw [eG, eC]
  have gb1 : sGr s2 rb.1 := by rw [hrb]; exact gWk_gr b _ _ _ _
  have gb0 : sGr ra.1 s2 := by rw [hs2]; exact (sGr.rf.ft).tn.tn
  have gb2 : sGr rb.1 (gFt (gFi (tE d.1) rb.2 (gTp (2 * d.1) (tE d.1) [] sc) sn) rb.1) := sGr.rf.ft
  have gb3 : sGr ra.1 rb.1 := gb0.tr gb1
  have lb1 := gb2.1; have lb2 := gb2.2; have la1 := gb3.1; have la2 := gb3.2
  have h10 : (gFt (gFi (tE d.1) rb.2 (gTp (2 * d.1) (tE d.1) [] sc) sn) rb.1).2.1.length ≤ 12000 := h10
  have h11 : (gFt (gFi (tE d.1) rb.2 (gTp (2 * d.1) (tE d.1) [] sc) sn) rb.1).2.2.length ≤ 12000 := h11
  -- the TEMPLATE
  obtain ⟨σ1, kW, Ψ1, Ls1, T1, T2, T3, ⟨T4, T4'⟩, ⟨T5, T6⟩, T7, T8, -⟩ := h7.tm (n := n + 2) (key := 2 * d.1) (c := c0) (y := tE d.1) (ns := []) (nl := none) hT hnq hcf h8 (h6 (2 * d.1) (by omega) (by omega)) c0ρ c0n (Or.inl ⟨rfl, rfl⟩) (fun j w z => by cases z) ⟨List.nodup_nil, fun w hw => by cases hw⟩ eU hU (by have := rc.2.2.1; rw [a3.ss]; omega) yd (by omega) (by omega) hpp (by omega)
  have T5 : gKp st l b0 (fun _ => False) σ σ1 := T5.mo (fun x ⟨w, hw, _⟩ => by cases hw)
  have hfr1 := T3.2.1.1.1
  have E1 := h8.sp (Dn' := dnO g0 φ tl) (Ls' := Ls1) (q' := s.1) T5 T4 hfr (fun _ _ z => z) (fun _ z => z) T7 (fun _ _ => rfl)
  obtain ⟨gs1, g11, -, g13⟩ := T3.2.2.1.1.nd hm o2
  have ne1 : ∀ {y cc}, σ1.1 y = some cc → y ≠ σ1.2.1 := fun e z => by rw [z, hfr1 _ (Nat.le_refl _)] at e; cases e
  -- the list of none
  have on1 : oNl σ1 (onew σ1 (.inr (10, [va_rf none, .ref c, .int (b01 true), va_rf os])) 4) 1 4 := oNl.new hfr1
  obtain ⟨G2, ⟨k2, s2'⟩, c2⟩ := T3.nw on1 (o10_n6 hfr1) hpp (by omega)
  have E2 := E1.cd (m := c) (c := .inr lu) (hh := true) T3.2.1.1 cn
  have kW2 := T2.sp k2 (gAg.rf σ1 Ψ1) hfr1
  have f14 : ofd (onew σ1 (.inr (10, odef 10)) (oq 10).2.2) (some m) 7 14 = some (.ref c) := (ofd_at ((onew_ne (ne1 g11)).trans g11)).trans ((g13 14 (by decide) (by decide)).trans rfl)
  have R13 : oF κ T (n + 4) 13 [va_rf (some σ1.2.1), va_rf (some c), .int 1, va_rf os] (onew σ1 (.inr (10, odef 10)) (oq 10).2.2) = some (none, onew σ1 (.inr (10, [va_rf none, .ref c, .int (b01 true), va_rf os])) 4) := c_sc13 (κ := κ) (T := T) (n := n + 3) (σ := σ1) (m := c) (hh := true) (ou := os)
  generalize onew σ1 (.inr (10, [va_rf none, .ref c, .int (b01 true), va_rf os])) 4 = σ2 at on1 G2 k2 s2' c2 E2 kW2 R13
  have O1 := gWk_w (T := T) (f := f) (pp := pp) (ee := ee) (tE := tE) (tN := tN) (CB := CB) (NB := NB) (M := M) hQ hC hB a env (.inr (.inr lu, true) :: sc) A s (tE d.1) ga a2a a3.ic (aH_e ea)
  rw [yOu_e ea, ← hra] at O1
  have W1 := iha env (.inr (.inr lu, true) :: sc) (.inr (c, true) :: Sc) (some σ1.2.1) Es A s Ψ1 Ls1 σ2 ln ct cs (d.1 + 1) k x fk tl (tE d.1) (n + 4) ea ⟨⟨ga, a2a, a3.ic, a4.2.1, a5.1⟩, ⟨r5, by omega⟩, ⟨lo1, h3, cTX.kp (T5.tr k2) o4⟩, ⟨fun u hu => h4 u (List.mem_append_left _ hu), nd1⟩, h5, fun q q1 q2 z => (T4' q z).elim (h6 q (by omega) (by omega)) (fun w => by omega), G2.ix (by omega), E2, by show Sc.length + 1 + _ ≤ _; omega, by rw [← hra]; omega, by rw [← hra]; omega⟩ (by omega)
  rw [← hra] at W1
  have yw : yW (tE d.1) := by
    have := h7.2.1.2.2.2.2.2.2.w _ c0 (Nat.le_refl _) c0n
    rw [c0ρ] at this
    exact this
  have U1 : ∀ u, u ∈ tl ++ wW a → u ∈ Us := fun u hu => (List.mem_append.mp hu).elim (hU u) (fun z => (h4 u (List.mem_append_left _ z)).1)
  obtain ⟨k3, σ3, σ4, Ψ4, Ls4, ln4, ct4, cs4, F1, ⟨v3, F1'⟩, F2, F3, F4, F5, ⟨F6, F6'⟩, ⟨F7, F8⟩, F9, F10⟩ := wk_fit (T := T) (n := n + 3) (by omega) hQ hC (G2.ix (by omega)) W1 E2 kW2 hU U1 (fun u hu => List.mem_append_left _ hu) O1.2.1 O1.1.1 rfl yw O1.1.2 (a3.tp rc) ⟨_, rfl, rfl⟩ a3.2.1 yd (by omega) (by omega) hpp (by omega)
  -- the other list
  have kpA : gKp st l b0 (fun x => ∃ u, u ∈ tl ++ wW a ∧ u ∉ tl ∧ x = φ u) σ1 σ4 := (k2.mo (fun _ z => z.elim)).tr F7
  have agA : gAg σ1 Ψ1 Ψ4 := (gAg.rf σ1 Ψ1).tr F6 k2.2.2.2
  have E4 := E1.sp (Dn' := dnO g0 φ (tl ++ wW a)) (Ls' := Ls4) (q' := ra.1.1) kpA agA hfr1 (T3.dj hU U1) (fun _ z => dnO.up (fun u hu => List.mem_append_left _ hu) z) F9 O1.2.1
  have hfr4 := F3.2.1.1.1
  obtain ⟨gs4, g41, -, g43⟩ := F3.2.2.1.1.nd hm o2
  have ne4 : ∀ {y cc}, σ4.1 y = some cc → y ≠ σ4.2.1 := fun e z => by rw [z, hfr4 _ (Nat.le_refl _)] at e; cases e
  have on4 : oNl σ4 (onew σ4 (.inr (10, [va_rf none, .ref c, .int (b01 false), va_rf os])) 4) 1 4 := oNl.new hfr4
  obtain ⟨G5, ⟨k5, s5⟩, c5⟩ := F3.nw on4 (o10_n6 hfr4) hpp (by omega)
  have E5 := E4.cd (m := c) (c := .inr lu) (hh := false) F3.2.1.1 cn
  have kW5 := F5.sp k5 (gAg.rf σ4 Ψ4) hfr4
  have f14' : ofd (onew σ4 (.inr (10, odef 10)) (oq 10).2.2) (some m) 7 14 = some (.ref c) := (ofd_at ((onew_ne (ne4 g41)).trans g41)).trans ((g43 14 (by decide) (by decide)).trans rfl)
  have R13' : oF κ T (n + 4) 13 [va_rf (some σ4.2.1), va_rf (some c), .int 0, va_rf os] (onew σ4 (.inr (10, odef 10)) (oq 10).2.2) = some (none, onew σ4 (.inr (10, [va_rf none, .ref c, .int (b01 false), va_rf os])) 4) := c_sc13 (κ := κ) (T := T) (n := n + 3) (σ := σ4) (m := c) (hh := false) (ou := os)
  generalize onew σ4 (.inr (10, [va_rf none, .ref c, .int (b01 false), va_rf os])) 4 = σ5 at on4 G5 k5 s5 c5 E5 kW5 R13'
  -- the first NAME
  obtain ⟨dl5, cap5, mc5, gl5, L5, L5'⟩ := G5.nl o6 h3 (by omega) oU
  obtain ⟨gs5, g51, -, g53⟩ := G5.2.2.1.1.nd hm o2
  obtain ⟨σ6, k6, Ψ6, q61, q62, q63, q64, q65, ⟨q66, q67⟩, q68⟩ := G5.km (E := fun y b => (y, b) ∈ Es) (A := gPl (yB 0)) (G5.2.1.k0 (kd := 210) (y := yB 0) rfl) hpp (by omega)
  have hk6 : k6 = σ5.2.1 ∧ σ6 = onew σ5 (.inr (4, kF0 210 σ5.2.1 none none)) 15 := by
    injection q61 with q61
    injection q61 with q61 q61'
    injection q61 with q61
    exact ⟨by injection q61 with q61; exact q61.symm, q61'.symm⟩
  have hfr5 := G5.2.1.1.1
  have E6 := E5.sp (Dn' := dnO g0 φ (tl ++ wW a)) (Ls' := Ls4) (q' := ra.1.1) q66 q64 hfr5 (fun _ _ z => z) (fun _ z => z) (fun _ z => z) (fun _ _ => rfl)
  have kW6 := kW5.sp q66 q64 hfr5
  have hfr6 := q63.2.1.1.1
  have w0U := (h4 _ m0).1
  have w1U := (h4 _ m1).1
  have w0t' : d.2.1 ∉ tl ++ wW a := fun z => (List.mem_append.mp z).elim (h4 _ m0).2 (fun z => nd3 _ z _ (List.mem_append_left _ m0') rfl)
  have w1t' : d.2.1 + 1 ∉ tl ++ wW a ++ [d.2.1] := fun z => (List.mem_append.mp z).elim (fun z => (List.mem_append.mp z).elim (h4 _ m1).2 (fun z => nd3 _ z _ (List.mem_append_left _ m1') rfl)) (fun z => by have := List.mem_singleton.mp z; omega)
  obtain ⟨fs7, σ7, f70, f78, hS7, G7, E7, K7, ⟨k7, s7⟩, c7⟩ := q63.kw (u := d.2.1) (k := k6) (A := gPl (yB 0)) E6 q62 w0U w0t' U1 w0e hpp (by omega)
  have kW7 := kW6.sp k7 (gAg.rf σ6 Ψ6) hfr6
  have U7 : ∀ u, u ∈ tl ++ wW a ++ [d.2.1] → u ∈ Us := fun u hu => (List.mem_append.mp hu).elim (U1 u) (fun z => by rw [List.mem_singleton.mp z]; exact w0U)
  have hfr7 := G7.2.1.1.1
  obtain ⟨σ8, hS8, G8, -, E8, -, ⟨k8, s8⟩, c8⟩ := G7.sc2 (u := d.2.1) (k := k6) (A := gPl (yB 0)) E7 K7 (List.mem_append_right _ (List.mem_singleton.mpr rfl)) U7 w0e eU w0t.symm ⟨fs7.set 4 (.ref k6), by rw [hS7, oput_eq], by rw [List.getElem?_set_self (by omega)]⟩ (if_pos rfl) hpp (by omega)
  have kW8 := kW7.sp k8 (gAg.rf σ7 Ψ6) hfr7
  have hfr8 := G8.2.1.1.1
  -- the second NAME
  have lE8 : lu ∈ env ++ [d.2.1] := List.mem_append_left _ lE
  obtain ⟨-, fa8, ka8, fa1, -, -, -⟩ := E8.2.2.2.2 lu lE8
  have O1' : eW Γ C Bd rt tN env (.inr (.inr lu, false) :: sc) (gFt (gFi (tE d.1) ra.2 (gTp (2 * d.1) (tE d.1) [] sc) (.inr (.inr lu, true) :: sc)) ra.1).1 := (a3.cg O1.2.1).ic
  have e6 := O1'.tel (w := d.2.1) (A := gPl (yB 0)) w0e w0n (gPl_w (by decide)) w0t.symm
  obtain ⟨mu, LL⟩ := O1'.one hB (Or.inr rfl) lE lt
  have mu8 : Sum.inl lu ∈ nmS (gNm (.inl d.2.1) (gPl (yB 0)) (.inr (.inr lu, false) :: sc)) := nm_sub _ _ _ _ mu
  obtain ⟨σ9, k9, Ψ9, q91, q92, q93, q94, q95, ⟨q96, q97⟩, q98⟩ := G8.km (c_kofN1 (κ := κ) (T := T) (n := n) (E := fun y b => (y, b) ∈ (if gMs (tN d.2.1) = true then (.inl d.2.1, φ d.2.1) :: Es else Es)) (p := -1) (x := .inl lu) (by omega) G8.2.1 fa1 (E8.en mu8) (Or.inr (by decide))) hpp (by omega)
  have E9 := E8.sp (Dn' := dnO g0 φ (tl ++ wW a ++ [d.2.1])) (Ls' := Ls4) (q' := (gTn d.2.1 (gPl (yB 0)) (gFt (gFi (tE d.1) ra.2 (gTp (2 * d.1) (tE d.1) [] sc) (.inr (.inr lu, true) :: sc)) ra.1)).1) q96 q94 hfr8 (fun _ _ z => z) (fun _ z => z) (fun _ z => z) (fun _ _ => rfl)
  have kW9 := kW8.sp q96 q94 hfr8
  have hfr9 := q93.2.1.1.1
  have w1e' : d.2.1 + 1 ∉ env ++ [d.2.1] := fun w => by
    rcases List.mem_append.mp w with w | w
    · exact w1e w
    · have := List.mem_singleton.mp w; omega
  have eU9 : ∀ u, u ∈ env ++ [d.2.1] → u ∈ Us := fun u hu => (List.mem_append.mp hu).elim (eU u) (fun z => by rw [List.mem_singleton.mp z]; exact w0U)
  have q92 : kRl st l b0 nq xs Ψ9 σ9 (fun y b => (y, b) ∈ (if gMs (tN d.2.1) = true then (.inl d.2.1, φ d.2.1) :: Es else Es)) k9 (gEq (yB 3) (some (.inl lu, 1), -1)) := q92
  obtain ⟨fsa, σa, fa0, fa8', hSa, Ga, Ea, Ka, ⟨ka, sa⟩, ca⟩ := q93.kw (u := d.2.1 + 1) (k := k9) (A := gEq (yB 3) (some (.inl lu, 1), -1)) E9 q92 w1U w1t' U7 w1e' hpp (by omega)
  have kWa := kW9.sp ka (gAg.rf σ9 Ψ9) hfr9
  have Ua : ∀ u, u ∈ tl ++ wW a ++ [d.2.1] ++ [d.2.1 + 1] → u ∈ Us := fun u hu => (List.mem_append.mp hu).elim (U7 u) (fun z => by rw [List.mem_singleton.mp z]; exact w1U)
  have hfra := Ga.2.1.1.1
  obtain ⟨σb, hSb, Gb, -, Eb, -, ⟨kb, sb⟩, cb⟩ := Ga.sc2 (u := d.2.1 + 1) (k := k9) (A := gEq (yB 3) (some (.inl lu, 1), -1)) Ea Ka (List.mem_append_right _ (List.mem_singleton.mpr rfl)) Ua w1e' eU9 w1t.symm ⟨fsa.set 4 (.ref k9), by rw [hSa, oput_eq], by rw [List.getElem?_set_self (by omega)]⟩ (if_pos rfl) hpp (by omega)
  have kWb := kWa.sp kb (gAg.rf σa Ψ9) hfra
  have hfrb := Gb.2.1.1.1
  rw [List.append_assoc env] at Eb
  have Eb : gwE st l b0 nq xs Ψ9 σb (nCl κ T T0 kk pp ee f fc B D V nm lo) (dnO g0 φ (tl ++ wW a ++ [d.2.1] ++ [d.2.1 + 1])) nm tN lo Ls4 (env ++ [d.2.1, d.2.1 + 1]) sn (.inl (φ (d.2.1 + 1)) :: .inl (φ d.2.1) :: .inr (c, false) :: Sc) (some σa.2.1) (if gMs (tN (d.2.1 + 1)) = true then (.inl (d.2.1 + 1), φ (d.2.1 + 1)) :: (if gMs (tN d.2.1) = true then (.inl d.2.1, φ d.2.1) :: Es else Es) else (if gMs (tN d.2.1) = true then (.inl d.2.1, φ d.2.1) :: Es else Es)) s2.1 := by
    rw [hsn, hs2]; exact Eb
  have Gb : gwS κ st l b0 nq xs pg ch ty cf At mo g ρ lv ov (nCl κ T T0 kk pp ee f fc B D V nm lo) NR pp V lo g0 nm tN φ Us k (tl ++ wW a ++ [d.2.1] ++ [d.2.1 + 1]) Ψ9 Ls4 σb ln4 ct4 cs4 s2 := by
    rw [hs2]; exact Gb
  have tlt : ∀ u, u ∈ tl → u ∈ tl ++ wW a ++ [d.2.1] ++ [d.2.1 + 1] := fun u hu => List.mem_append_left _ (List.mem_append_left _ (List.mem_append_left _ hu))
  have PA : ∀ x, (∃ u, u ∈ tl ++ wW a ∧ u ∉ tl ∧ x = φ u) → ∃ u, u ∈ tl ++ wW (.inner 19 d z a b) ∧ u ∉ tl ∧ x = φ u := fun x ⟨u, u1, u2, u3⟩ => ⟨u, (List.mem_append.mp u1).elim (fun w => List.mem_append_left _ w) (fun w => List.mem_append_right _ (List.mem_append_left _ w)), u2, u3⟩
  have kp5 : gKp st l b0 (fun x => ∃ u, u ∈ tl ++ wW (.inner 19 d z a b) ∧ u ∉ tl ∧ x = φ u) σ σ5 := ((T5.mo (fun _ z => z.elim)).tr (kpA.mo PA)).tr (k5.mo (fun _ z => z.elim))
  have kp8 := ((kp5.tr (q66.mo (fun _ z => z.elim))).tr (k7.mo (fun x hx => ⟨d.2.1, List.mem_append_right _ m0, (h4 _ m0).2, hx⟩))).tr (k8.mo (fun _ z => z.elim))
  have kpb := ((kp8.tr (q96.mo (fun _ z => z.elim))).tr (ka.mo (fun x hx => ⟨d.2.1 + 1, List.mem_append_right _ m1, (h4 _ m1).2, hx⟩))).tr (kb.mo (fun _ z => z.elim))
  have e9 : eW Γ C Bd rt tN (env ++ [d.2.1, d.2.1 + 1]) sn s2.1 := by
    have := e6.tel (w := d.2.1 + 1) (A := gEq (yB 3) (some (.inl lu, 1), -1)) w1e' w1n (LL.mo (nm_sub _ _ _)) w1t.symm
    rw [List.append_assoc] at this
    rw [hsn, hs2]
    exact this
  have gb' : gHq T f pp ee tE tN Γ C Bd rt M CB NB b (env ++ [d.2.1, d.2.1 + 1]) (scC sn) := by rw [hsn, scC_nm, scC_nm]; exact gb
  have O2 := gWk_w (T := T) (f := f) (pp := pp) (ee := ee) (tE := tE) (tN := tN) (CB := CB) (NB := NB) (M := M) hQ hC hB b (env ++ [d.2.1, d.2.1 + 1]) sn A s2 (tE d.1) gb' a2b e9 (aH_e eb)
  rw [yOu_e eb, ← hrb] at O2
  have kf : ∀ q, Ψ9.2.2.2 q → Ψ4.2.2.2 q := fun q w => by rw [q95, q65] at w; exact w
  have W2 := ihb (env ++ [d.2.1, d.2.1 + 1]) sn (.inl (φ (d.2.1 + 1)) :: .inl (φ d.2.1) :: .inr (c, false) :: Sc) (some σa.2.1) (if gMs (tN (d.2.1 + 1)) = true then (.inl (d.2.1 + 1), φ (d.2.1 + 1)) :: (if gMs (tN d.2.1) = true then (.inl d.2.1, φ d.2.1) :: Es else Es) else (if gMs (tN d.2.1) = true then (.inl d.2.1, φ d.2.1) :: Es else Es)) A s2 Ψ9 Ls4 σb ln4 ct4 cs4 k j y' (fk + nF a) (tl ++ wW a ++ [d.2.1] ++ [d.2.1 + 1]) (tE d.1) (n + 4) eb ⟨⟨gb', a2b, e9, a4.2.2, a5.2⟩, ⟨r6, h2'⟩, ⟨lo1, h3, cTX.kp kpb o5⟩, ⟨fun u hu => ⟨(h4 u (List.mem_append_right _ (List.mem_append_right _ hu))).1, fun w => by
      rcases List.mem_append.mp w with w | w
      · rcases List.mem_append.mp w with w | w
        · rcases List.mem_append.mp w with w | w
          · exact (h4 u (List.mem_append_right _ (List.mem_append_right _ hu))).2 w
          · exact nd3 u w u (List.mem_append_right _ hu) rfl
        · rw [List.mem_singleton.mp w] at hu; exact nd5 _ m0' _ hu rfl
      · rw [List.mem_singleton.mp w] at hu; exact nd5 _ m1' _ hu rfl⟩, nd4⟩, ⟨fun u hu => by
      rcases List.mem_append.mp hu with w | w
      · exact tlt u (h5.1 u w)
      · rcases List.mem_cons.mp w with w | w
        · rw [w]; exact List.mem_append_left _ (List.mem_append_right _ (List.mem_singleton.mpr rfl))
        · exact List.mem_append_right _ w, Ua⟩, fun q q1 q2 w => (F6' q (kf q w)).elim (fun w => (T4' q w).elim (h6 q (by omega) (by omega)) (fun w => by omega)) (fun w => by omega), Gb, Eb, by show Sc.length + 1 + 1 + 1 + _ ≤ _; omega, by rw [← hrb]; omega, by rw [← hrb]; omega⟩ (by omega)
  rw [← hrb] at W2
  have Ub : ∀ u, u ∈ (tl ++ wW a ++ [d.2.1] ++ [d.2.1 + 1]) ++ wW b → u ∈ Us := fun u hu => (List.mem_append.mp hu).elim (Ua u) (fun w => (h4 u (List.mem_append_right _ (List.mem_append_right _ w))).1)
  obtain ⟨kc, σc, σd, Ψd, Lsd, lnd, ctd, csd, H1, ⟨vc, H1'⟩, H2, H3, -, -, ⟨H6, H6'⟩, ⟨H7, H8⟩, H9, H10⟩ := wk_fit (T := T) (n := n + 3) (by omega) hQ hC Gb W2 Eb ((kWb.mo es_sub).mo es_sub) Ua Ub (fun u hu => List.mem_append_left _ hu) O2.2.1 O2.1.1 rfl yw O2.1.2 (by
    rw [hsn]
    exact ((a3.tp rc).mo (fun x hx => nm_sub (.inl d.2.1) (gPl (yB 0)) (.inr (.inr lu, false) :: sc) x hx)).mo (nm_sub _ _ _)) ⟨_, rfl, rfl⟩ e9.2.1 yd (by omega) (by omega) hpp h2'
  have KW := kWb.sp H7 H6 hfrb
  -- the program
  obtain ⟨gs, g1, -, g3⟩ := h7.2.2.1.1.nd hm o2
  obtain ⟨v, hv⟩ := h7.2.1.2.2.2.1
  obtain ⟨v2, hv2⟩ := G2.2.1.2.2.2.1
  obtain ⟨vb, hvb⟩ := Gb.2.1.2.2.2.1
  obtain ⟨gs2, g21, -, g23⟩ := G2.2.2.1.1.nd hm o2
  obtain ⟨gs7, g71, -, g73⟩ := G7.2.2.1.1.nd hm o2
  obtain ⟨gs8, g81, -, g83⟩ := G8.2.2.1.1.nd hm o2
  obtain ⟨gsa, ga1, -, ga3⟩ := Ga.2.2.1.1.nd hm o2
  obtain ⟨gsb, gb1', -, gb3'⟩ := Gb.2.2.1.1.nd hm o2
  obtain ⟨dl7, cap7, mc7, gl7, L7, L7'⟩ := G7.nl o6 h3 (by omega) oU
  obtain ⟨dl8, cap8, mc8, gl8, L8, L8'⟩ := G8.nl o6 h3 (by omega) oU
  obtain ⟨dla, capa, mca, gla, La, La'⟩ := Ga.nl o6 h3 (by omega) oU
  have ne7 : ∀ {y cc}, σ7.1 y = some cc → y ≠ σ7.2.1 := fun e z => by rw [z, hfr7 _ (Nat.le_refl _)] at e; cases e
  have nea : ∀ {y cc}, σa.1 y = some cc → y ≠ σa.2.1 := fun e z => by rw [z, hfra _ (Nat.le_refl _)] at e; cases e
  have f12 : ofd σ2 (some m) 7 12 = some (.ref x) := (ofd_at g21).trans ((g23 12 (by decide) (by decide)).trans rfl)
  have f11 : ofd σ5 (some m) 7 11 = some (.ref pa) := (ofd_at g51).trans ((g53 11 (by decide) (by decide)).trans rfl)
  have f11a : ofd (onew σ7 (.inr (10, odef 10)) (oq 10).2.2) (some m) 7 11 = some (.ref pa) := (ofd_at ((onew_ne (ne7 g71)).trans g71)).trans ((g73 11 (by decide) (by decide)).trans rfl)
  have f11b : ofd σ8 (some m) 7 11 = some (.ref pa) := (ofd_at g81).trans ((g83 11 (by decide) (by decide)).trans rfl)
  have f11c : ofd (onew σa (.inr (10, odef 10)) (oq 10).2.2) (some m) 7 11 = some (.ref pa) := (ofd_at ((onew_ne (nea ga1)).trans ga1)).trans ((ga3 11 (by decide) (by decide)).trans rfl)
  have f13 : ofd σb (some m) 7 13 = some (.ref y') := (ofd_at gb1').trans ((gb3' 13 (by decide) (by decide)).trans rfl)
  have f9 : ofd σ8 (some m) 7 9 = some (.ref (Ψ6.1 (.inl lu))) := (ofd_at g81).trans (by
    rw [g83 9 (by decide) (by decide)]
    show some (va_rf (nR fc pp ee nm env (d.1 + 1))) = _
    unfold nR
    rw [hfc, hlu']
    show some (va_rf (nm lu)) = _
    rw [(E8.2.2.2.1.1 lu lE8).1]
    rfl)
  have L7n : cLs κ (onew σ7 (.inr (10, odef 10)) (oq 10).2.2) pa dl7 cap7 2 mc7 gl7 6 := L7.on (by omega) hfr7
  have Lan : cLs κ (onew σa (.inr (10, odef 10)) (oq 10).2.2) pa dla capa 2 mca gla 6 := La.on (by omega) hfra
  obtain ⟨-, -, -, n50, -, n51, -⟩ := G5.2.2.2.2.2.1.1 _ w0U
  obtain ⟨-, -, -, n70, -, n71, -⟩ := G7.2.2.2.2.2.1.1 _ w0U
  obtain ⟨-, -, -, n80, -, n81, -⟩ := G8.2.2.2.2.2.1.1 _ w1U
  obtain ⟨-, -, -, na0, -, na1, -⟩ := Ga.2.2.2.2.2.1.1 _ w1U
  have X0 : oF κ T (n + 4) 234 [va_rf (some pa), .int 0] σ5 = some (some (va_rf (some (φ d.2.1))), σ5) := by
    rw [show (0 : Int32) = nI 0 from rfl, l_get (n := n + 1) (L5.o (by omega)) (by omega), L5' 0 (by omega)]; rfl
  have X0' : oF κ T (n + 4) 234 [va_rf (some pa), .int 0] (onew σ7 (.inr (10, odef 10)) (oq 10).2.2) = some (some (va_rf (some (φ d.2.1))), onew σ7 (.inr (10, odef 10)) (oq 10).2.2) := by
    rw [show (0 : Int32) = nI 0 from rfl, l_get (n := n + 1) (L7n.o (by omega)) (by omega), L7' 0 (by omega)]; rfl
  have X1 : oF κ T (n + 4) 234 [va_rf (some pa), .int 1] σ8 = some (some (va_rf (some (φ (d.2.1 + 1)))), σ8) := by
    rw [show (1 : Int32) = nI 1 from rfl, l_get (n := n + 1) (L8.o (by omega)) (by omega), L8' 1 (by omega)]
  have X1' : oF κ T (n + 4) 234 [va_rf (some pa), .int 1] (onew σa (.inr (10, odef 10)) (oq 10).2.2) = some (some (va_rf (some (φ (d.2.1 + 1)))), onew σa (.inr (10, odef 10)) (oq 10).2.2) := by
    rw [show (1 : Int32) = nI 1 from rfl, l_get (n := n + 1) (Lan.o (by omega)) (by omega), La' 1 (by omega)]
  have oc5 : ocs σ5 (some (φ d.2.1)) 6 = true := by simp only [ocs, n51]; rfl
  have oc7 : ocs (onew σ7 (.inr (10, odef 10)) (oq 10).2.2) (some (φ d.2.1)) 6 = true := by simp only [ocs, onew_ne (ne7 n71), n71]; rfl
  have oc8 : ocs σ8 (some (φ (d.2.1 + 1))) 6 = true := by simp only [ocs, n81]; rfl
  have oca : ocs (onew σa (.inr (10, odef 10)) (oq 10).2.2) (some (φ (d.2.1 + 1))) 6 = true := by simp only [ocs, onew_ne (nea na1), na1]; rfl
  have XK : oF κ T (n + 4) 1 [va_rf (some σ5.2.1), .int 210] (onew σ5 (.inr (4, odef 4)) (oq 4).2.2) = some (none, σ6) := by rw [hk6.2]; exact c_kn (κ := κ) (T := T) (n := n + 3)
  have P7 : opf σ6 (some (φ d.2.1)) 6 4 (va_rf (some σ5.2.1)) = some σ7 := by rw [hS7, ← hk6.1]; exact opf_at f70 (by omega)
  have X2 : oF κ T (n + 4) 2 [va_rf (some σ7.2.1), va_rf (some (φ d.2.1)), va_rf (some σ4.2.1)] (onew σ7 (.inr (10, odef 10)) (oq 10).2.2) = some (none, σ8) := by rw [hS8]; exact c_sc2 (κ := κ) (T := T) (n := n + 3)
  have Pa : opf σ9 (some (φ (d.2.1 + 1))) 6 4 (va_rf (some k9)) = some σa := by rw [hSa]; exact opf_at fa0 (by omega)
  have X2' : oF κ T (n + 4) 2 [va_rf (some σa.2.1), va_rf (some (φ (d.2.1 + 1))), va_rf (some σ7.2.1)] (onew σa (.inr (10, odef 10)) (oq 10).2.2) = some (none, σb) := by rw [hSb]; exact c_sc2 (κ := κ) (T := T) (n := n + 3)
  rw [c_wk0 g1 ((g3 17 (by decide) (by decide)).trans rfl)]
  unfold oj_X0_walk_21
  rw [c_pl0 g1 ((g3 0 (by decide) (by decide)).trans rfl), ovi_i, obn_at, if_neg (by decide), if_neg (by decide), if_neg (by decide), if_neg (by decide), if_neg (by decide), if_pos rfl, oob_at hv, obn_at, show n + 5 = (n + 4) + 1 from rfl, oE_X0_walkMatch]
  unfold ob_X0_walkMatch
  rw [x8, ovi_i, obn_at, oob_at hv, obn_at, T1, orn_at, olet_at, f14, ovr_rf, obn_at, obn_at, R13, ocv_at, f12, ovr_rf, obn_at, oob_at hv2, obn_at, F1, orn_at, oob_at F1', obn_at, F2, ocv_at, olet_at, f14', ovr_rf, obn_at, obn_at, R13', ocv_at, f11, ovr_rf, obn_at, oob_at L5.1, obn_at, X0, orn_at, ogd_at oc5, olet_at, obn_at, XK, ocv_at, P7, obn_at, olet_at, f11a, ovr_rf, obn_at, oob_at L7n.1, obn_at, X0', orn_at, ogd_at oc7, obn_at, X2, ocv_at, f11b, ovr_rf, obn_at, oob_at L8.1, obn_at, X1, orn_at, ogd_at oc8, f9, ovr_rf, obn_at, orn_as, q91, orn_at, Pa, obn_at, olet_at, f11c, ovr_rf, obn_at, oob_at Lan.1, obn_at, X1', orn_at, ogd_at oca, obn_at, X2', ocv_at, f13, ovr_rf, obn_at, oob_at hvb, obn_at, H1, orn_at, oob_at H1', obn_at, H2, ocv_at, orn_at]
  have ag5 : gAg σ Ψ Ψ4 := T4.tr agA T5.2.2.2
  have ag6 : gAg σ Ψ Ψ6 := ag5.tr q64 kp5.2.2.2
  have ag9 : gAg σ Ψ Ψ9 := ag6.tr q94 kp8.2.2.2
  have mv : ∀ u, u ∈ (tl ++ wW a ++ [d.2.1] ++ [d.2.1 + 1]) ++ wW b → u ∈ tl ++ wW (.inner 19 d z a b) := fun u hu => by
    rcases List.mem_append.mp hu with w | w
    · rcases List.mem_append.mp w with w | w
      · rcases List.mem_append.mp w with w | w
        · rcases List.mem_append.mp w with w | w
          · exact List.mem_append_left _ w
          · exact List.mem_append_right _ (List.mem_append_left _ w)
        · rw [List.mem_singleton.mp w]; exact List.mem_append_right _ m0
      · rw [List.mem_singleton.mp w]; exact List.mem_append_right _ m1
    · exact List.mem_append_right _ (List.mem_append_right _ (List.mem_append_right _ w))
  refine ⟨σd, kW, Ψd, Lsd, lnd, ctd, csd, rfl, KW, H3.dn mv, ⟨ag9.tr H6 kpb.2.2.2, fun q hq => ?_⟩, ⟨kpb.tr (H7.mo (fun x ⟨u, u1, u2, u3⟩ => ⟨u, mv u u1, fun w => u2 (tlt u w), u3⟩)), ?_⟩, fun w hw => H9 w (F9 w (T7 w hw)), ?_⟩
  · rcases H6' q hq with w | w
    · rcases F6' q (kf q w) with w | w
      · exact (T4' q w).imp id (fun w => by omega)
      · exact Or.inr (by omega)
    · exact Or.inr (by omega)
  · exact (((T6.w7.tr s2'.w7).tr (F8.mo (by omega) (by omega))).tr ((s5.w7.tr q67.w7).tr (s7.w7.tr s8.w7))).tr ((q97.w7.tr (sa.w7.tr sb.w7)).tr (H8.mo (by omega) (Nat.le_refl _)))
  · obtain ⟨q1, q2, q3⟩ := ((T8.tr c2).tr (F10.tr c5)).tr (((q68.tr (c7.tr c8)).tr (q98.tr (ca.tr cb))).tr H10)
    refine ⟨q1, Nat.le_trans q2 (Nat.le_of_eq ?_), Nat.le_trans q3 (Nat.le_of_eq ?_)⟩
    · simp only [wS, wT]; omega
    · simp only [wS, wT]; omega
end CWM
