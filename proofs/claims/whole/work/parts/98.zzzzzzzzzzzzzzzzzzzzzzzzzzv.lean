/-! findDoubt(): each that must be SO is asked as the reading asks it -/
theorem sFa_bd {M : List (Nat × Int32)} {K : Nat} (hK : K ≤ 100000) (hn : sNi M) (hb : sBd K M) (h : sFa M = true) : M.length ≤ 2 ∧ ∀ q, q ∈ M → -2 ≤ q.2.toInt ∧ q.2.toInt ≤ 2 ∧ q.2.toInt ≠ 0 := by
  have nz : ∀ q, q ∈ M → q.2.toInt ≠ 0 := fun q hq => i32_ne0.mp (hn.2 q hq)
  rcases (sFa_iff M).mp h with ⟨h1, h2⟩ | h1 | ⟨h1, h2⟩
  · refine ⟨by omega, fun q hq => ?_⟩
    have := (jAbs_eq1 hK (hb q hq)).mp (h2 q hq)
    have := nz q hq
    omega
  · refine ⟨by omega, fun q hq => ?_⟩
    rw [List.length_eq_zero_iff.mp h1] at hq
    cases hq
  · refine ⟨by omega, fun q hq => ?_⟩
    have := (jAbs_lt2 hK (hb q hq)).mp (h2 q hq)
    have := nz q hq
    omega
theorem bE_ln {φ : Nat → Nat} {sl : Nat → Nat} {sl' : Nat → Nat} {Lc M : List (Nat × Int32)} (h : Lc.Perm (rMp φ M)) (hl : M.length ≤ 2) (hs : ∀ q, q ∈ M → sl (φ q.1) = sl' q.1) (pl : Int) (r : Nat) : bE (cmB (sMp sl Lc) pl r) (cmB (M.map (fun q => (sl' q.1, q.2.toInt))) pl r) := by
  have e : sMp sl (rMp φ M) = M.map (fun q => (sl' q.1, q.2.toInt)) := by
    unfold sMp rMp
    rw [List.map_map]
    refine List.map_congr_left (fun q hq => ?_)
    show (sl (φ q.1), q.2.toInt) = _
    rw [hs q hq]
  rw [← e]
  refine bE.eq (cmB_pm (h.map _) ?_ pl r)
  have := h.length_eq
  rw [List.length_map, this]
  unfold rMp
  rw [List.length_map]
  exact hl
section FD1
variable {κ : oKv} {T T0 cnt : Nat} {kk f fc pp ee R R6 : Nat → Int32} {L : List Nat} {nm : Nat → Option Nat} {φ : Nat → Nat} {Bb : Int} {B : Nat → Nat} {D : cDt} {lo : Nat} {V : oSt} {st : Nat} {l : Nat → Nat} {b0 : Nat} {Γ : uGm} {Ψ : kGh} {σG σ : oSt} {pa ph ta th : Nat} {Fc : Nat → Nat → Bool} {Sc : List sEn} {s : Option Nat} {Es : List (gN × Nat)}
/-- what is wanted of each that must be SO -/
def fdF (T cnt : Nat) (kk pp ee f R R6 : Nat → Int32) (L : List Nat) (Γ : uGm) (Bb : Int) (Hm : Nat) (x : gNd) : Prop := (nGd T cnt kk pp ee f R L Γ Bb x ∧ x.2.2.1 ≤ 3) ∧ (∀ y A, (y, A) ∈ scN x.1 → gMs (gSy A) = true) ∧ ((((scC x.1).map (fun c => cdW c.1)).sum + 2 ≤ 12 ∧ (scN x.1).length + 1 ≤ 13) ∧ (x.2.2.1 = 0 → ((scC x.1).map (fun c => cdW c.1)).sum + tAt x.2.2.2.1 ≤ 12 ∧ tHt x.2.2.2.1 < Hm)) ∧ (1 < Hm ∧ ∀ c, c ∈ scC x.1 → cdH c.1 < Hm) ∧ (∀ y A, (y, A) ∈ scN x.1 → (R6 (Γ.1 y) = 0 ↔ yK (gSy A) = 2)) ∧ (x.2.2.1 ≠ 0 → sNw T f pp ee x.2.2.2.2.1)
set_option maxHeartbeats 2000000 in
/-- **one that must be SO** -/
theorem fd_one {N Hm ca len W0 b1 j o m : Nat} {cl0 fa0 : Int32} {fo : Nat → Int64} {rd : Int32} {wk : Option Nat} {ps : Int32} {P Tr : List (Nat × Bool)} {x : gNd} (W : wkH T T0 f fc pp ee R L nm φ Bb lo b0 V σG Ψ pa ph ta th) (h0L : 0 ∉ L) (hT : 100200 ≤ T) (hN : Hm + 60 ≤ N) (hS : scR st l b0 Γ.2.2.1 Γ.2.2.2.1 Ψ σG (nCl κ T T0 kk pp ee f fc B D V nm lo) Sc s x.1 Es) (hNR : nRl κ T T0 kk pp ee f fc B D V nm lo m x.2) (hx : fdF T cnt kk pp ee f R R6 L Γ Bb Hm x) (hR0 : R6 1500 = 0) (hf : wFr Ψ.2.2.1 pa ph ta th σG σ) (hD : wkD st l b0 Ψ.2.2.1 σG σ Fc) (hs : ∀ w, ¬ Ψ.2.2.1 w → ∀ i, Fc w i = true) (J : jSt σ j o ca pa ph ta th len W0 b1 cl0 fa0 fo rd wk ps P Tr) (hl : len ≤ 201600) (hfr : ∀ q, σ.2.1 ≤ q → σ.1 q = none) (hs2 : σ.2.1 < T) : ∃ nd fs v σ' ca' len' W' f' fa' ps' P' Tr', (lo ≤ m ∧ V.1 m = some (.inr (7, fs)) ∧ fs[3]? = some (.int (pp x.2.1)) ∧ fs[17]? = some (.ref nd)) ∧ oF κ T (N + 1) 64 [va_rf (some j), va_rf s, va_rf (some nd)] σ = some (some (.int v), σ') ∧ jSt σ' j o ca' pa ph ta th len' W' 0 1 fa' f' (rd + 1) none ps' P' Tr' ∧ jKx (fun _ => False) pa ph ta th σ σ' ∧ (gMo len len' σ σ' ∧ len' ≤ 201600) ∧ ((v = 1 ∧ ∀ y, y ∈ gN2 x → nSo T f pp ee R R6 (fun kp => Fc (Ψ.2.1 kp)) Γ y) ∨ (v = 0 ∧ ∃ y, y ∈ gN2 x ∧ ¬ nSo T f pp ee R R6 (fun kp => Fc (Ψ.2.1 kp)) Γ y)) := by
  obtain ⟨⟨⟨hq, ⟨qL, q12⟩, q0, qn⟩, hk3⟩, hmN, ⟨⟨hA2, h13⟩, hA0⟩, ⟨hH1, hHm⟩, hR6, hNw⟩ := hx
  obtain ⟨lo1, fs, nd, ⟨hlo, hlm⟩, hfs, k0, k12, k3⟩ := hNR
  have hJ := W.1.1
  have hblo := W.1.2
  have hWQ := W.2.2.1
  have hJ' : pa < lo ∧ ph < lo ∧ ta < lo ∧ th < lo := ⟨by omega, by omega, by omega, by omega⟩
  obtain ⟨w7, w8, w8', w8''⟩ := W.2.2.2.2.1
  obtain ⟨hfc, hsp⟩ := W.2.2.2.1
  obtain ⟨ti, ti1, ti2⟩ := ti_ex w8 w8' w8''
  have eS : (scN x.1).map Prod.fst = Es.map Prod.fst := hS.nm Sc s x.1 Es
  have n2 := hS.nd Sc s x.1 Es
  have slE : ∀ y a, (y, a) ∈ Es → slO (Es.map Prod.snd) a = gSl ((scN x.1).map Prod.fst) y := fun y a h => by
    rw [slot_eq Es (by rw [← eS]; exact hq.1) n2 y a h, eS]
  have inE : ∀ u, Sum.inl u ∈ (scN x.1).map Prod.fst → (Sum.inl u, φ u) ∈ Es := fun u hu => by
    rw [eS] at hu
    obtain ⟨p, p1, p2⟩ := List.mem_map.mp hu
    have p3 : p.2 = φ u := by
      rw [hS.to Sc s x.1 Es p p1 u p2, p2]; exact W.2.2.2.2.2.2.2 u
    rw [← p2, ← p3]; exact p1
  have vJσ : vJ lo V σ := W.2.1.1.wf hf hJ' hWQ W.2.1.2.2
  have vJb : ∀ σ1, jKb pa ph ta th σ σ1 → vJ lo V σ1 := fun σ1 k => vJσ.jb k hJ'
  have kpb : ∀ σ0, jKp pa ph ta th σ σ0 → jKb pa ph ta th σ σ0 := fun σ0 k => ⟨fun x cc e q _ _ => k.1 x cc e q, fun x fs e => ⟨fs, k.1 _ _ e ⟨by show (4 : Nat) ≠ 3; decide, by show (4 : Nat) ≠ 8; decide⟩, rfl, fun _ _ => rfl⟩, fun x fs e => ⟨fs, k.1 _ _ e ⟨by show (6 : Nat) ≠ 3; decide, by show (6 : Nat) ≠ 8; decide⟩, rfl, fun _ _ _ => rfl⟩, k.2.1, k.2.2⟩
  obtain ⟨env, henv⟩ : ∃ env, env = x.2.2.2.2.2.1 := ⟨_, rfl⟩
  have hnm : ∀ u, u ∈ env → nm u = some (φ u) := fun u hu => (w7 u (qL u (by rw [← henv]; exact hu))).1
  have hφ' : ∀ u v, u ∈ env → v ∈ env → φ u = φ v → u = v := fun u v hu hv => w8 u v (qL u (by rw [← henv]; exact hu)) (qL v (by rw [← henv]; exact hv))
  have hns : ∀ w y, nR fc pp ee nm env w = some y → lo ≤ y := fun w y e => by
    rw [nR_of hfc hnm] at e
    cases e' : nFind f pp ee env w with
    | none => rw [e'] at e; cases e
    | some u =>
      rw [e'] at e
      have e : some (φ u) = some y := e
      injection e with e
      rw [← e]
      exact (w7 u (qL u (by rw [← henv]; exact nF_mem e'))).2.1
  by_cases c0 : x.2.2.1 = 0
  · -- a C
    obtain ⟨⟨cb, cnw, n0, cwf⟩, hct⟩ := k0 c0
    have hcl : nCl κ T T0 kk pp ee f fc B D V nm lo nd (.inl (x.2.2.2.1, x.2.2.2.2.2.1)) := ⟨⟨cb, cnw, n0, cwf⟩, lo1, hlo, hct⟩
    have hgq : gCq T cnt kk pp ee f R L Bb ((scN x.1).map Prod.fst) (.inl (x.2.2.2.1, x.2.2.2.2.2.1)) := (q0 c0).2.2.2.2.2.1 (.inl (x.2.2.2.1, x.2.2.2.2.2.1), false) (List.mem_cons_self ..)
    obtain ⟨p1, p2, p3, p4, p5, p6, p7⟩ := id hgq
    have so : cSoJ T0 pp ee fc (nR fc pp ee nm env) (fun x' => ∃ u, Sum.inl u ∈ (scN x.1).map Prod.fst ∧ x' = φ u) Bb x.2.2.2.1 := by
      rw [henv]
      exact cSoJ_of hfc (by rw [← henv]; exact hnm) (by rw [← henv]; exact hφ') hsp p2 _ p3 p5 cnw
    rw [← henv] at hct
    obtain ⟨rt, rt2⟩ := (cCt_rt (lo := lo) hlo (fun y hy => by
      obtain ⟨u, u1, rfl⟩ := hy
      exact (w7 u (hq.2.2.2.1 u u1)).2.1) _ false _ _ _ cwf so hct).1 rfl
    have hmt : ¬ mtN V nd := fun z => by
      obtain ⟨gs, k, r1, r2, r3, r4⟩ := id rt
      obtain ⟨su, pl, cd, z1⟩ := id z
      rw [r2] at z1
      injection z1 with z1; injection z1 with z1; injection z1 with _ z1
      have : k = 403 := by
        rw [z1] at r3
        injection r3 with r3; injection r3 with r3
        exact r3.symm
      exact (r4 this).2 z
    have cm := cd_m (sl := slO (Es.map Prod.snd)) (sl' := gSl ((scN x.1).map Prod.fst)) hfc hsp w7 w8 ti1 (fun u hu => slE _ _ (inE u hu)) _ nd hcl hgq
    have ifo : ∀ σ1 y, vJ lo V σ1 → ifR lo V y → ifO σ1 y true := fun σ1 y hv hr => by
      obtain ⟨gs, k, r1, r2, r3, r4⟩ := hr
      obtain ⟨hs', h1, h2⟩ := hv.nx r1 r2
      refine ⟨hs', k, h1, (h2 0 (by decide) (by decide)).trans r3, ?_⟩
      by_cases c : k = 403
      · obtain ⟨⟨su, na, tb, cap, L', pl, s1, s2, s3, s4, s5⟩, -⟩ := r4 c
        exact Or.inr ⟨c, su, na, tb, cap, L', pl, (h2 19 (by decide) (by decide)).trans s1, hv.sm s2 s3 s5, s4.symm⟩
      · exact Or.inl ⟨c, rfl⟩
    have hF : ∀ σ0, jKp pa ph ta th σ σ0 → oF κ T N 39 [va_rf (some nd)] σ0 = some (some (.int 1), σ0) := fun σ0 k => by
      have hv := vJb σ0 (kpb σ0 k)
      obtain ⟨n', rfl⟩ : ∃ n', N = n' + 4 := ⟨N - 4, by omega⟩
      obtain ⟨gs, kd, r1, r2, r3, r4⟩ := id rt
      obtain ⟨hs', h1, h2⟩ := hv.nx r1 r2
      by_cases c : kd = 302
      · obtain ⟨li, q, g', l1, ⟨dd, cap, mc, l2, l3, l4, l5⟩, ⟨l6, l6'⟩, l7⟩ := rt2 gs r2 (by rw [r3, c])
        have q31 : q < 2 ^ 31 := by
          have := kN_kD x.2.2.2.1
          have : kD x.2.2.2.1 ≤ 1200 := p7
          omega
        have dlo : lo ≤ dd := by
          rcases l3 with z | ⟨z1, z2⟩
          · exact Nat.le_trans hlo z.1
          · rcases l2.2.1 with ⟨z, -⟩ | ⟨z, -⟩
            · omega
            · rw [z2] at z; cases z
        have hli := hv.ls l2 (Nat.le_trans hlo l4.1) dlo (by omega) (fun i b hi e => by
          obtain ⟨y, y1, gs', k', y2, -⟩ := l7 i hi
          rw [y1] at e
          injection e with e
          rw [← e]; exact y2)
        have ol : oLs σ0 (some li) q g' := hli.o q31
        obtain ⟨r, rr1, rr2⟩ := c_if2 (κ := κ) (T := T) (n := n') (b := fun _ => true) h1 ((h2 0 (by decide) (by decide)).trans (by rw [r3, c])) ((h2 18 (by decide) (by decide)).trans l1) ol (fun i hi => by
          obtain ⟨y, y1, y2⟩ := l7 i hi
          exact ⟨y, y1, ifo σ0 y hv y2⟩) (by
            have := kN_kD x.2.2.2.1
            have : kD x.2.2.2.1 ≤ 1200 := p7
            omega)
        rw [rr1, rr2.mpr (fun _ _ => rfl)]
        rfl
      · have := c_if1 (κ := κ) (T := T) (n := n' + 2) (ifo σ0 nd hv rt) (fun fs' e z => by
          rw [h1] at e
          injection e with e; injection e with e; injection e with _ e
          rw [← e, h2 0 (by decide) (by decide), r3] at z
          injection z with z; injection z with z
          exact c z) (by omega)
        exact this
    obtain ⟨v, σ', ca', len', W', f', fa', ps', P', Tr', R1, J1, K1, G1, V1⟩ := fd_ask (κ := κ) (N := N) (Hm := Hm) (R6 := R6) (BR := (cdM T f pp ee R (gSl ((scN x.1).map Prod.fst)) (.inl (x.2.2.2.1, x.2.2.2.2.2.1))).2.2 false) W ti1 ti2 hT hN hS hq hmN (a := tAt x.2.2.2.1) (hA0 c0).1 h13 hHm hR0 hR6 hf hD hs J hl hfr hs2 (fun σ1 k hn => (sc_cd (X := fun _ => False) W ti1 hS hq hf (fun x z => z.elim) k hn hcl hgq).2.2.1 Hm (hA0 c0).2) (cm.2 false) cm.1 hmt hF
    have e2 : gN2 x = [(x, 0)] := by
      unfold gN2
      rw [if_neg (by omega), c0]
    have eq : nSo T f pp ee R R6 (fun kp => Fc (Ψ.2.1 kp)) Γ (x, 0) ↔ ¬ exB ((cdM T f pp ee R (gSl ((scN x.1).map Prod.fst)) (.inl (x.2.2.2.1, x.2.2.2.2.2.1))).2.2 false) (exL (qWy T f pp ee R x.1) (kFe (fun _ => True))) (qLm (fun kp => Fc (Ψ.2.1 kp)) Γ R6 x.1 none) [] := by
      unfold nSo
      rw [if_pos rfl]
      exact Iff.rfl
    refine ⟨nd, fs, v, σ', ca', len', W', f', fa', ps', P', Tr', ⟨hlm, hfs⟩, R1, J1, K1, G1, ?_⟩
    rw [e2]
    rcases V1 with ⟨v1, v2⟩ | ⟨v1, v2⟩
    · exact Or.inl ⟨v1, fun y hy => by rw [List.mem_singleton.mp hy]; exact eq.mpr v2⟩
    · exact Or.inr ⟨v1, _, List.mem_singleton.mpr rfl, fun z => (eq.mp z) v2⟩
  · -- a line
    obtain ⟨⟨hpO, hsG, hrW⟩, hu3, hkd⟩ := qn c0
    have hnw := hNw c0
    obtain ⟨M, hM⟩ : ∃ M, M = sLs (nFind f pp ee env) 1 x.2.2.2.2.1 [] := ⟨_, rfl⟩
    have Mok := sLs_ok (cnt := cnt) (nFind f pp ee env) (fun w u e => nF_mem e) (by rw [henv]; exact q12) hsG (p2 := []) (show sGd cnt [] from ⟨fun p hp => (by cases hp), Nat.zero_le _⟩)
    have Mok : sNi M ∧ rIn (· ∈ env) M ∧ M.length ≤ 12 ∧ sBd 3000 M := by rw [hM]; exact Mok
    obtain ⟨Mn, Mi, -, Mb⟩ := Mok
    have lnS : sL (nR fc pp ee nm env) x.2.2.2.2.1 = rMp φ M := by rw [hM]; exact ln_s hfc hnm hφ'
    have plE : (nLs T f pp ee 1 x.2.2.2.2.1 0) = sPl T f pp ee x.2.2.2.2.1 := nLs_s hnw
    have li12 : ∀ kd, kd ≠ 3 → nLi (nFind f pp ee x.2.2.2.2.2.1) kd x.2.2.2.2.2.2 x.2.2.2.2.1 = M := fun kd hk => by
      unfold nLi
      rw [if_neg hk, hM, henv]
    have nSoE : ∀ kd, kd ≠ 0 → (nSo T f pp ee R R6 (fun kp => Fc (Ψ.2.1 kp)) Γ (x, kd) ↔ sFa (nLi (nFind f pp ee x.2.2.2.2.2.1) kd x.2.2.2.2.2.2 x.2.2.2.2.1) = true ∧ ¬ exB [(nLm kd ((nLi (nFind f pp ee x.2.2.2.2.2.1) kd x.2.2.2.2.2.2 x.2.2.2.2.1).map (fun q => (gSl ((scN x.1).map Prod.fst) (.inl q.1), q.2.toInt))) (sPl T f pp ee x.2.2.2.2.1).toInt, [])] (exL (qWy T f pp ee R x.1) (kFe (fun _ => True))) (qLm (fun kp => Fc (Ψ.2.1 kp)) Γ R6 x.1 none) []) := fun kd hk => by
      unfold nSo
      rw [if_neg hk, exB.one, ← plE]
      exact Iff.rfl
    have covM : ∀ kd M', (kd = x.2.2.1 ∨ (x.2.2.1 = 3 ∧ kd = 2)) → nLi (nFind f pp ee x.2.2.2.2.2.1) kd x.2.2.2.2.2.2 x.2.2.2.2.1 = M' → sFa M' = true → ∀ q, q ∈ M' → Sum.inl q.1 ∈ (scN x.1).map Prod.fst := fun kd M' h1 h2 h3 q hq' => (hkd kd h1 (by rw [h2]; exact h3)).1 q (by rw [h2]; exact hq')
    have plB : ∀ kd M', (kd = x.2.2.1 ∨ (x.2.2.1 = 3 ∧ kd = 2)) → nLi (nFind f pp ee x.2.2.2.2.2.1) kd x.2.2.2.2.2.2 x.2.2.2.2.1 = M' → sFa M' = true → (-1125899906842624 ≤ (sPl T f pp ee x.2.2.2.2.1).toInt ∧ (sPl T f pp ee x.2.2.2.2.1).toInt ≤ 1125899906842624) ∧ -Bb ≤ 2 * (sPl T f pp ee x.2.2.2.2.1).toInt - 2 ∧ 2 * (sPl T f pp ee x.2.2.2.2.1).toInt + 2 ≤ Bb := fun kd M' h1 h2 h3 => by
      have := (hkd kd h1 (by rw [h2]; exact h3)).2
      rw [plE] at this
      exact this
    have slM : ∀ M' : List (Nat × Int32), (∀ q, q ∈ M' → Sum.inl q.1 ∈ (scN x.1).map Prod.fst) → ∀ q : Nat × Int32, q ∈ M' → slO (Es.map Prod.snd) (φ q.1) = gSl ((scN x.1).map Prod.fst) (.inl q.1) := fun M' h q hq' => slE _ _ (inE _ (h q hq'))
    by_cases c3 : x.2.2.1 = 3
    · -- within bounds
      obtain ⟨w, l0, mk, al, su, sN, e1, eu, ⟨pa', na, tb, cap, pc, s1, s2, s3, o1, o2, o3, o4, o5⟩, okn, pl, li, g, n1, n2', bs, na2, tb2, cap2, a1, ⟨dd, capL, mc, a2, a2', a2'', -⟩, a3, a4, a5, a6, a7, o6, o7, o8⟩ := k3 c3
      rw [e1, hsp] at s3 a7
      rw [← henv] at s3 a7 a5 a6 a1 eu
      have hu : nFind f pp ee env w = some x.2.2.2.2.2.2 := by
        cases e : nFind f pp ee env w with
        | some u =>
          unfold gNu at eu
          rw [e] at eu
          rw [eu]; rfl
        | none =>
          unfold gNu at eu
          rw [e] at eu
          have eu : x.2.2.2.2.2.2 = 0 := eu
          exact absurd (by rw [← eu]; exact qL _ (hu3 c3)) h0L
      obtain ⟨M3, hM3⟩ : ∃ M3, M3 = sAdd M x.2.2.2.2.2.2 (-1) := ⟨_, rfl⟩
      have pm3 : (sNo (nR fc pp ee nm env w) (-1) (sAll 1 (sL (nR fc pp ee nm env) x.2.2.2.2.1) [])).Perm (rMp φ M3) := by
        rw [hM3, hM]
        exact ln_3 hfc hnm hφ' hu
      obtain ⟨L3, hL3⟩ : ∃ L3, L3 = sNo (nR fc pp ee nm env w) (-1) (sAll 1 (sL (nR fc pp ee nm env) x.2.2.2.2.1) []) := ⟨_, rfl⟩
      rw [← hL3] at pm3 a7
      have p0 : (0 + (1 : Int32).toInt64 * sPl T f pp ee x.2.2.2.2.1 : Int64) = sPl T f pp ee x.2.2.2.2.1 := by
        rw [show ((1 : Int32).toInt64 : Int64) = 1 from rfl]
        grind
      rw [p0] at a7
      rw [lnS] at s3
      have ue : x.2.2.2.2.2.2 ∈ env := nF_mem hu
      have M3i : rIn (· ∈ env) M3 := by rw [hM3]; exact sAdd_in (E := (· ∈ env)) ue Mi _
      have M3n : sNi M3 := by rw [hM3]; exact Mn.add _ _
      have M3b : sBd 3001 M3 := by rw [hM3]; exact Mb.add (by decide) (by decide)
      have l2i := li12 2 (by decide)
      have l3i : nLi (nFind f pp ee x.2.2.2.2.2.1) 3 x.2.2.2.2.2.2 x.2.2.2.2.1 = M3 := by
        unfold nLi
        rw [if_pos rfl, ← henv, ← hM, hM3]
      have ho : lo ≤ su ∧ lo ≤ na ∧ lo ≤ tb := ⟨Nat.le_trans hlo o3.1, Nat.le_trans hlo o4.1, Nat.le_trans hlo o5.1⟩
      have ho2 : lo ≤ bs ∧ lo ≤ na2 ∧ lo ≤ tb2 := ⟨Nat.le_trans hlo o6.1, Nat.le_trans hlo o7.1, Nat.le_trans hlo o8.1⟩
      have hNl : ∀ q, q ∈ rMp φ M → lo ≤ q.1 := fun q hq' => by
        obtain ⟨p, p1, rfl⟩ := List.mem_map.mp hq'
        exact (w7 _ (qL _ (by rw [← henv]; exact Mi p p1))).2.1
      have hN3 : ∀ q, q ∈ L3 → lo ≤ q.1 := fun q hq' => by
        obtain ⟨p, p1, rfl⟩ := List.mem_map.mp (pm3.subset hq')
        exact (w7 _ (qL _ (by rw [← henv]; exact M3i p p1))).2.1
      have e2 : gN2 x = [(x, 2), (x, 3)] := by
        unfold gN2
        rw [if_pos c3]
      have f3 : sFa L3 = sFa M3 := by rw [sFa_pm pm3, sFa_mp]
      have dlo : lo ≤ dd ∧ dd < V.2.1 := by
        rcases a2' with z | ⟨z1, z2⟩
        · exact ⟨Nat.le_trans hlo z.1, z.2.1⟩
        · rcases a2.2.1 with ⟨z, -⟩ | ⟨z, -⟩
          · omega
          · rw [z2] at z; cases z
      have g01 : ∀ i b, i < 2 → g i = some b → lo ≤ b := fun i b hi e => by
        have : i = 0 ∨ i = 1 := by omega
        rcases this with rfl | rfl
        · rw [a3] at e; injection e with e; rw [← e]; exact Nat.le_trans hlo a5.1.1
        · rw [a4] at e; injection e with e; rw [← e]; exact Nat.le_trans hlo a6.1.1
      have lsv : ∀ σ0, vJ lo V σ0 → cLs κ σ0 li dd capL 2 mc g 7 := fun σ0 hv => hv.ls a2 (Nat.le_trans hlo a2''.1) dlo.1 (by omega) g01
      have ifs : ∀ σ0, vJ lo V σ0 → ∃ r : Bool, oF κ T N 39 [va_rf (some nd)] σ0 = some (some (.int (if r = true then 1 else 0)), σ0) ∧ (r = true ↔ sFa M = true ∧ sFa M3 = true) := fun σ0 hv => by
        obtain ⟨n', rfl⟩ : ∃ n', N = n' + 4 := ⟨N - 4, by omega⟩
        obtain ⟨i1, -⟩ := cq_if hv hlo a5 s3 ho hNl
        obtain ⟨i2, -⟩ := cq_if hv hlo a6 a7 ho2 hN3
        rw [sFa_mp] at i1
        rw [f3] at i2
        obtain ⟨gs, g1, g2⟩ := hv.nx (Nat.le_trans hlo okn.1) a1
        obtain ⟨r, r1, r2⟩ := c_if2 (κ := κ) (T := T) (n := n') (b := fun i => if i = 0 then sFa M else sFa M3) g1 ((g2 0 (by decide) (by decide)).trans rfl) ((g2 18 (by decide) (by decide)).trans rfl) ((lsv σ0 hv).o (by decide)) (fun i hi => by
          have : i = 0 ∨ i = 1 := by omega
          rcases this with rfl | rfl
          · exact ⟨n1, a3, i1⟩
          · exact ⟨n2', a4, i2⟩) (by omega)
        refine ⟨r, r1, r2.trans ⟨fun z => ⟨z 0 (by decide), z 1 (by decide)⟩, fun z i hi => ?_⟩⟩
        have : i = 0 ∨ i = 1 := by omega
        rcases this with rfl | rfl
        · exact z.1
        · exact z.2
      by_cases cF : sFa M = true ∧ sFa M3 = true
      · obtain ⟨M2, Mc⟩ := sFa_bd (by decide) Mn Mb cF.1
        obtain ⟨M32, M3c⟩ := sFa_bd (by decide) M3n M3b cF.2
        have cov2 := covM 2 M (Or.inr ⟨c3, rfl⟩) l2i cF.1
        have cov3 := covM 3 M3 (Or.inl c3.symm) l3i cF.2
        have pb := plB 2 M (Or.inr ⟨c3, rfl⟩) l2i cF.1
        have mx := cq_mn (sl := slO (Es.map Prod.snd)) (ti := ti) (r := 4) a5 rfl (by decide) s3
        have my := cq_mn (sl := slO (Es.map Prod.snd)) (ti := ti) (r := 1) a6 rfl (by decide) a7
        have ex := mnV_eq mx
        have ey := mnV_eq my
        have va : V.1 dd = some (.inl (.object "java/lang/Object", capL, .inr (.inr (.inr (.inr g))))) := by
          rcases a2.2.1 with ⟨z, -⟩ | ⟨z, -⟩
          · omega
          · exact z
        have mn : mnR V (slO (Es.map Prod.snd)) ti 2 nd (([mnV V (slO (Es.map Prod.snd)) ti n1, mnV V (slO (Es.map Prod.snd)) ti n2'].map Prod.fst).sum, fun h => if true = h then brAll ([mnV V (slO (Es.map Prod.snd)) ti n1, mnV V (slO (Es.map Prod.snd)) ti n2'].map (fun E => E.2 h)) else brAny ([mnV V (slO (Es.map Prod.snd)) ti n1, mnV V (slO (Es.map Prod.snd)) ti n2'].map (fun E => E.2 h))) := ⟨_, a1, Or.inr (Or.inl ⟨true, li, dd, capL, 2, mc, g, [mnV V (slO (Es.map Prod.snd)) ti n1, mnV V (slO (Es.map Prod.snd)) ti n2'], rfl, rfl, a2.1, va, ⟨rfl, by decide⟩, (fun i D' hi => by
          match i with
          | 0 =>
            have hi : some (mnV V (slO (Es.map Prod.snd)) ti n1) = some D' := hi
            injection hi with hi
            exact ⟨n1, a3, by rw [← hi, ex]; exact mx⟩
          | 1 =>
            have hi : some (mnV V (slO (Es.map Prod.snd)) ti n2') = some D' := hi
            injection hi with hi
            exact ⟨n2', a4, by rw [← hi, ey]; exact my⟩
          | i + 2 => cases hi), rfl⟩)⟩
        have em := mnV_eq mn
        have w1 : (mnV V (slO (Es.map Prod.snd)) ti nd).1 = 2 := by
          rw [em]
          show (mnV V (slO (Es.map Prod.snd)) ti n1).1 + ((mnV V (slO (Es.map Prod.snd)) ti n2').1 + 0) = 2
          rw [ex, ey]
          rfl
        have wf : (mnV V (slO (Es.map Prod.snd)) ti nd).2 false = (mnV V (slO (Es.map Prod.snd)) ti n1).2 false ++ ((mnV V (slO (Es.map Prod.snd)) ti n2').2 false ++ []) := by
          rw [em]; rfl
        have wh : ∀ h, (mnV V (slO (Es.map Prod.snd)) ti nd).2 h = if true = h then brAll [(mnV V (slO (Es.map Prod.snd)) ti n1).2 h, (mnV V (slO (Es.map Prod.snd)) ti n2').2 h] else brAny [(mnV V (slO (Es.map Prod.snd)) ti n1).2 h, (mnV V (slO (Es.map Prod.snd)) ti n2').2 h] := fun h => by
          rw [em]; rfl
        have hmt : ¬ mtN V nd := fun ⟨su', pl', cd', z⟩ => by
          rw [a1] at z
          injection z with z; injection z with z; injection z with _ z
          have z0 := congrArg (fun l : List Value => l[0]?) z
          have z0 : some (Value.int 302) = some (Value.int 403) := z0
          injection z0 with z0; injection z0 with z0
          exact absurd z0 (by decide)
        obtain ⟨v, σ', ca', len', W', f', fa', ps', P', Tr', R1, J1, K1, G1, V1⟩ := fd_ask (κ := κ) (N := N) (Hm := Hm) (R6 := R6) (BR := [(nLm 2 (M.map (fun q => (gSl ((scN x.1).map Prod.fst) (.inl q.1), q.2.toInt))) (sPl T f pp ee x.2.2.2.2.1).toInt, [])] ++ ([(nLm 3 (M3.map (fun q => (gSl ((scN x.1).map Prod.fst) (.inl q.1), q.2.toInt))) (sPl T f pp ee x.2.2.2.2.1).toInt, [])] ++ [])) (nd := nd) W ti1 ti2 hT hN hS hq hmN (a := 2) (by omega) h13 hHm hR0 hR6 hf hD hs J hl hfr hs2 (fun σ1 k hn => by
          obtain ⟨H, rfl⟩ : ∃ H, Hm = H + 2 := ⟨Hm - 2, by omega⟩
          have hv := vJb σ1 k
          have jx := cq_j (κ := κ) (H := H) (ti := ti) hv hlo a5 (r := 4) rfl (by decide) s3 ho hNl hJ' (by rw [sFa_mp]; exact cF.1) (fun q hq' => by
            obtain ⟨p, p1, rfl⟩ := List.mem_map.mp hq'
            exact Mc p p1) (fun q hq' => by
            obtain ⟨p, p1, rfl⟩ := List.mem_map.mp hq'
            exact hn _ (List.mem_map.mpr ⟨_, inE _ (cov2 p p1), rfl⟩)) pb.1 pb.2
          have jy := cq_j (κ := κ) (H := H) (ti := ti) hv hlo a6 (r := 1) rfl (by decide) a7 ho2 hN3 hJ' (by rw [f3]; exact cF.2) (fun q hq' => by
            obtain ⟨p, p1, rfl⟩ := List.mem_map.mp (pm3.subset hq')
            exact M3c p p1) (fun q hq' => by
            obtain ⟨p, p1, rfl⟩ := List.mem_map.mp (pm3.subset hq')
            exact hn _ (List.mem_map.mpr ⟨_, inE _ (cov3 p p1), rfl⟩)) pb.1 pb.2
          obtain ⟨gs, g1, g2⟩ := hv.nx (Nat.le_trans hlo okn.1) a1
          refine ⟨gs, g1, by decide, Or.inr (Or.inl ⟨true, li, dd, capL, 2, mc, g, [(n1, 1), (n2', 1)], (g2 0 (by decide) (by decide)).trans rfl, (g2 18 (by decide) (by decide)).trans rfl, lsv σ1 hv, ⟨rfl, by decide⟩, ⟨by omega, by omega, by omega, by omega⟩, ?_, fun i y hi => ?_, rfl, wh⟩)⟩
          · have q1 := W.2.1.2.1
            have q2 := hf.2.2.2
            have q3 := k.2.2.2.2
            omega
          · match i with
            | 0 =>
              have hi : some (n1, 1) = some y := hi
              injection hi with hi
              rw [← hi]
              exact ⟨a3, jx⟩
            | 1 =>
              have hi : some (n2', 1) = some y := hi
              injection hi with hi
              rw [← hi]
              exact ⟨a4, jy⟩
            | i + 2 => cases hi) (by
          rw [wf]
          refine bE.ap ?_ (bE.ap ?_ (bE.rf []))
          · rw [ex]
            exact bE_ln (φ := φ) (sl := slO (Es.map Prod.snd)) (sl' := fun u => gSl ((scN x.1).map Prod.fst) (.inl u)) (List.Perm.refl _) M2 (slM M cov2) _ 1
          · rw [ey]
            exact bE_ln (φ := φ) (sl := slO (Es.map Prod.snd)) (sl' := fun u => gSl ((scN x.1).map Prod.fst) (.inl u)) pm3 M32 (slM M3 cov3) _ 4) w1 hmt (fun σ0 k => by
          obtain ⟨r, r1, r2⟩ := ifs σ0 (vJb σ0 (kpb σ0 k))
          rw [r1, r2.mpr cF]; rfl)
        have eq2 := nSoE 2 (by decide)
        have eq3 := nSoE 3 (by decide)
        rw [l2i] at eq2
        rw [l3i] at eq3
        refine ⟨nd, fs, v, σ', ca', len', W', f', fa', ps', P', Tr', ⟨hlm, hfs⟩, R1, J1, K1, G1, ?_⟩
        rw [e2]
        rw [exB.or, List.append_nil] at V1
        rcases V1 with ⟨v1, v2⟩ | ⟨v1, v2⟩
        · refine Or.inl ⟨v1, fun y hy => ?_⟩
          rcases List.mem_cons.mp hy with z | z
          · rw [z]; exact eq2.mpr ⟨cF.1, fun q => v2 (Or.inl q)⟩
          · rw [List.mem_singleton.mp z]; exact eq3.mpr ⟨cF.2, fun q => v2 (Or.inr q)⟩
        · refine Or.inr ⟨v1, ?_⟩
          rcases v2 with v2 | v2
          · exact ⟨(x, 2), List.mem_cons_self .., fun z => (eq2.mp z).2 v2⟩
          · exact ⟨(x, 3), List.mem_cons_of_mem _ (List.mem_singleton.mpr rfl), fun z => (eq3.mp z).2 v2⟩
      · obtain ⟨gs, g1, g2⟩ := vJσ.nx (Nat.le_trans hlo okn.1) a1
        have hU : suU κ σ b0 nd := ⟨gs, g1, Or.inr ⟨(g2 0 (by decide) (by decide)).trans rfl, li, dd, capL, 2, mc, g, (g2 18 (by decide) (by decide)).trans rfl, lsv σ vJσ, by omega, by
          have q1 := W.2.1.2.1
          have q2 := hf.2.2.2
          omega⟩⟩
        obtain ⟨σ', ca', len', W', f', fa', ps', P', Tr', R1, J1, K1, G1⟩ := fd_askU (κ := κ) (N := N) (Hm := Hm) W ti1 hT hN hS hq hmN (by omega) hHm hf hD hs J hl hfr hs2 hU (fun σ0 k => by
          obtain ⟨r, r1, r2⟩ := ifs σ0 (vJb σ0 (kpb σ0 k))
          cases r with
          | true => exact absurd (r2.mp rfl) cF
          | false => rw [r1]; rfl)
        refine ⟨nd, fs, 0, σ', ca', len', W', f', fa', ps', P', Tr', ⟨hlm, hfs⟩, R1, J1, K1, G1, Or.inr ⟨rfl, ?_⟩⟩
        rw [e2]
        by_cases c2 : sFa M = true
        · refine ⟨(x, 3), List.mem_cons_of_mem _ (List.mem_singleton.mpr rfl), fun z => cF ⟨c2, ?_⟩⟩
          have := ((nSoE 3 (by decide)).mp z).1
          rw [l3i] at this
          exact this
        · refine ⟨(x, 2), List.mem_cons_self .., fun z => c2 ?_⟩
          have := ((nSoE 2 (by decide)).mp z).1
          rw [l2i] at this
          exact this
    · -- one comparison
      have c12 : x.2.2.1 = 1 ∨ x.2.2.1 = 2 := by omega
      obtain ⟨l0, mk, al, su, sN, e1, ⟨pa', na, tb, cap, pc, s1, s2, s3, o1, o2, o3, o4, o5⟩, hcq⟩ := k12 c12
      rw [e1, hsp] at s3
      rw [← henv, lnS] at s3
      obtain ⟨r, hr, hr5, hrn, hrl⟩ : ∃ r, (if x.2.2.1 = 1 then (35 : Int32) else 301) = jRc r ∧ r ≤ 5 ∧ rNo r ≠ 5 ∧ ∀ ℓ pl, cmB ℓ pl (rNo r) = [(nLm x.2.2.1 ℓ pl, [])] := by
        rcases c12 with c | c
        · exact ⟨5, by rw [c]; rfl, by omega, by decide, fun ℓ pl => by rw [c]; rfl⟩
        · exact ⟨4, by rw [c]; rfl, by omega, by decide, fun ℓ pl => by rw [c]; rfl⟩
      have hcq : cCq B D lo1 V nd su x.2.2.2.2.2.1.length (if x.2.2.1 = 1 then 35 else 301) := hcq
      have lis := li12 x.2.2.1 c3
      have ho : lo ≤ su ∧ lo ≤ na ∧ lo ≤ tb := ⟨Nat.le_trans hlo o3.1, Nat.le_trans hlo o4.1, Nat.le_trans hlo o5.1⟩
      have hNl : ∀ q, q ∈ rMp φ M → lo ≤ q.1 := fun q hq' => by
        obtain ⟨p, p1, rfl⟩ := List.mem_map.mp hq'
        exact (w7 _ (qL _ (by rw [← henv]; exact Mi p p1))).2.1
      have e2 : gN2 x = [(x, x.2.2.1)] := by
        unfold gN2
        rw [if_neg c3]
      have ifs : ∀ σ0, vJ lo V σ0 → oF κ T N 39 [va_rf (some nd)] σ0 = some (some (.int (if sFa M = true then 1 else 0)), σ0) := fun σ0 hv => by
        obtain ⟨n', rfl⟩ : ∃ n', N = n' + 2 := ⟨N - 2, by omega⟩
        obtain ⟨i1, i2⟩ := cq_if hv hlo hcq s3 ho hNl
        rw [sFa_mp] at i1
        exact c_if1 i1 i2 (by omega)
      by_cases cF : sFa M = true
      · obtain ⟨M2, M3⟩ := sFa_bd (by decide) Mn Mb cF
        have cov := covM x.2.2.1 M (Or.inl rfl) lis cF
        have pb := plB x.2.2.1 M (Or.inl rfl) lis cF
        have em := mnV_eq (cq_mn (sl := slO (Es.map Prod.snd)) (ti := ti) hcq hr hr5 s3)
        have hmt : ¬ mtN V nd := fun ⟨su', pl', cd', z⟩ => by
          obtain ⟨-, pl2, z2⟩ := id hcq
          rw [z] at z2
          injection z2 with z2; injection z2 with z2; injection z2 with _ z2
          have z5 := congrArg (fun l : List Value => l[5]?) z2
          have z5 : some (Value.int 300) = some (Value.int (if x.2.2.1 = 1 then 35 else 301)) := z5
          injection z5 with z5; injection z5 with z5
          rcases c12 with c | c <;> rw [c] at z5 <;> exact absurd z5 (by decide)
        obtain ⟨v, σ', ca', len', W', f', fa', ps', P', Tr', R1, J1, K1, G1, V1⟩ := fd_ask (κ := κ) (N := N) (Hm := Hm) (R6 := R6) (BR := [(nLm x.2.2.1 (M.map (fun q => (gSl ((scN x.1).map Prod.fst) (.inl q.1), q.2.toInt))) (sPl T f pp ee x.2.2.2.2.1).toInt, [])]) (nd := nd) W ti1 ti2 hT hN hS hq hmN (a := 1) (by omega) h13 hHm hR0 hR6 hf hD hs J hl hfr hs2 (fun σ1 k hn => by
          obtain ⟨H, rfl⟩ : ∃ H, Hm = H + 1 := ⟨Hm - 1, by omega⟩
          refine cq_j (vJb σ1 k) hlo hcq hr hr5 s3 ho hNl hJ' (by rw [sFa_mp]; exact cF) (fun q hq' => ?_) (fun q hq' => ?_) pb.1 pb.2
          · obtain ⟨p, p1, rfl⟩ := List.mem_map.mp hq'
            exact M3 p p1
          · obtain ⟨p, p1, rfl⟩ := List.mem_map.mp hq'
            exact hn _ (List.mem_map.mpr ⟨_, inE _ (cov p p1), rfl⟩)) (by
          rw [em]
          show bE (cmB (sMp (slO (Es.map Prod.snd)) (rMp φ M)) _ (rNo r)) _
          rw [← hrl]
          exact bE_ln (φ := φ) (sl := slO (Es.map Prod.snd)) (sl' := fun u => gSl ((scN x.1).map Prod.fst) (.inl u)) (List.Perm.refl _) M2 (slM M cov) _ _) (by rw [em]) hmt (fun σ0 k => by rw [ifs σ0 (vJb σ0 (kpb σ0 k)), if_pos cF])
        have eq := nSoE x.2.2.1 c0
        rw [lis] at eq
        refine ⟨nd, fs, v, σ', ca', len', W', f', fa', ps', P', Tr', ⟨hlm, hfs⟩, R1, J1, K1, G1, ?_⟩
        rw [e2]
        rcases V1 with ⟨v1, v2⟩ | ⟨v1, v2⟩
        · exact Or.inl ⟨v1, fun y hy => by rw [List.mem_singleton.mp hy]; exact eq.mpr ⟨cF, v2⟩⟩
        · exact Or.inr ⟨v1, _, List.mem_singleton.mpr rfl, fun z => (eq.mp z).2 v2⟩
      · obtain ⟨-, pl2, z2⟩ := id hcq
        obtain ⟨gs, g1, g2⟩ := vJσ.nx (Nat.le_trans hlo hcq.1.1) z2
        have cF' : sFa M = false := by
          cases e : sFa M with
          | true => exact absurd e cF
          | false => rfl
        have hU : suU κ σ b0 nd := ⟨gs, g1, Or.inl ⟨(g2 0 (by decide) (by decide)).trans rfl, su, na, tb, cap, rMp φ M, _, r, (g2 19 (by decide) (by decide)).trans rfl, vJσ.sm s3 ho hNl, ⟨by omega, by omega⟩, by rw [sFa_mp]; exact cF', by
          unfold rMp
          rw [List.length_map]
          cases M with
          | nil => exact absurd rfl cF
          | cons _ _ => exact Nat.succ_pos _, ((g2 5 (by decide) (by decide)).trans rfl).trans (by rw [← hr]; rfl), hr5, hrn⟩⟩
        obtain ⟨σ', ca', len', W', f', fa', ps', P', Tr', R1, J1, K1, G1⟩ := fd_askU (κ := κ) (N := N) (Hm := Hm) W ti1 hT hN hS hq hmN (by omega) hHm hf hD hs J hl hfr hs2 hU (fun σ0 k => by rw [ifs σ0 (vJb σ0 (kpb σ0 k)), if_neg cF])
        refine ⟨nd, fs, 0, σ', ca', len', W', f', fa', ps', P', Tr', ⟨hlm, hfs⟩, R1, J1, K1, G1, Or.inr ⟨rfl, (x, x.2.2.1), by rw [e2]; exact List.mem_singleton.mpr rfl, fun z => ?_⟩⟩
        have := ((nSoE x.2.2.1 c0).mp z).1
        rw [lis] at this
        exact cF this
end FD1
