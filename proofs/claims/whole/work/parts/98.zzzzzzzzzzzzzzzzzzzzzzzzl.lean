/-! the class's gather(): INPUTS -/
section GAI
variable {κ : oKv} {T T0 n : Nat} {st : Nat} {l : Nat → Nat} {b0 : Nat} {nq : tQ → Int} {xs : List tQ} {pg ch ty : Nat} {cf : List Value} {At : Nat → Nat} {mo : Nat} {g : gG} {ρ : Nat → tY} {lv ov : Int32} {CN : Nat → gCd → Prop} {NR : Nat → (Nat × Nat × tT × List tP × List Nat × Nat) → Prop} {V : oSt} {lo g0 : Nat} {nm : Nat → Option Nat} {tE tN : Nat → tY} {φ : Nat → Nat} {Us : List Nat} {kk pp ee f fc : Nat → Int32} {B : Nat → Nat} {D : cDt} {Γ : uGm} {C Bd : Int} {rt : Nat → gTm} {M : Nat} {CB : List Nat → List (gCd × Bool) → Prop} {NB : List Nat → List (gCd × Bool) → (Nat × Nat × tT × List tP × List Nat × Nat) → Prop} {cnt : Nat} {pf : List Value} {tp dl cap len : Nat} {mc : Int32} {gl : Nat → Option Nat} {is : List (Nat × Nat)} {ln : Nat → Nat} {ct : Nat → Nat → Option Nat} {cs : Nat} {Ls : List Nat}
theorem c_gaI (hcf : cfO pg ty st cf) (hpp : ∀ u v, u < v → v < cnt → pp u < pp v) (hp : lo ≤ pg ∧ V.1 pg = some (.inr (9, pf)) ∧ pf[9]? = some (.int (nI is.length)) ∧ pf[2]? = some (.ref tp)) (hL : cLs κ V tp dl cap len mc gl 6) (hlo : lo ≤ tp ∧ (0 < len → lo ≤ dl)) (hg : ∀ j b, j < len → gl j = some b → lo ≤ b) (hlen : is.length ≤ len) (h6 : is.length ≤ 6 ∧ len < 2 ^ 31) : ∀ (r : List (Nat × Nat)) (b t : Nat) (env tl : List Nat) (sc : List gEn) (Sc : List sEn) (os : Option Nat) (Es : List (gN × Nat)) (s : gSt) (Ψ : kGh) (σ : oSt), gwS κ st l b0 nq xs pg ch ty cf At mo g ρ lv ov CN NR pp V lo g0 nm tN φ Us 0 tl Ψ Ls σ ln ct cs s → gwE st l b0 nq xs Ψ σ CN (dnO g0 φ tl) nm tN lo Ls env sc Sc os Es s.1 → (∀ u, u ∈ env → u ∈ tl) → (∀ u, u ∈ tl → u ∈ Us) → (r.map Prod.fst).Nodup → (∀ y, y ∈ r → y.1 ∈ Us ∧ y.1 ∉ tl ∧ tN y.1 = yB y.2) → (∀ k y, r[k]? = some y → gl (b + k) = some (φ y.1)) → b + r.length = is.length → is.length < b + t → ∃ σ' Ψ' Sc' os' Es', ol_X0_gather_4 T (oF κ T (n + 4)) κ t (some ch) os (nI b) σ = ol_X0_gather_4 T (oF κ T (n + 4)) κ (t - r.length) (some ch) os' (nI is.length) σ' ∧ gwS κ st l b0 nq xs pg ch ty cf At mo g ρ lv ov CN NR pp V lo g0 nm tN φ Us 0 (tl ++ r.map Prod.fst) Ψ' Ls σ' ln ct cs (gIs r sc s).2 ∧ gwE st l b0 nq xs Ψ' σ' CN (dnO g0 φ (tl ++ r.map Prod.fst)) nm tN lo Ls (env ++ r.map Prod.fst) (gIs r sc s).1 Sc' os' Es' (gIs r sc s).2.1 ∧ (gAg σ Ψ Ψ' ∧ Ψ'.2.2.2 = Ψ.2.2.2) ∧ (gKp st l b0 (fun x => ∃ u, u ∈ r.map Prod.fst ∧ x = φ u) σ σ' ∧ ∀ i j, wK7 pp i j σ σ') ∧ Sc'.length = Sc.length + r.length ∧ gwC xs.length Ls Ls cs cs σ σ' (2 * r.length) (19 * r.length)
  | [], b, t, env, tl, sc, Sc, os, Es, s, Ψ, σ, h, hE, _, _, _, _, _, hb, _ => by
    have hb : b = is.length := by rw [← hb]; rfl
    refine ⟨σ, Ψ, Sc, os, Es, by rw [hb]; rfl, by rw [List.map_nil, List.append_nil]; exact h, by rw [List.map_nil, List.append_nil, List.append_nil]; exact hE, ⟨gAg.rf _ _, rfl⟩, ⟨gKp.rf, fun _ _ => wK7.rf⟩, rfl, Nat.le_refl _, ?_, ?_⟩
    · show _ ≤ _ + 0; omega
    · show _ ≤ _ + 0; omega
  | y :: r, b, t, env, tl, sc, Sc, os, Es, s, Ψ, σ, h, hE, het, htU, nd, hr, hgl, hb, ht => by
    have hbl : b + (r.length + 1) = is.length := hb
    obtain ⟨t, rfl⟩ : ∃ t', t = t' + 1 := ⟨t - 1, by omega⟩
    obtain ⟨yU, yt, yT⟩ := hr y (List.mem_cons_self ..)
    have ye : y.1 ∉ env := fun z => yt (het _ z)
    obtain ⟨nd1, nd2⟩ := List.nodup_cons.mp (show (y.1 :: r.map Prod.fst).Nodup from nd)
    have hfr := h.2.1.1.1
    have eU : ∀ v, v ∈ env → v ∈ Us := fun v hv => htU v (het v hv)
    have ne : ∀ {z cc}, σ.1 z = some cc → z ≠ σ.2.1 := fun e z => by rw [z, hfr _ (Nat.le_refl _)] at e; cases e
    obtain ⟨-, -, -, fs, c, f0, f2, cn, ρc, f3⟩ := h.2.2.2.2.2.1.1 _ yU
    obtain ⟨v, hv⟩ := h.2.1.2.2.2.1
    obtain ⟨hp1, hp2, hp9, hp2'⟩ := hp
    have sp := h.2.2.1.1.2.2 pg _ hp1 hp2 (fun fs z => by cases z) (fun fs z => by cases z) (fun _ _ z => by cases z <;> decide) (fun fs z => by cases z)
    have L := h.2.2.1.1.ls hL hlo.1 (hlo.2 (by omega)) (by omega) hg (Or.inl rfl)
    have gy : gl b = some (φ y.1) := hgl 0 y rfl
    have lg : oF κ T (n + 4) 234 [va_rf (some tp), .int (nI b)] σ = some (some (va_rf (some (φ y.1))), σ) := by
      rw [l_get (n := n + 1) (L.o h6.2) (by omega), gy]
    have oc : ocs σ (some (φ y.1)) 6 = true := by simp only [ocs, f0]; rfl
    -- new Known(base)
    obtain ⟨σ1, k1, Ψ1, q1, q2, q3, q4, q5, ⟨q6, q7⟩, q8⟩ := h.km (E := fun y b => (y, b) ∈ Es) (A := gPl (yB y.2)) (h.2.1.k0 (kd := cKd (yK (yB y.2))) (y := yB y.2) rfl) hpp (Nat.zero_le _)
    have hk : k1 = σ.2.1 ∧ σ1 = onew σ (.inr (4, kF0 (cKd (yK (yB y.2))) σ.2.1 none none)) 15 := by
      injection q1 with q1
      injection q1 with q1 q1'
      injection q1 with q1
      exact ⟨by injection q1 with q1; exact q1.symm, q1'.symm⟩
    have E1 := hE.sp (Dn' := dnO g0 φ tl) (Ls' := Ls) (q' := s.1) q6 q4 hfr (fun _ _ z => z) (fun _ z => z) (fun _ z => z) (fun _ _ => rfl)
    obtain ⟨fs2, σ2, g0', g8, hS2, G2, E2, K2, ⟨k2, s2⟩, c2⟩ := q3.kw (u := y.1) (k := k1) (A := gPl (yB y.2)) E1 q2 yU yt htU ye hpp (Nat.zero_le _)
    have U2 : ∀ u, u ∈ tl ++ [y.1] → u ∈ Us := fun u hu => (List.mem_append.mp hu).elim (htU u) (fun z => by rw [List.mem_singleton.mp z]; exact yU)
    obtain ⟨σ3, hS3, G3, -, E3, -, ⟨k3, s3⟩, c3⟩ := G2.sc2 (u := y.1) (k := k1) (A := gPl (yB y.2)) E2 K2 (List.mem_append_right _ (List.mem_singleton.mpr rfl)) U2 ye eU yT.symm ⟨fs2.set 4 (.ref k1), by rw [hS2, oput_eq], by rw [List.getElem?_set_self (by omega)]⟩ (if_pos rfl) hpp (Nat.zero_le _)
    have E3 : gwE st l b0 nq xs Ψ1 σ3 CN (dnO g0 φ (tl ++ [y.1])) nm tN lo Ls (env ++ [y.1]) (gNm (.inl y.1) (gPl (yB y.2)) sc) (.inl (φ y.1) :: Sc) (some σ2.2.1) (if gMs (tN y.1) = true then (.inl y.1, φ y.1) :: Es else Es) (gTn y.1 (gPl (yB y.2)) s).1 := E3
    obtain ⟨σ', Ψ', Sc', os', Es', r1, r2, r3, ⟨r4, r4'⟩, ⟨r5, r6⟩, r7, r8⟩ := c_gaI hcf hpp ⟨hp1, hp2, hp9, hp2'⟩ hL hlo hg hlen h6 r (b + 1) t (env ++ [y.1]) (tl ++ [y.1]) _ _ _ _ _ Ψ1 σ3 G3 E3 (fun u hu => (List.mem_append.mp hu).elim (fun z => List.mem_append_left _ (het u z)) (fun z => List.mem_append_right _ z)) U2 nd2 (fun z hz => ⟨(hr z (List.mem_cons_of_mem _ hz)).1, fun w => (List.mem_append.mp w).elim (hr z (List.mem_cons_of_mem _ hz)).2.1 (fun w => nd1 (by rw [← List.mem_singleton.mp w]; exact List.mem_map_of_mem hz)), (hr z (List.mem_cons_of_mem _ hz)).2.2⟩) (fun k z hz => by rw [show b + 1 + k = b + (k + 1) by omega]; exact hgl (k + 1) z hz) (by omega) (by omega)
    have ea : ∀ (w : List Nat), w ++ [y.1] ++ r.map Prod.fst = w ++ (y :: r).map Prod.fst := fun w => by rw [List.append_assoc]; rfl
    rw [ea] at r2 r3
    rw [ea] at r3
    have kp2 : gKp st l b0 (fun x => ∃ u, u ∈ (y :: r).map Prod.fst ∧ x = φ u) σ σ3 := ((q6.mo (fun _ z => z.elim)).tr (k2.mo (fun x hx => ⟨y.1, List.mem_cons_self .., hx⟩))).tr (k3.mo (fun _ z => z.elim))
    refine ⟨σ', Ψ', Sc', os', Es', ?_, r2, r3, ⟨q4.tr r4 kp2.2.2.2, r4'.trans q5⟩, ⟨kp2.tr (r5.mo (fun x ⟨u, u1, u2⟩ => ⟨u, List.mem_cons_of_mem _ u1, u2⟩)), fun i j => ((q7.w7.tr s2.w7).tr s3.w7).tr (r6 i j)⟩, ?_, ?_⟩
    · have nle : ¬ nI is.length ≤ nI b := fun z => absurd z (Int32.not_le.mpr (nI_lt (a := b) (b := is.length) (by omega) (by omega)))
      have fc0 : ofd σ (some ch) 2 0 = some (.ref pg) := (ofd_at hv).trans (by rw [List.getElem?_set_ne (by decide)]; exact hcf.2.1)
      have fp9 : ofd σ (some pg) 9 9 = some (.int (nI is.length)) := (ofd_at sp).trans hp9
      have fp2 : ofd σ (some pg) 9 2 = some (.ref tp) := (ofd_at sp).trans hp2'
      have f3' : ofd (onew σ (.inr (4, odef 4)) (oq 4).2.2) (some (φ y.1)) 6 3 = some (.int (cKd (yK (yB y.2)))) := (ofd_at ((onew_ne (ne f0)).trans f0)).trans (by rw [f3, yT])
      have XK : oF κ T (n + 4) 1 [va_rf (some σ.2.1), .int (cKd (yK (yB y.2)))] (onew σ (.inr (4, odef 4)) (oq 4).2.2) = some (none, σ1) := by rw [hk.2]; exact c_kn (κ := κ) (T := T) (n := n + 3)
      have P2 : opf σ1 (some (φ y.1)) 6 4 (va_rf (some σ.2.1)) = some σ2 := by rw [hS2, ← hk.1]; exact opf_at g0' (by omega)
      have X2 : oF κ T (n + 4) 2 [va_rf (some σ2.2.1), va_rf (some (φ y.1)), va_rf os] (onew σ2 (.inr (10, odef 10)) (oq 10).2.2) = some (none, σ3) := by rw [hS3]; exact c_sc2 (κ := κ) (T := T) (n := n + 3)
      rw [ol_X0_gather_4, fc0, ovr_rf, obn_at, fp9, ovi_i, obn_at, if_neg nle, obn_at, fp2, ovr_rf, obn_at, oob_at L.1, obn_at, lg, orn_at, ogd_at oc, olet_at, f3', ovi_i, obn_at, obn_at, XK, ocv_at, P2, obn_at, olet_at, obn_at, X2, ocv_at, nI_1, r1, show t + 1 - (y :: r).length = t - r.length from Nat.succ_sub_succ_eq_sub t r.length]
    · rw [r7]; show Sc.length + 1 + r.length = Sc.length + (r.length + 1); omega
    · obtain ⟨x1, x2, x3⟩ := ((q8.tr (c2.tr c3)).tr r8)
      refine ⟨x1, Nat.le_trans x2 (Nat.le_of_eq ?_), Nat.le_trans x3 (Nat.le_of_eq ?_)⟩
      · rw [List.length_cons]; omega
      · rw [List.length_cons]; omega
end GAI
