/-! the class's Judge: isSure() -/
section JSU
variable {lo : Nat × (Nat → Prop)} {κ : oKv} {T j o pa ph ta th : Nat} {rd : Int32} {wk : Option Nat} {ps : Int32} {B : Int} {ti : Nat → Nat} {Mn : Nat → Bool → List oBr} {X : Nat → Prop} {bs : Nat → Int32} {kn : Nat → Nat}
theorem z_len : ∀ l : List ((Nat × Bool) × Nat), (∀ y, y ∈ l → 1 ≤ y.2) → l.length ≤ (l.map Prod.snd).sum
  | [], _ => Nat.le_refl _
  | y :: l, hy => by
    have := z_len l (fun w hw => hy w (List.mem_cons_of_mem _ hw))
    have := hy y (List.mem_cons_self ..)
    simp only [List.map_cons, List.sum_cons, List.length_cons]
    omega
/-- one more condition -/
theorem bgI.asm {N Hm A0 ca len W c m a : Nat} {sl : Nat → Nat} {σ : oSt} {f : Nat → Int64} {fa : Int32} {Tr : List (Nat × Bool)} {L : List oLm} {Z : List ((Nat × Bool) × Nat)} {Wy : List (List oBr)} {Lp : List oLm} {hh : Bool} (hT : 200 ≤ T) (hc : 0 < c ∧ c ≤ 60) (hWc : W = 2 * c) (hl : len < 2 ^ 31) (hm : W * W ≤ len) (hB : 2 ≤ B) (hBW : (W : Int) * B + B + 2 ≤ 4503599627370496) (hN : Hm + 6 ≤ N) (hM : jMn X κ σ pa ph ta th rd sl ti c B Mn Hm a m) (hA : A0 + a ≤ 20) (hI : bgI X κ j o ca pa ph ta th len W c rd wk ps B sl ti Mn Hm A0 σ f fa Tr L Z Wy Lp) : ∃ σ' f' fa' Tr' L' Z', oF κ T N 56 [va_rf (some j), va_rf (some m), .int (b01 hh)] σ = some (none, σ') ∧ jKp pa ph ta th σ σ' ∧ σ'.2 = σ.2 ∧ bgI X κ j o ca pa ph ta th len W c rd wk ps B sl ti Mn Hm (A0 + a) σ' f' fa' Tr' L' Z' (Wy ++ [Mn m hh]) Lp := by
  obtain ⟨J, i2, i3, i4, i5, i6, i7⟩ := hI
  have zl : (Z.map Prod.fst).length ≤ (Z.map Prod.snd).sum := by
    rw [List.length_map]
    exact z_len Z (fun z hz => (i4 z hz).1.nd.2)
  obtain ⟨σ1, f1, fa1, P1, Tr1, L1, a1, a2, ⟨a3, a4⟩, a5, a6, a7, ⟨a8, a8'⟩, ⟨⟨Zn, z1, z2, z3, z4⟩, Y, a10⟩, a12, a13⟩ := c_assume (κ := κ) (T := T) (X := X) (ti := ti) (b := 0) (cl := 0) (by omega) hc hWc hl (by omega) (by omega) hBW Hm a m N σ f fa (Z.map Prod.fst) Tr L hh hN hM J i2 i3 (by omega) (by omega)
  have eP : P1 = (Z ++ Zn).map Prod.fst := by rw [z1, List.map_append]
  subst eP
  refine ⟨σ1, f1, fa1, Tr1, L1, Z ++ Zn, a1, a3, a4, a2, a5, a6, fun y hy => ?_, by rw [List.map_append, List.sum_append]; omega, a12 i6, fun K hK' => ?_⟩
  · rcases List.mem_append.mp hy with hy | hy
    · exact ⟨jMn.jk a3 _ _ _ (i4 y hy).1, (i4 y hy).2.jk a3⟩
    · exact z3 y hy
  · have eM : pMn Mn ((Z ++ Zn).map Prod.fst) = pMn Mn (Z.map Prod.fst) ++ pMn Mn (Zn.map Prod.fst) := by unfold pMn; rw [List.map_append, List.map_append]
    rw [eM, exL.app, exL.swap hK'.1, z4 _ (exL.d hK' _), ← exL.pull hK'.1, i7 _ (exB.d hK'), exL.app]
    rfl
/-- a Sum that is no FACT tells nothing -/
theorem c_limU {n su na ta' cap : Nat} {L : List (Nat × Int32)} {pl : Int64} {σ : oSt} {s le : Int32} (hs : cSm σ su na ta' cap L pl) (h1 : sFa L = false) (h2 : 0 < L.length) : oF κ T (n + 2) 54 [va_rf (some j), va_rf (some su), .int s, .int le] σ = some (none, σ) := by
  obtain ⟨q1, q2, q3⟩ := hs.cn
  have hs' := hs
  obtain ⟨g, h', s1, -⟩ := hs'
  rw [show n + 2 = (n + 1) + 1 from rfl, oE_X1_limit]
  unfold ob_X1_limit
  rw [q2, ovl_lg, obn_at, q1, ovi_i, obn_at, if_neg (fun e => by have := nI_inj' (b := 0) (by omega) (by decide) e; omega), oob_at s1, obn_at, x_fact hs, h1]
  rfl
theorem c_cmpU {n m su na ta' cap r : Nat} {L : List (Nat × Int32)} {pl : Int64} {σ : oSt} {fs jf : List Value} (hj : σ.1 j = some (.inr (3, jf))) (hs : cSm σ su na ta' cap L pl) (h1 : sFa L = false) (h2 : 0 < L.length) (hm : σ.1 m = some (.inr (7, fs))) (f5 : fs[5]? = some (.int (jRc r))) (hr : r ≤ 5) (hr5 : rNo r ≠ 5) (f19 : fs[19]? = some (.ref su)) : oF κ T (n + 3) 55 [va_rf (some j), va_rf (some m), .int 0] σ = some (none, σ) := by
  have lm : ∀ s le : Int32, oF κ T (n + 2) 54 [va_rf (some j), va_rf (some su), .int s, .int le] σ = some (none, σ) := fun s le => c_limU hs h1 h2
  have g5 : ofd σ (some m) 7 5 = some (.int (jRc r)) := (ofd_at hm).trans f5
  have g19 : ofd σ (some m) 7 19 = some (.ref su) := (ofd_at hm).trans f19
  have e65 : ∀ x3 : Int32, oj_X1_compare_65 T (oF κ T (n + 2)) κ (some j) (some m) x3 σ = some (none, σ) := fun x3 => by
    unfold oj_X1_compare_65
    rw [g19, ovr_rf, obn_at, oob_at hj, obn_at, obn_at, lm, lm, ocv_at]
    split
    · rfl
    · split
      · rfl
      · split <;> rfl
  have e62 : ∀ x3 t2 t3 : Int32, oj_X1_compare_62 T (oF κ T (n + 2)) κ (some j) (some m) x3 (some j) (some su) t2 t3 σ = some (none, σ) := fun x3 t2 t3 => by
    unfold oj_X1_compare_62
    rw [oob_at hj, obn_at, lm, ocv_at, e65]
  rw [show n + 3 = (n + 2) + 1 from rfl, oE_X1_compare]
  unfold ob_X1_compare
  rw [if_pos rfl, g5, ovi_i, obn_at, c_opp (n := n + 1) hr, oin_at]
  unfold oj_X1_compare_18
  have h35 : ¬ jRc (rNo r) = 35 := fun e => hr5 (jRc_inj (rNo r) (by unfold rNo; split <;> (try split) <;> (try split) <;> (try split) <;> (try split) <;> omega) 5 (by decide) e)
  rw [if_neg h35, e65, g19, ovr_rf, obn_at, e62, e62]
  split
  · rfl
  · split
    · rfl
    · split <;> rfl
/-- explore() where all is decided -/
theorem c_expl0 {α : Type} {Rp : oSt → Int32 → List α → Prop} {Q : α → List oLm → Prop} {N0 W n ca len : Nat} {fa : Int32} {f : Nat → Int64} {P Tr : List (Nat × Bool)} {L : List oLm} {σ : oSt} (hT : 2 ≤ T) (hq : qOk κ T N0 j o pa ph ta th W B rd wk X Rp Q) (hn : N0 + 3 ≤ n) (J : jSt σ j o ca pa ph ta th len W 0 1 fa f rd wk ps P Tr) (hv : oQn W 0 L f fa) (hL : xLn B W L) (hm : W * W ≤ len) (hl : len ≤ 60000000) (hR : Rp σ ps []) (hP : ∀ x, P[0]? = some x → ∃ fs, σ.1 x.1 = some (.inr (7, fs)) ∧ (fs[0]? = some (.int 403) ∨ ∃ k0 li dd cap q mc g, fs[0]? = some (.int k0) ∧ ¬ k0 = 403 ∧ fs[18]? = some (.ref li) ∧ cLs κ σ li dd cap q mc g 7)) : ∃ σ' ps', oF κ T (n + 1) 63 [va_rf (some j), .int 0] σ = some (none, σ') ∧ jSt σ' j o ca pa ph ta th len W 0 1 fa f rd wk ps' P Tr ∧ jKw X pa ph ta th σ σ' ∧ σ'.2 = σ.2 ∧ Rp σ' ps' [] := by
  obtain ⟨T, rfl⟩ : ∃ t', T = t' + 1 := ⟨T - 1, by omega⟩
  obtain ⟨n, rfl⟩ : ∃ n', n = n' + 1 := ⟨n - 1, by omega⟩
  have fJ0 : ofd σ (some j) 3 0 = some (.ref o) := ofd_at J.1
  have fJ3 : ofd σ (some j) 3 3 = some (.int (nI P.length)) := ofd_at J.1
  have fJ6 : ofd σ (some j) 3 6 = some (.int (nI Tr.length)) := ofd_at J.1
  have fJ1 : ofd σ (some j) 3 1 = some (.ref pa) := ofd_at J.1
  have fJ2 : ofd σ (some j) 3 2 = some (.ref ph) := ofd_at J.1
  have fO4 : ofd σ (some o) 8 4 = some (.int fa) := ofd_at J.2.1.1
  have hPl := J.2.2.2.2.1.1
  rw [oE_X1_explore]
  unfold ob_X1_explore
  rw [fJ0, ovr_rf, obn_at, fO4, ovi_i, obn_at]
  rcases hv.1 with rfl | rfl
  case inr =>
    rw [if_neg (by decide)]
    exact ⟨σ, ps, rfl, J, jKw.rf σ, rfl, hR⟩
  rw [if_pos rfl, fJ3, ovi_i, obn_at]
  cases P with
  | nil =>
    rw [if_neg (show ¬ (0 : Int32) < nI ([] : List (Nat × Bool)).length by decide), oob_at J.1, obn_at]
    obtain ⟨σ', ps', c1, c2, c3, c4, c5⟩ := hq.2.2.2 (n + 1) σ ca len 0 f ps [] Tr L [] (by omega) J hv hL (by omega) hl hR
    exact ⟨σ', ps', by rw [c1, ocv_at], c2, c3, c4, c5⟩
  | cons x P =>
    obtain ⟨fs, h7, hk⟩ := hP x rfl
    obtain ⟨gp, hp, h4, h5, h6⟩ := J.2.2.1
    obtain ⟨g1, g2⟩ := h6 0 _ rfl
    have zi : zin 0 40 = true := by decide
    have ck : (0 : Int32).toNatClampNeg = 0 := by decide
    have rp : oar σ (some pa) 0 = some (some x.1) := by
      simp only [oar, h4, zi, if_true, ck, g1]
    have rh : oai σ (some ph) .boolean 0 = some (b01 x.2) := by
      simp only [oai, h5, zi, and_self, if_true, ck, g2]
    have dec := hq.2.2.1 n σ ca len 0 0 f ps (x :: P) Tr [] J hR
    have lp : ∀ q : Int32, oj_X1_explore_71 (T + 1) (oF κ (T + 1) (n + 1)) κ (some j) 0 (some x.1) (b01 x.2) (nI (x :: P).length) (nI Tr.length) q σ = some (none, σ) := fun q => by
      unfold oj_X1_explore_71
      rw [ol_X1_explore_76]
      by_cases z : q ≤ 0
      · rw [if_pos z]
      · rw [if_neg z, oob_at J.1, obn_at, dec, oin_at, if_neg (by show ¬ b01 true = 0; decide)]
    rw [if_pos (show (0 : Int32) < nI (x :: P).length from nI_lt (a := 0) (by simp) (by simp only [List.length_cons] at hPl ⊢; omega)), fJ1, ovr_rf, obn_at, rp, obn_at, fJ2, ovr_rf, obn_at, rh, obn_at, obn_at, fJ6, ovi_i, obn_at]
    refine ⟨σ, ps, ?_, J, jKw.rf σ, rfl, hR⟩
    rcases hk with hk | ⟨k0, li, dd, cap, q, mc, g, hk, hk0, hk1, hk2⟩
    · rw [show ofd σ (some x.1) 7 0 = some (.int 403) from (ofd_at h7).trans hk, ovi_i, obn_at, if_pos rfl, lp]
    · rw [show ofd σ (some x.1) 7 0 = some (.int k0) from (ofd_at h7).trans hk, ovi_i, obn_at, if_neg hk0, show ofd σ (some x.1) 7 18 = some (.ref li) from (ofd_at h7).trans hk1, ovr_rf, obn_at, oob_at hk2.1, obn_at, l_sz hk2, oin_at, lp]
/-- **isSure(scope, c)** of a C that is one of FACTS -/
theorem c_isSure {N Hm ca len W0 b0 m : Nat} {cl0 fa0 : Int32} {σ : oSt} {f : Nat → Int64} {P Tr : List (Nat × Bool)} {at' : Nat → Nat} {Dk : Nat → Bool × List (Nat × kTe) × List kFc} {Sc : List sEn} {s : Option Nat} (hT : 100200 ≤ T) (hJ : pa < lo.1 ∧ ph < lo.1 ∧ ta < lo.1 ∧ th < lo.1) (hB : 2 ≤ B) (hBW : ((2 * ((msL bs Sc).length + 1) : Nat) : Int) * B + B + 2 ≤ 4503599627370496) (hN : Hm + 60 ≤ N) (hti : ∀ x y, ti x = ti y → x = y) (J : jSt σ j o ca pa ph ta th len W0 b0 cl0 fa0 f rd wk ps P Tr) (hl : len ≤ 60000000) (hfr : ∀ q, σ.2.1 ≤ q → σ.1 q = none) (hS : cScp bs kn σ Sc s) (hSl : Sc.length < 1000) (hnd : (msL bs Sc).Nodup) (hml : (msL bs Sc).length + 1 ≤ 60) (hK : ∀ a, a ∈ msL bs Sc → kInf lo σ B (msL bs Sc) (kn a) (Dk a)) (hM : ∀ σ1, jKb pa ph ta th σ σ1 → (∀ a, a ∈ msL bs Sc → nSl σ1 (rd + 1) (slO (msL bs Sc)) ((msL bs Sc).length + 1) a) → (∀ x, x ∈ tsL Sc → jMn X κ σ1 pa ph ta th (rd + 1) (slO (msL bs Sc)) ti ((msL bs Sc).length + 1) B Mn Hm (at' x.1) x.1) ∧ jMn X κ σ1 pa ph ta th (rd + 1) (slO (msL bs Sc)) ti ((msL bs Sc).length + 1) B Mn Hm (at' m) m) (hA : ((tsL Sc).map (fun x => at' x.1)).sum + at' m ≤ 20) (hF : ∀ σ0, jKp pa ph ta th σ σ0 → oF κ T N 39 [va_rf (some m)] σ0 = some (some (.int 1), σ0)) : ∃ v σ' ca' len' W' f' fa' ps' P' Tr', oF κ T (N + 1) 64 [va_rf (some j), va_rf s, va_rf (some m)] σ = some (some (.int v), σ') ∧ jSt σ' j o ca' pa ph ta th len' W' 0 1 fa' f' (rd + 1) none ps' P' Tr' ∧ jKx X pa ph ta th σ σ' ∧ gMo len len' σ σ' ∧ len' ≤ 60000000 ∧ ((v = 1 ∧ ¬ exL ((tsL Sc).map (fun x => Mn x.1 x.2) ++ [Mn m false]) (kFe (fun _ => ¬ False)) ((msL bs Sc).flatMap (fun a => lrnL (slO (msL bs Sc)) (slO (msL bs Sc) a) (Dk a).1 (Dk a).2.1 (Dk a).2.2)) []) ∨ (v = 0 ∧ exL ((tsL Sc).map (fun x => Mn x.1 x.2) ++ [Mn m false]) (kFe (fun _ => ¬ False)) ((msL bs Sc).flatMap (fun a => lrnL (slO (msL bs Sc)) (slO (msL bs Sc) a) (Dk a).1 (Dk a).2.1 (Dk a).2.2)) [])) := by
  generalize hms : msL bs Sc = ms at *
  obtain ⟨N, rfl⟩ : ∃ N', N = N' + 1 := ⟨N - 1, by omega⟩
  obtain ⟨J00, k00⟩ := J.fld none ps
  obtain ⟨J0, k0⟩ := J00.fld none 0
  rw [oput_oput] at J0 k0
  have k0 := k00.tr k0
  have K0 : jKb pa ph ta th σ _ := k0.k4.b
  obtain ⟨σ1, ca1, len1, f1, fa1, Tr1, L1, Z1, b1, b2, b3, b4, b5, b6, b7⟩ := c_jbegin (κ := κ) (T := T) (N := N) (Hm := Hm) (at' := at') (Dk := Dk) (Sc := Sc) (s := s) (x2 := none) (Dl := none) (Mn := Mn) (ti := ti) (X := X) (B := B) hT hJ hB (by rw [hms]; exact hBW) (by omega) J0 hl (k0.fr hfr) (cScp.kb K0 Sc s hS) hSl (by rw [hms]; exact hnd) (by rw [hms]; exact hml) (fun a ha => by rw [hms] at ha ⊢; exact (hK a ha).kb hJ K0) (Or.inl ⟨rfl, rfl⟩) (fun σ1 h => by rw [hms]; exact fun q => (hM σ1 (K0.tr h) q).1) (by omega)
  rw [hms] at b3 b5 b7
  have K1 : jKb pa ph ta th σ σ1 := K0.tr b2
  have hc : 0 < ms.length + 1 ∧ ms.length + 1 ≤ 60 := ⟨by omega, hml⟩
  obtain ⟨σ2, f2, fa2, Tr2, L2, Z2, e1, e2, e3, e4⟩ := bgI.asm (κ := κ) (T := T) (N := N + 1) (hh := false) (by omega) hc rfl (by omega) b5 hB hBW (by omega) (hM σ1 K1 b3).2 hA b7
  have K2 : jKb pa ph ta th σ σ2 := K1.tr e2.k4.b
  obtain ⟨σ3, σ4, ca4, len4, f4, fa4, ps4, d1, d2, d3, d4, d5, d6, d7, d8, d9, d10⟩ := j_cx (κ := κ) (T := T) (N := N + 1) (N0 := 1) (ti := ti) (α := Unit) (Q := fun _ _ => False) (Rp := rpA) (S := [()]) (by omega) hc hB hBW hti (qOkA (X := X)) hA (by omega) b6 b5 (K2.fr hfr) e4 (show (0 : Int32) = b01 false by decide)
  rw [show lfL (slO ms) none = [] from rfl, List.append_nil] at d10
  have gm : gMo len len4 σ σ4 := (((gMo.of2 (σ := σ) rfl).trans b4).trans (gMo.of2 e3)).trans d8
  have f9 : ofd σ4 (some j) 3 9 = some (.int ps4) := ofd_at d6.1
  have b1 : oF κ T (N + 1) 57 [va_rf (some j), va_rf s, va_rf none] (oput σ j (.inr (3, [.ref o, .ref pa, .ref ph, .int (nI P.length), .ref ta, .ref th, .int (nI Tr.length), .int rd, va_rf none, .int 0]))) = _ := b1
  have J1 := b7.1
  have run : oF κ T (N + 2) 64 [va_rf (some j), va_rf s, va_rf (some m)] σ = if ps4 = 0 then some (some (.int 1), σ4) else some (some (.int 0), σ4) := by
    rw [oE_X1_isSure]
    unfold ob_X1_isSure oj_X1_isSure_18
    rw [opf_at J.1 (by simp only [List.length_cons, List.length_nil]; omega), obn_at]
    show (oin (oF κ T (N + 1) 39 [va_rf (some m)] (oput σ j (.inr (3, [.ref o, .ref pa, .ref ph, .int (nI P.length), .ref ta, .ref th, .int (nI Tr.length), .int rd, va_rf none, .int ps])))) _) = _
    rw [hF _ k00, oin_at, if_neg (by decide), ogd_at (by decide), opf_at (oput_eq _ _ _) (by simp), obn_at, oput_oput]
    show (obn (oob (oput σ j (.inr (3, [.ref o, .ref pa, .ref ph, .int (nI P.length), .ref ta, .ref th, .int (nI Tr.length), .int rd, va_rf none, .int 0]))) (some j) 3) fun a4 => ocv (oF κ T (N + 1) 57 [va_rf (some j), va_rf s, va_rf none] (oput σ j (.inr (3, [.ref o, .ref pa, .ref ph, .int (nI P.length), .ref ta, .ref th, .int (nI Tr.length), .int rd, va_rf none, .int 0])))) _) = _
    rw [oob_at J0.1, obn_at, b1, ocv_at, oob_at J1.1, obn_at]
    have e1 : oF κ T (N + 1) 56 [va_rf (some j), va_rf (some m), .int 0] σ1 = _ := e1
    rw [e1, ocv_at, d2, ovr_rf, obn_at, d3, obn_at, d1, ocv_at, d4, obn_at, d5, ocv_at, f9, ovi_i, obn_at]
  have d10 : ps4 = b01 (fQz (fun _ => ¬ exL ((tsL Sc).map (fun x => Mn x.1 x.2) ++ [Mn m false]) (kFe (fun _ => ¬ False)) (ms.flatMap (fun a => lrnL (slO ms) (slO ms a) (Dk a).1 (Dk a).2.1 (Dk a).2.2)) []) [()]).isEmpty := d10
  by_cases z : exL ((tsL Sc).map (fun x => Mn x.1 x.2) ++ [Mn m false]) (kFe (fun _ => ¬ False)) (ms.flatMap (fun a => lrnL (slO ms) (slO ms a) (Dk a).1 (Dk a).2.1 (Dk a).2.2)) []
  · rw [(fQz_cons (Q := fun _ => ¬ exL ((tsL Sc).map (fun x => Mn x.1 x.2) ++ [Mn m false]) (kFe (fun _ => ¬ False)) (ms.flatMap (fun a => lrnL (slO ms) (slO ms a) (Dk a).1 (Dk a).2.1 (Dk a).2.2)) []) (x := ())).2 (fun w => w z)] at d10
    have d10 : ps4 = 1 := d10
    rw [if_neg (by rw [d10]; decide)] at run
    exact ⟨0, σ4, ca4, len4, _, f4, fa4, ps4, _, _, run, d6, K2.kx.tr d7, gm, d9, Or.inr ⟨rfl, z⟩⟩
  · rw [(fQz_cons (Q := fun _ => ¬ exL ((tsL Sc).map (fun x => Mn x.1 x.2) ++ [Mn m false]) (kFe (fun _ => ¬ False)) (ms.flatMap (fun a => lrnL (slO ms) (slO ms a) (Dk a).1 (Dk a).2.1 (Dk a).2.2)) []) (x := ())).1 z] at d10
    have d10 : ps4 = 0 := d10
    rw [if_pos d10] at run
    exact ⟨1, σ4, ca4, len4, _, f4, fa4, ps4, _, _, run, d6, K2.kx.tr d7, gm, d9, Or.inl ⟨rfl, z⟩⟩
/-- a C that is none of FACTS: one comparison, or two -/
def suU (κ : oKv) (σ : oSt) (lo m : Nat) : Prop := ∃ fs, σ.1 m = some (.inr (7, fs)) ∧ ((fs[0]? = some (.int 403) ∧ ∃ su na ta' cap L pl r, fs[19]? = some (.ref su) ∧ cSm σ su na ta' cap L pl ∧ (lo ≤ na ∧ lo ≤ ta') ∧ sFa L = false ∧ 0 < L.length ∧ fs[5]? = some (.int (jRc r)) ∧ r ≤ 5 ∧ rNo r ≠ 5) ∨ (fs[0]? = some (.int 302) ∧ ∃ li dd cap q mc g, fs[18]? = some (.ref li) ∧ cLs κ σ li dd cap q mc g 7 ∧ lo ≤ dd ∧ dd < σ.2.1))
theorem suU.kb {σ σ' : oSt} {m : Nat} (hJ : pa < lo.1 ∧ ph < lo.1 ∧ ta < lo.1 ∧ th < lo.1) (h : jKb pa ph ta th σ σ') (g : suU κ σ lo.1 m) : suU κ σ' lo.1 m := by
  obtain ⟨fs, g1, g2⟩ := g
  refine ⟨fs, h.ob g1 (by decide) (by decide) (by decide) (by decide), ?_⟩
  rcases g2 with ⟨a1, su, na, ta', cap, L, pl, r, a2, ⟨g, h', s1, s2, s3, s4, s5⟩, a4, a5⟩ | ⟨a1, li, dd, cap, q, mc, g, a2, ⟨q1, q2, q3⟩, a4, a5⟩
  · refine Or.inl ⟨a1, su, na, ta', cap, L, pl, r, a2, ⟨g, h', h.ob s1 (by decide) (by decide) (by decide) (by decide), h.ar s2 (fun e => by cases e) (by omega), h.ar s3 (fun e => by cases e) (by omega), s4, fun k b c e => ?_⟩, a4, a5⟩
    obtain ⟨q1, q2, fs, q3⟩ := s5 k b c e
    obtain ⟨f2, q4, -⟩ := h.2.2.1 _ _ q3
    exact ⟨q1, q2, f2, q4⟩
  · refine Or.inr ⟨a1, li, dd, cap, q, mc, g, a2, ⟨h.ob q1 (by decide) (by decide) (by decide) (by decide), ?_, fun i hi => ?_⟩, a4, Nat.lt_of_lt_of_le a5 h.2.2.2.2⟩
    · rcases q2 with ⟨b1, b2, b3, b4⟩ | ⟨b1, b2, b3⟩
      · exact Or.inl ⟨b1, b2, b3, h.2.2.2.1 _ b4 (Or.inl a5)⟩
      · exact Or.inr ⟨h.ar b1 (fun e => by cases e) (by omega), b2, b3⟩
    · obtain ⟨b, fs, e1, e2⟩ := q3 i hi
      exact ⟨b, fs, e1, h.ob e2 (by decide) (by decide) (by decide) (by decide)⟩
/-- **isSure(scope, c)** of a C that is none of FACTS -/
theorem c_isSureU {N Hm ca len W0 b0 m : Nat} {cl0 fa0 : Int32} {σ : oSt} {f : Nat → Int64} {P Tr : List (Nat × Bool)} {at' : Nat → Nat} {Dk : Nat → Bool × List (Nat × kTe) × List kFc} {Sc : List sEn} {s : Option Nat} (hT : 100200 ≤ T) (hJ : pa < lo.1 ∧ ph < lo.1 ∧ ta < lo.1 ∧ th < lo.1) (hB : 2 ≤ B) (hBW : ((2 * ((msL bs Sc).length + 1) : Nat) : Int) * B + B + 2 ≤ 4503599627370496) (hN : Hm + 60 ≤ N) (J : jSt σ j o ca pa ph ta th len W0 b0 cl0 fa0 f rd wk ps P Tr) (hl : len ≤ 60000000) (hfr : ∀ q, σ.2.1 ≤ q → σ.1 q = none) (hS : cScp bs kn σ Sc s) (hSl : Sc.length < 1000) (hnd : (msL bs Sc).Nodup) (hml : (msL bs Sc).length + 1 ≤ 60) (hK : ∀ a, a ∈ msL bs Sc → kInf lo σ B (msL bs Sc) (kn a) (Dk a)) (hM : ∀ σ1, jKb pa ph ta th σ σ1 → (∀ a, a ∈ msL bs Sc → nSl σ1 (rd + 1) (slO (msL bs Sc)) ((msL bs Sc).length + 1) a) → (∀ x, x ∈ tsL Sc → jMn X κ σ1 pa ph ta th (rd + 1) (slO (msL bs Sc)) ti ((msL bs Sc).length + 1) B Mn Hm (at' x.1) x.1)) (hA : ((tsL Sc).map (fun x => at' x.1)).sum ≤ 20) (hU : suU κ σ lo.1 m) (hF : ∀ σ0, jKp pa ph ta th σ σ0 → oF κ T N 39 [va_rf (some m)] σ0 = some (some (.int 0), σ0)) : ∃ σ' ca' len' W' f' fa' ps' P' Tr', oF κ T (N + 1) 64 [va_rf (some j), va_rf s, va_rf (some m)] σ = some (some (.int 0), σ') ∧ jSt σ' j o ca' pa ph ta th len' W' 0 1 fa' f' (rd + 1) none ps' P' Tr' ∧ jKx X pa ph ta th σ σ' ∧ gMo len len' σ σ' ∧ len' ≤ 60000000 := by
  generalize hms : msL bs Sc = ms at *
  obtain ⟨N, rfl⟩ : ∃ N', N = N' + 6 := ⟨N - 6, by omega⟩
  obtain ⟨J00, k00⟩ := J.fld none ps
  obtain ⟨J0, k0⟩ := J00.fld none 1
  rw [oput_oput] at J0 k0
  have k0 := k00.tr k0
  have K0 : jKb pa ph ta th σ _ := k0.k4.b
  obtain ⟨σ1, ca1, len1, f1, fa1, Tr1, L1, Z1, b1, b2, b3, b4, b5, b6, b7⟩ := c_jbegin (κ := κ) (T := T) (N := N + 5) (Hm := Hm) (at' := at') (Dk := Dk) (Sc := Sc) (s := s) (x2 := none) (Dl := none) (Mn := Mn) (ti := ti) (X := X) (B := B) hT hJ hB (by rw [hms]; exact hBW) (by omega) J0 hl (k0.fr hfr) (cScp.kb K0 Sc s hS) hSl (by rw [hms]; exact hnd) (by rw [hms]; exact hml) (fun a ha => by rw [hms] at ha ⊢; exact (hK a ha).kb hJ K0) (Or.inl ⟨rfl, rfl⟩) (fun σ1 h => by rw [hms]; exact fun q => hM σ1 (K0.tr h) q) (by omega)
  rw [hms] at b3 b5 b7
  have K1 : jKb pa ph ta th σ σ1 := K0.tr b2
  have hc : 0 < ms.length + 1 ∧ ms.length + 1 ≤ 60 := ⟨by omega, hml⟩
  have hU1 := hU.kb hJ K1
  obtain ⟨J1, i2, i3, i4, i5, i6, i7⟩ := b7
  have zl : (Z1.map Prod.fst).length ≤ (Z1.map Prod.snd).sum := by
    rw [List.length_map]
    exact z_len Z1 (fun z hz => (i4 z hz).1.nd.2)
  -- assume()
  have asm : ∃ σ2 P2, oF κ T (N + 6) 56 [va_rf (some j), va_rf (some m), .int 0] σ1 = some (none, σ2) ∧ jSt σ2 j o ca1 pa ph ta th len1 (2 * (ms.length + 1)) 0 0 fa1 f1 (rd + 1) none 1 P2 Tr1 ∧ jKp pa ph ta th σ1 σ2 ∧ σ2.2 = σ1.2 ∧ ∀ x, P2[0]? = some x → ∃ fs, σ2.1 x.1 = some (.inr (7, fs)) ∧ (fs[0]? = some (.int 403) ∨ ∃ k0 li dd cap q mc g, fs[0]? = some (.int k0) ∧ ¬ k0 = 403 ∧ fs[18]? = some (.ref li) ∧ cLs κ σ2 li dd cap q mc g 7) := by
    have old : ∀ σ2, jKp pa ph ta th σ1 σ2 → ∀ z, z ∈ Z1 → ∃ fs, σ2.1 z.1.1 = some (.inr (7, fs)) ∧ (fs[0]? = some (.int 403) ∨ ∃ k0 li dd cap q mc g, fs[0]? = some (.int k0) ∧ ¬ k0 = 403 ∧ fs[18]? = some (.ref li) ∧ cLs κ σ2 li dd cap q mc g 7) := fun σ2 k z hz => by
      obtain ⟨m1, w1⟩ := i4 z hz
      obtain ⟨fs', w2, w3⟩ := w1.jk k
      refine ⟨fs', w2, ?_⟩
      rcases w3 with w3 | ⟨w3, -⟩
      · right
        have m2 := jMn.jk k _ _ _ m1
        cases Hm with
        | zero => exact False.elim m2
        | succ Hk =>
          obtain ⟨fs, h7, h0, hM1⟩ := m2
          have efs : fs = fs' := by
            rw [w2] at h7
            injection h7 with e
            injection e with e
            injection e with e e2
            exact e2.symm
          subst efs
          have no : ∀ v : Int32, fs[0]? = some (.int v) → v = if z.1.2 = true then 303 else 302 := fun v e1 => by
            rw [e1] at w3
            injection w3 with e2
            injection e2
          have kd : ∀ v : Int32, fs[0]? = some (.int v) → v = 303 ∨ v = 302 := fun v e => by
            have := no v e
            cases hz2 : z.1.2 <;> rw [hz2] at this
            · exact Or.inr this
            · exact Or.inl this
          rcases hM1 with ⟨e, x, e1, e2, e3⟩ | ⟨an, li, dd, cap, q, mc, g, xs, e, e1, e2, e3⟩ | ⟨bo, e, e3⟩ | ⟨x, gs, e, e1, e2, e3⟩ | ⟨su, Ls, pl, r, e, e1, e2, e4, e5, e3⟩
          · exact absurd (kd _ e) (by decide)
          · exact ⟨_, li, dd, cap, q, mc, g, e, by cases an <;> decide, e1, e2⟩
          · have := kd _ e
            cases bo <;> exact absurd this (by decide)
          · exact absurd (kd _ e) (by decide)
          · exact absurd (kd _ e) (by decide)
      · exact Or.inl w3
    obtain ⟨fs, g1, g2⟩ := hU1
    rcases g2 with ⟨a1, su, na, ta', cap, L, pl, r, a2, a3, a4, a5, a6, a7, a8, a9⟩ | ⟨a1, li, dd, cap, q, mc, g, a2, a3, a4, a5⟩
    · refine ⟨σ1, Z1.map Prod.fst, ?_, J1, jKp.rf σ1, rfl, fun x hx => ?_⟩
      · rw [show N + 6 = (N + 5) + 1 from rfl, oE_X1_assume]
        unfold ob_X1_assume
        rw [show ofd σ1 (some m) 7 0 = some (.int 403) from (ofd_at g1).trans a1, ovi_i, obn_at, if_neg (by decide), if_neg (by decide), if_neg (by decide), if_neg (by decide), if_pos rfl, oob_at J1.1, obn_at, c_cmpU (n := N + 2) J1.1 a3 a5 a6 g1 a7 a8 a9 a2, ocv_at]
      · cases Z1 with
        | nil => cases hx
        | cons z Z =>
          have : z.1 = x := Option.some.inj hx
          rw [← this]
          exact old σ1 (jKp.rf σ1) z (List.mem_cons_self ..)
    · obtain ⟨σ2, p1, p2, p3, p4⟩ := c_post (κ := κ) (T := T) (n := N + 4) (h := false) J1 g1 (by omega)
      have p1 : oF κ T (N + 5) 51 [va_rf (some j), va_rf (some m), .int 0] σ1 = some (none, σ2) := p1
      refine ⟨σ2, _, ?_, p2, p3, p4, fun x hx => ?_⟩
      · rw [show N + 6 = (N + 5) + 1 from rfl, oE_X1_assume]
        unfold ob_X1_assume
        rw [show ofd σ1 (some m) 7 0 = some (.int 302) from (ofd_at g1).trans a1, ovi_i, obn_at, if_neg (by decide), if_pos rfl, obn_at, if_pos rfl]
        unfold oj_X1_assume_91
        rw [if_neg (by decide), oob_at J1.1, obn_at, p1, ocv_at]
      · cases Z1 with
        | nil =>
          have : (m, false) = x := Option.some.inj hx
          rw [← this]
          exact ⟨fs, p3.1 _ _ g1 ⟨by show (7 : Nat) ≠ 3; decide, by show (7 : Nat) ≠ 8; decide⟩, Or.inr ⟨302, li, dd, cap, q, mc, g, a1, by decide, a2, a3.jk p3 (by omega) a5⟩⟩
        | cons z Z =>
          have : z.1 = x := Option.some.inj hx
          rw [← this]
          exact old σ2 p3 z (List.mem_cons_self ..)
  obtain ⟨σ2, P2, e1, J2, e2, e3, e4⟩ := asm
  have K2 : jKb pa ph ta th σ σ2 := K1.tr e2.k4.b
  have m12 := J2.ne.2.1.1
  have hP0 : oPn B (2 * (ms.length + 1)) 0 L1 f1 fa1 := by
    rcases i2 with ⟨-, h⟩ | ⟨e, -⟩
    · exact h
    · exact absurd e (by decide)
  obtain ⟨f3, fa3, c1, c2, c3⟩ := c_oclose (κ := κ) (T := T) (n := N + 4) (σ := σ2) (ca := ca1) (o := o) (c := ms.length + 1) (len := len1) (b := 0) (f := f1) (fa := fa1) (L := L1) (B := B) (by omega) (by omega) rfl (Ne.symm m12) (by omega) (by omega) (by omega) hBW i3 hP0
  rw [J2.oc] at c1
  obtain ⟨J3, k3⟩ := J2.lev2 (b' := 0) (cl' := 1) (fa' := fa3) (f' := f3)
  have rd3 : ∀ x, P2[0]? = some x → ∃ fs, (gOc σ2 o ca1 len1 (2 * (ms.length + 1)) 0 1 fa3 f3).1 x.1 = some (.inr (7, fs)) ∧ (fs[0]? = some (.int 403) ∨ ∃ k0 li dd cap q mc g, fs[0]? = some (.int k0) ∧ ¬ k0 = 403 ∧ fs[18]? = some (.ref li) ∧ cLs κ (gOc σ2 o ca1 len1 (2 * (ms.length + 1)) 0 1 fa3 f3) li dd cap q mc g 7) := fun x hx => by
    obtain ⟨fs, h1, h2⟩ := e4 x hx
    refine ⟨fs, k3.1 _ _ h1 ⟨by show (7 : Nat) ≠ 3; decide, by show (7 : Nat) ≠ 8; decide⟩, ?_⟩
    rcases h2 with h2 | ⟨k0, li, dd, cap, q, mc, g, h2, h3, h4, q1, q2, q3⟩
    · exact Or.inl h2
    · refine Or.inr ⟨k0, li, dd, cap, q, mc, g, h2, h3, h4, k3.1 _ _ q1 ⟨by show (1 : Nat) ≠ 3; decide, by show (1 : Nat) ≠ 8; decide⟩, ?_, fun i hi => ?_⟩
      · obtain ⟨h10, ⟨h20, h30⟩, -⟩ := J2
        rcases q2 with ⟨b1, b2, b3, b4⟩ | ⟨b1, b2, b3⟩
        · refine Or.inl ⟨b1, b2, b3, (gOc_oth ?_ ?_).trans b4⟩
          · intro e; rw [e, h20] at b4; cases b4
          · intro e; rw [e, h30] at b4; cases b4
        · refine Or.inr ⟨(gOc_oth ?_ ?_).trans b1, b2, b3⟩
          · intro e; rw [e, h20] at b1; cases b1
          · intro e; rw [e, h30] at b1; injection b1 with b1; injection b1 with b1; injection b1 with b1; cases b1
      · obtain ⟨b, fs, w1, w2⟩ := q3 i hi
        exact ⟨b, fs, w1, k3.1 _ _ w2 ⟨by show (7 : Nat) ≠ 3; decide, by show (7 : Nat) ≠ 8; decide⟩⟩
  obtain ⟨σ4, ps4, x1, x2, x3, x4, x5⟩ := c_expl0 (κ := κ) (T := T) (X := X) (α := Unit) (Rp := rpA) (Q := fun _ _ => False) (N0 := 1) (n := N + 5) (by omega) qOkA (by omega) J3 c2 i3 b5 b6 (show (1 : Int32) = b01 true by decide) rd3
  have f9 : ofd σ4 (some j) 3 9 = some (.int ps4) := ofd_at x2.1
  have p4 : ps4 = 1 := x5
  have b1 : oF κ T (N + 6) 57 [va_rf (some j), va_rf s, va_rf none] (oput σ j (.inr (3, [.ref o, .ref pa, .ref ph, .int (nI P.length), .ref ta, .ref th, .int (nI Tr.length), .int rd, va_rf none, .int 1]))) = _ := b1
  have gm : gMo len len1 σ σ4 := (((gMo.of2 (σ := σ) rfl).trans b4).trans (gMo.of2 e3)).trans (gMo.of2 (x4.trans rfl))
  refine ⟨σ4, ca1, len1, _, f3, fa3, ps4, _, _, ?_, x2, (K2.tr k3.k4.b).kx.tr x3.kx, gm, b6⟩
  rw [oE_X1_isSure]
  unfold ob_X1_isSure oj_X1_isSure_18
  rw [opf_at J.1 (by simp only [List.length_cons, List.length_nil]; omega), obn_at]
  show (oin (oF κ T (N + 6) 39 [va_rf (some m)] (oput σ j (.inr (3, [.ref o, .ref pa, .ref ph, .int (nI P.length), .ref ta, .ref th, .int (nI Tr.length), .int rd, va_rf none, .int ps])))) _) = _
  rw [hF _ k00, oin_at, if_pos rfl, ogd_at (by decide), opf_at (oput_eq _ _ _) (by simp), obn_at, oput_oput]
  show (obn (oob (oput σ j (.inr (3, [.ref o, .ref pa, .ref ph, .int (nI P.length), .ref ta, .ref th, .int (nI Tr.length), .int rd, va_rf none, .int 1]))) (some j) 3) fun a4 => ocv (oF κ T (N + 6) 57 [va_rf (some j), va_rf s, va_rf none] (oput σ j (.inr (3, [.ref o, .ref pa, .ref ph, .int (nI P.length), .ref ta, .ref th, .int (nI Tr.length), .int rd, va_rf none, .int 1])))) _) = _
  have J3o : oob (gOc σ2 o ca1 len1 (2 * (ms.length + 1)) 0 1 fa3 f3) (some j) 3 = some j := oob_at J3.1
  rw [oob_at J0.1, obn_at, b1, ocv_at, oob_at J1.1, obn_at, e1, ocv_at, show ofd σ2 (some j) 3 0 = some (.ref o) from ofd_at J2.1, ovr_rf, obn_at, oob_at J2.2.1.1, obn_at, c1, ocv_at, J3o, obn_at, x1, ocv_at, f9, ovi_i, obn_at, if_neg (by rw [p4]; decide)]
end JSU
