/-! the class's Judge: isSure() -/
section JSU
variable {lo : Nat × (Nat → Prop)} {κ : oKv} {T j o pa ph ta th : Nat} {rd : Int32} {wk : Option Nat} {ps : Int32} {B : Int} {ti : Nat → Nat} {Mn : Nat → Bool → List oBr} {X : Nat → Prop} {bs : Nat → Int32} {kn : Nat → Nat}
theorem z_len : ∀ l : List ((Nat × Bool) × Nat), (∀ y, y ∈ l → 1 ≤ y.2) → l.length ≤ (l.map Prod.snd).sum
  | [], _ => Nat.le_refl _
  | y :: l, hy => by
    have := z_len l (fun w hw => hy w (List.mem_cons_of_mem _ hw))
    have := hy y (List.mem_cons_self ..)
    simp only [List.map_cons, List.sum_cons, List.length_cons]
    omega
/-- one more condition -/
theorem bgI.asm {N Hm A0 ca len W c m a : Nat} {sl : Nat → Nat} {σ : oSt} {f : Nat → Int64} {fa : Int32} {Tr : List (Nat × Bool)} {L : List oLm} {Z : List ((Nat × Bool) × Nat)} {Wy : List (List oBr)} {Lp : List oLm} {hh : Bool} (hT : 200 ≤ T) (hc : 0 < c ∧ c ≤ 60) (hWc : W = 2 * c) (hl : len < 2 ^ 31) (hm : W * W ≤ len) (hB : 2 ≤ B) (hBW : (W : Int) * B + B + 2 ≤ 4503599627370496) (hN : Hm + 6 ≤ N) (hM : jMn X κ σ pa ph ta th rd sl ti c B Mn Hm a m) (hA : A0 + a ≤ 20) (hI : bgI X κ j o ca pa ph ta th len W c rd wk ps B sl ti Mn Hm A0 σ f fa Tr L Z Wy Lp) : ∃ σ' f' fa' Tr' L' Z', oF κ T N 56 [va_rf (some j), va_rf (some m), .int (b01 hh)] σ = some (none, σ') ∧ jKp pa ph ta th σ σ' ∧ σ'.2 = σ.2 ∧ bgI X κ j o ca pa ph ta th len W c rd wk ps B sl ti Mn Hm (A0 + a) σ' f' fa' Tr' L' Z' (Wy ++ [Mn m hh]) Lp := by
  obtain ⟨J, i2, i3, i4, i5, i6, i7⟩ := hI
  have zl : (Z.map Prod.fst).length ≤ (Z.map Prod.snd).sum := by
    rw [List.length_map]
    exact z_len Z (fun z hz => (i4 z hz).1.nd.2)
  obtain ⟨σ1, f1, fa1, P1, Tr1, L1, a1, a2, ⟨a3, a4⟩, a5, a6, a7, ⟨a8, a8'⟩, ⟨⟨Zn, z1, z2, z3, z4⟩, Y, a10⟩, a12, a13⟩ := c_assume (κ := κ) (T := T) (X := X) (ti := ti) (b := 0) (cl := 0) (by omega) hc hWc hl (by omega) (by omega) hBW Hm a m N σ f fa (Z.map Prod.fst) Tr L hh hN hM J i2 i3 (by omega) (by omega)
  have eP : P1 = (Z ++ Zn).map Prod.fst := by rw [z1, List.map_append]
  subst eP
  refine ⟨σ1, f1, fa1, Tr1, L1, Z ++ Zn, a1, a3, a4, a2, a5, a6, fun y hy => ?_, by rw [List.map_append, List.sum_append]; omega, a12 i6, fun K hK' => ?_⟩
  · rcases List.mem_append.mp hy with hy | hy
    · exact ⟨jMn.jk a3 _ _ _ (i4 y hy).1, (i4 y hy).2.jk a3⟩
    · exact z3 y hy
  · have eM : pMn Mn ((Z ++ Zn).map Prod.fst) = pMn Mn (Z.map Prod.fst) ++ pMn Mn (Zn.map Prod.fst) := by unfold pMn; rw [List.map_append, List.map_append]
    rw [eM, exL.app, exL.swap hK'.1, z4 _ (exL.d hK' _), ← exL.pull hK'.1, i7 _ (exB.d hK'), exL.app]
    rfl
/-- a Sum that is no FACT tells nothing -/
theorem c_limU {n su na ta' cap : Nat} {L : List (Nat × Int32)} {pl : Int64} {σ : oSt} {s le : Int32} (hs : cSm σ su na ta' cap L pl) (h1 : sFa L = false) (h2 : 0 < L.length) : oF κ T (n + 2) 54 [va_rf (some j), va_rf (some su), .int s, .int le] σ = some (none, σ) := by
  obtain ⟨q1, q2, q3⟩ := hs.cn
  have hs' := hs
  obtain ⟨g, h', s1, -⟩ := hs'
  rw [show n + 2 = (n + 1) + 1 from rfl, oE_X1_limit]
  unfold ob_X1_limit
  rw [q2, ovl_lg, obn_at, q1, ovi_i, obn_at, if_neg (fun e => by have := nI_inj' (b := 0) (by omega) (by decide) e; omega), oob_at s1, obn_at, x_fact hs, h1]
  rfl
theorem c_cmpU {n m su na ta' cap r : Nat} {L : List (Nat × Int32)} {pl : Int64} {σ : oSt} {fs jf : List Value} (hj : σ.1 j = some (.inr (3, jf))) (hs : cSm σ su na ta' cap L pl) (h1 : sFa L = false) (h2 : 0 < L.length) (hm : σ.1 m = some (.inr (7, fs))) (f5 : fs[5]? = some (.int (jRc r))) (hr : r ≤ 5) (hr5 : rNo r ≠ 5) (f19 : fs[19]? = some (.ref su)) : oF κ T (n + 3) 55 [va_rf (some j), va_rf (some m), .int 0] σ = some (none, σ) := by
  have lm : ∀ s le : Int32, oF κ T (n + 2) 54 [va_rf (some j), va_rf (some su), .int s, .int le] σ = some (none, σ) := fun s le => c_limU hs h1 h2
  have g5 : ofd σ (some m) 7 5 = some (.int (jRc r)) := (ofd_at hm).trans f5
  have g19 : ofd σ (some m) 7 19 = some (.ref su) := (ofd_at hm).trans f19
  have e65 : ∀ x3 : Int32, oj_X1_compare_65 T (oF κ T (n + 2)) κ (some j) (some m) x3 σ = some (none, σ) := fun x3 => by
    unfold oj_X1_compare_65
    rw [g19, ovr_rf, obn_at, oob_at hj, obn_at, obn_at, lm, lm, ocv_at]
    split
    · rfl
    · split
      · rfl
      · split <;> rfl
  have e62 : ∀ x3 t2 t3 : Int32, oj_X1_compare_62 T (oF κ T (n + 2)) κ (some j) (some m) x3 (some j) (some su) t2 t3 σ = some (none, σ) := fun x3 t2 t3 => by
    unfold oj_X1_compare_62
    rw [oob_at hj, obn_at, lm, ocv_at, e65]
  rw [show n + 3 = (n + 2) + 1 from rfl, oE_X1_compare]
  unfold ob_X1_compare
  rw [if_pos rfl, g5, ovi_i, obn_at, c_opp (n := n + 1) hr, oin_at]
  unfold oj_X1_compare_18
  have h35 : ¬ jRc (rNo r) = 35 := fun e => hr5 (jRc_inj (rNo r) (by unfold rNo; split <;> (try split) <;> (try split) <;> (try split) <;> (try split) <;> omega) 5 (by decide) e)
  rw [if_neg h35, e65, g19, ovr_rf, obn_at, e62, e62]
  split
  · rfl
  · split
    · rfl
    · split <;> rfl
/-- explore() where all is decided -/
theorem c_expl0 {α : Type} {Rp : oSt → Int32 → List α → Prop} {Q : α → List oLm → Prop} {N0 W n ca len : Nat} {fa : Int32} {f : Nat → Int64} {P Tr : List (Nat × Bool)} {L : List oLm} {σ : oSt} (hT : 2 ≤ T) (hq : qOk κ T N0 j o pa ph ta th W B rd wk X Rp Q) (hn : N0 + 3 ≤ n) (J : jSt σ j o ca pa ph ta th len W 0 1 fa f rd wk ps P Tr) (hv : oQn W 0 L f fa) (hL : xLn B W L) (hm : W * W ≤ len) (hl : len ≤ 201600) (hR : Rp σ ps []) (hP : ∀ x, P[0]? = some x → ∃ fs, σ.1 x.1 = some (.inr (7, fs)) ∧ (fs[0]? = some (.int 403) ∨ ∃ k0 li dd cap q mc g, fs[0]? = some (.int k0) ∧ ¬ k0 = 403 ∧ fs[18]? = some (.ref li) ∧ cLs κ σ li dd cap q mc g 7)) : ∃ σ' ps', oF κ T (n + 1) 63 [va_rf (some j), .int 0] σ = some (none, σ') ∧ jSt σ' j o ca pa ph ta th len W 0 1 fa f rd wk ps' P Tr ∧ jKw X pa ph ta th σ σ' ∧ σ'.2 = σ.2 ∧ Rp σ' ps' [] := by
  obtain ⟨T, rfl⟩ : ∃ t', T = t' + 1 := ⟨T - 1, by omega⟩
  obtain ⟨n, rfl⟩ : ∃ n', n = n' + 1 := ⟨n - 1, by omega⟩
  have fJ0 : ofd σ (some j) 3 0 = some (.ref o) := ofd_at J.1
  have fJ3 : ofd σ (some j) 3 3 = some (.int (nI P.length)) := ofd_at J.1
  have fJ6 : ofd σ (some j) 3 6 = some (.int (nI Tr.length)) := ofd_at J.1
  have fJ1 : ofd σ (some j) 3 1 = some (.ref pa) := ofd_at J.1
  have fJ2 : ofd σ (some j) 3 2 = some (.ref ph) := ofd_at J.1
  have fO4 : ofd σ (some o) 8 4 = some (.int fa) := ofd_at J.2.1.1
  have hPl := J.2.2.2.2.1.1
  rw [oE_X1_explore]
  unfold ob_X1_explore
  rw [fJ0, ovr_rf, obn_at, fO4, ovi_i, obn_at]
  rcases hv.1 with rfl | rfl
  case inr =>
    rw [if_neg (by decide)]
    exact ⟨σ, ps, rfl, J, jKw.rf σ, rfl, hR⟩
  rw [if_pos rfl, fJ3, ovi_i, obn_at]
  cases P with
  | nil =>
    rw [if_neg (show ¬ (0 : Int32) < nI ([] : List (Nat × Bool)).length by decide), oob_at J.1, obn_at]
    obtain ⟨σ', ps', c1, c2, c3, c4, c5⟩ := hq.2.2.2 (n + 1) σ ca len 0 f ps [] Tr L [] (by omega) J hv hL (by omega) hl hR
    exact ⟨σ', ps', by rw [c1, ocv_at], c2, c3, c4, c5⟩
  | cons x P =>
    obtain ⟨fs, h7, hk⟩ := hP x rfl
    obtain ⟨gp, hp, h4, h5, h6⟩ := J.2.2.1
    obtain ⟨g1, g2⟩ := h6 0 _ rfl
    have zi : zin 0 40 = true := by decide
    have ck : (0 : Int32).toNatClampNeg = 0 := by decide
    have rp : oar σ (some pa) 0 = some (some x.1) := by
      simp only [oar, h4, zi, if_true, ck, g1]
    have rh : oai σ (some ph) .boolean 0 = some (b01 x.2) := by
      simp only [oai, h5, zi, and_self, if_true, ck, g2]
    have dec := hq.2.2.1 n σ ca len 0 0 f ps (x :: P) Tr [] J hR
    have lp : ∀ q : Int32, oj_X1_explore_71 (T + 1) (oF κ (T + 1) (n + 1)) κ (some j) 0 (some x.1) (b01 x.2) (nI (x :: P).length) (nI Tr.length) q σ = some (none, σ) := fun q => by
      unfold oj_X1_explore_71
      rw [ol_X1_explore_76]
      by_cases z : q ≤ 0
      · rw [if_pos z]
      · rw [if_neg z, oob_at J.1, obn_at, dec, oin_at, if_neg (by show ¬ b01 true = 0; decide)]
    rw [if_pos (show (0 : Int32) < nI (x :: P).length from nI_lt (a := 0) (by simp) (by simp only [List.length_cons] at hPl ⊢; omega)), fJ1, ovr_rf, obn_at, rp, obn_at, fJ2, ovr_rf, obn_at, rh, obn_at, obn_at, fJ6, ovi_i, obn_at]
    refine ⟨σ, ps, ?_, J, jKw.rf σ, rfl, hR⟩
    rcases hk with hk | ⟨k0, li, dd, cap, q, mc, g, hk, hk0, hk1, hk2⟩
    · rw [show ofd σ (some x.1) 7 0 = some (.int 403) from (ofd_at h7).trans hk, ovi_i, obn_at, if_pos rfl, lp]
    · rw [show ofd σ (some x.1) 7 0 = some (.int k0) from (ofd_at h7).trans hk, ovi_i, obn_at, if_neg hk0, show ofd σ (some x.1) 7 18 = some (.ref li) from (ofd_at h7).trans hk1, ovr_rf, obn_at, oob_at hk2.1, obn_at, l_sz hk2, oin_at, lp]
/-- a C that is none of FACTS: one comparison, or two -/
def suU (κ : oKv) (σ : oSt) (lo m : Nat) : Prop := ∃ fs, σ.1 m = some (.inr (7, fs)) ∧ ((fs[0]? = some (.int 403) ∧ ∃ su na ta' cap L pl r, fs[19]? = some (.ref su) ∧ cSm σ su na ta' cap L pl ∧ (lo ≤ na ∧ lo ≤ ta') ∧ sFa L = false ∧ 0 < L.length ∧ fs[5]? = some (.int (jRc r)) ∧ r ≤ 5 ∧ rNo r ≠ 5) ∨ (fs[0]? = some (.int 302) ∧ ∃ li dd cap q mc g, fs[18]? = some (.ref li) ∧ cLs κ σ li dd cap q mc g 7 ∧ lo ≤ dd ∧ dd < σ.2.1))
theorem suU.kb {σ σ' : oSt} {m : Nat} (hJ : pa < lo.1 ∧ ph < lo.1 ∧ ta < lo.1 ∧ th < lo.1) (h : jKb pa ph ta th σ σ') (g : suU κ σ lo.1 m) : suU κ σ' lo.1 m := by
  obtain ⟨fs, g1, g2⟩ := g
  refine ⟨fs, h.ob g1 (by decide) (by decide) (by decide) (by decide), ?_⟩
  rcases g2 with ⟨a1, su, na, ta', cap, L, pl, r, a2, ⟨g, h', s1, s2, s3, s4, s5⟩, a4, a5⟩ | ⟨a1, li, dd, cap, q, mc, g, a2, ⟨q1, q2, q3⟩, a4, a5⟩
  · refine Or.inl ⟨a1, su, na, ta', cap, L, pl, r, a2, ⟨g, h', h.ob s1 (by decide) (by decide) (by decide) (by decide), h.ar s2 (fun e => by cases e) (by omega), h.ar s3 (fun e => by cases e) (by omega), s4, fun k b c e => ?_⟩, a4, a5⟩
    obtain ⟨q1, q2, fs, q3⟩ := s5 k b c e
    obtain ⟨f2, q4, -⟩ := h.2.2.1 _ _ q3
    exact ⟨q1, q2, f2, q4⟩
  · refine Or.inr ⟨a1, li, dd, cap, q, mc, g, a2, ⟨h.ob q1 (by decide) (by decide) (by decide) (by decide), ?_, fun i hi => ?_⟩, a4, Nat.lt_of_lt_of_le a5 h.2.2.2.2⟩
    · rcases q2 with ⟨b1, b2, b3, b4⟩ | ⟨b1, b2, b3⟩
      · exact Or.inl ⟨b1, b2, b3, h.2.2.2.1 _ b4 (Or.inl a5)⟩
      · exact Or.inr ⟨h.ar b1 (fun e => by cases e) (by omega), b2, b3⟩
    · obtain ⟨b, fs, e1, e2⟩ := q3 i hi
      exact ⟨b, fs, e1, h.ob e2 (by decide) (by decide) (by decide) (by decide)⟩
end JSU
