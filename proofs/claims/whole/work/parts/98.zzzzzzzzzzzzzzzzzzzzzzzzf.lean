/-! the class's gather(): a call's ARGS -/
section CWA
variable (κ : oKv) (T T0 : Nat) (st : Nat) (l : Nat → Nat) (b0 : Nat) (nq : tQ → Int) (xs : List tQ) (pg ch ty : Nat) (cf : List Value) (At : Nat → Nat) (mo : Nat) (g : gG) (ρ : Nat → tY) (lv ov : Int32) (CN : Nat → gCd → Prop) (NR : Nat → (Nat × Nat × tT × List tP × List Nat × Nat) → Prop) (V : oSt) (lo g0 : Nat) (nm : Nat → Option Nat) (tE tN : Nat → tY) (φ : Nat → Nat) (Us : List Nat) (kk pp ee f fc : Nat → Int32) (B : Nat → Nat) (D : cDt) (Γ : uGm) (C Bd : Int) (rt : Nat → gTm) (M : Nat) (CB : List Nat → List (gCd × Bool) → Prop) (NB : List Nat → List (gCd × Bool) → (Nat × Nat × tT × List tP × List Nat × Nat) → Prop) (cnt : Nat)
/-- **the contract of walkCall()'s loop** -/
def cWa (t : tT) : Prop := ∀ (env : List Nat) (sc : List gEn) (Sc : List sEn) (os : Option Nat) (Es : List (gN × Nat)) (A : gTy) (s : gSt) (Ψ : kGh) (Ls : List Nat) (σ : oSt) (ln : Nat → Nat) (ct : Nat → Nat → Option Nat) (cs i j m fk : Nat) (tl : List Nat) (y : tY) (N : Nat) (gl : Nat → Option Nat) (idx q pa kA tt lo1 : Nat) (gv : List Value), aT t → (gHq T f pp ee tE tN Γ C Bd rt M CB NB t env (scC sc) ∧ gOk f pp ee tE tN t env y ∧ eW Γ C Bd rt tN env sc s.1 ∧ tSn kk t ∧ wTx T f pp ee t env) → (gSy A = y ∧ wfT Γ C Bd rt (nmS sc) A ∧ (yW y ∧ yDp y ≤ 60 ∧ yLs y ≤ 60)) → (tRg t i j ∧ j ≤ cnt) → (lo ≤ lo1 ∧ (lo ≤ m ∧ V.1 m = some (.inr (7, gv)) ∧ gv[18]? = some (.ref pa)) ∧ cLn κ B D lo1 V pa q gl ∧ (q ≤ 2000 ∧ ∀ j b, j < q → gl j = some b → lo ≤ b) ∧ cTX κ T0 kk pp ee fc B D (fun m u => eXw σ g ρ tE m u) lo1 V nm t env fk gl idx q) → ((∀ u, u ∈ wW t → u ∈ Us ∧ u ∉ tl) ∧ (wW t).Nodup) → ((∀ u, u ∈ env → u ∈ tl) ∧ ∀ u, u ∈ tl → u ∈ Us) → (∀ k, 2 * i ≤ k → k < 2 * j → ¬ Ψ.2.2.2 k) → gwS κ st l b0 nq xs pg ch ty cf At mo g ρ lv ov CN NR pp V lo g0 nm tN φ Us i tl Ψ Ls σ ln ct cs s → gwE st l b0 nq xs Ψ σ CN (dnO g0 φ tl) nm tN lo Ls env sc Sc os Es s.1 → Sc.length + 63 * tH t ≤ 5000 → ((gWk T f pp ee tE tN t env sc A s).1.2.1.length ≤ 12000 ∧ (gWk T f pp ee tE tN t env sc A s).1.2.2.length ≤ 12000) → kRl st l b0 nq xs Ψ σ (fun y b => (y, b) ∈ Es) kA A → 75 + 4 * tH t ≤ N → q < idx + tt → wkR κ st l b0 nq xs pg ch ty cf At mo g ρ lv ov CN NR pp V lo g0 nm tN φ Us (fun y b => (y, b) ∈ Es) i j tl (tl ++ wW t) Ψ Ls σ cs (gWk T f pp ee tE tN t env sc A s).1 (gWk T f pp ee tE tN t env sc A s).2 (wCo T f pp ee tE tN xs t env sc A s) (ol_X0_walkCall_11 T (oF κ T N) κ tt (some ch) (some m) os (some kA) (nI idx) σ)
end CWA
section CWB
variable {κ : oKv} {T T0 : Nat} {st : Nat} {l : Nat → Nat} {b0 : Nat} {nq : tQ → Int} {xs : List tQ} {pg ch ty : Nat} {cf : List Value} {At : Nat → Nat} {mo : Nat} {g : gG} {ρ : Nat → tY} {lv ov : Int32} {CN : Nat → gCd → Prop} {NR : Nat → (Nat × Nat × tT × List tP × List Nat × Nat) → Prop} {V : oSt} {lo g0 : Nat} {nm : Nat → Option Nat} {tE tN : Nat → tY} {φ : Nat → Nat} {Us : List Nat} {kk pp ee f fc : Nat → Int32} {B : Nat → Nat} {D : cDt} {Γ : uGm} {C Bd : Int} {rt : Nat → gTm} {M : Nat} {CB : List Nat → List (gCd × Bool) → Prop} {NB : List Nat → List (gCd × Bool) → (Nat × Nat × tT × List tP × List Nat × Nat) → Prop} {cnt : Nat}
/-- a call's ARGS in cells -/
theorem cTX_al {X : Nat → Nat → Prop} {lo1 : Nat} {cs : List (gCd × Bool)} {env : List Nat} {gl : Nat → Option Nat} : ∀ (t : tT) (fk idx q i j : Nat), aT t → gHq T f pp ee tE tN Γ C Bd rt M CB NB t env cs → tRg t i j → cTX κ T0 kk pp ee fc B D X lo1 V nm t env fk gl idx q → (idx ≤ q ∧ q ≤ idx + (j - i)) ∧ ∀ a b, idx ≤ a → a < q → gl a = some b → lo1 ≤ b
  | .leaf, fk, idx, q, i, j, _, _, _, h => by
    have h : idx = q := h
    exact ⟨⟨by omega, by omega⟩, fun a b h1 h2 => by omega⟩
  | .inner 33 d z a b, fk, idx, q, i, j, hA, hq, hr, h => by
    have hq : CB env cs ∧ _ ∧ aT b ∧ gHq T f pp ee tE tN Γ C Bd rt M CB NB b env cs := hq
    obtain ⟨⟨r1, r2, -⟩, k, ⟨r3, -⟩, r5, r6⟩ : (i ≤ d.1 ∧ d.1 < j ∧ _) ∧ ∃ k, (d.1 + 1 ≤ k ∧ _) ∧ tRg a (d.1 + 1) k ∧ tRg b k j := hr
    obtain ⟨x, su, h1, h2, h3⟩ := h
    obtain ⟨⟨i1, i2⟩, i3⟩ := cTX_al b fk (idx + 1) q k j hq.2.2.1 hq.2.2.2 r6 h3
    have := tRg.le b k j r6
    refine ⟨⟨by omega, by omega⟩, fun a' b' e1 e2 e3 => ?_⟩
    by_cases c : a' = idx
    · rw [c, h1] at e3
      injection e3 with e3
      rw [← e3]
      obtain ⟨pa, na, ta, cap, pc, -, -, -, z, -⟩ := h2
      exact z.1
    · exact i3 a' b' (by omega) e2 e3
  | .inner 34 d z a b, fk, idx, q, i, j, hA, hq, hr, h => by
    have hq : CB env cs ∧ _ ∧ (eT a ∧ aT b) ∧ _ ∧ gHq T f pp ee tE tN Γ C Bd rt M CB NB b env cs := hq
    obtain ⟨⟨r1, r2, -⟩, k, ⟨r3, -⟩, r5, r6⟩ : (i ≤ d.1 ∧ d.1 < j ∧ _) ∧ ∃ k, (d.1 + 1 ≤ k ∧ _) ∧ tRg a (d.1 + 1) k ∧ tRg b k j := hr
    obtain ⟨x, fs, h1, h2, -, h3⟩ := h
    obtain ⟨⟨i1, i2⟩, i3⟩ := cTX_al b _ (idx + 1) q k j hq.2.2.1.2 hq.2.2.2.2 r6 h3
    have := tRg.le b k j r6
    refine ⟨⟨by omega, by omega⟩, fun a' b' e1 e2 e3 => ?_⟩
    by_cases c : a' = idx
    · rw [c, h1] at e3
      injection e3 with e3
      rw [← e3]
      exact h2.1.1
    · exact i3 a' b' (by omega) e2 e3
  | .inner 35 d z a b, fk, idx, q, i, j, hA, hq, hr, h => by
    have hq : CB env cs ∧ _ ∧ aT b ∧ gHq T f pp ee tE tN Γ C Bd rt M CB NB b env cs := hq
    obtain ⟨⟨r1, r2, -⟩, k, ⟨r3, -⟩, r5, r6⟩ : (i ≤ d.1 ∧ d.1 < j ∧ _) ∧ ∃ k, (d.1 + 1 ≤ k ∧ _) ∧ tRg a (d.1 + 1) k ∧ tRg b k j := hr
    obtain ⟨x, h1, h2, h3⟩ := h
    obtain ⟨⟨i1, i2⟩, i3⟩ := cTX_al b fk (idx + 1) q k j hq.2.2.1 hq.2.2.2 r6 h3
    have := tRg.le b k j r6
    refine ⟨⟨by omega, by omega⟩, fun a' b' e1 e2 e3 => ?_⟩
    by_cases c : a' = idx
    · rw [c, h1] at e3
      injection e3 with e3
      rw [← e3]
      exact h2.1.1
    · exact i3 a' b' (by omega) e2 e3
/-- no ARG is left -/
theorem wga_0 : cWa κ T T0 st l b0 nq xs pg ch ty cf At mo g ρ lv ov CN NR V lo g0 nm tE tN φ Us kk pp ee f fc B D Γ C Bd rt M CB NB cnt .leaf := by
  intro env sc Sc os Es A s Ψ Ls σ ln ct cs i j m fk tl y N gl idx q pa kA tt lo1 gv hA h1 hy ⟨h2, h2'⟩ ⟨h3, ⟨hm, o2, g18⟩, hc, hg, hX⟩ h4 h5 h6 h7 h8 h9 h10 kk hN ht
  have hX : idx = q := hX
  have h2 : i ≤ j := h2
  subst hX
  obtain ⟨t, rfl⟩ : ∃ t, tt = t + 1 := ⟨tt - 1, by omega⟩
  obtain ⟨n, rfl⟩ : ∃ n, N = n + 1 := ⟨N - 1, by omega⟩
  obtain ⟨d, cap, mc, c1, c2, c3, -⟩ := hc
  have cp := h7.2.2.1.1.2.2 pa _ (Nat.le_trans h3 c3.1) c1.1 (fun fs z => by cases z) (fun fs z => by cases z) (fun _ _ z => by cases z <;> decide) (fun fs z => by cases z)
  obtain ⟨gs, g1, -, g3⟩ := h7.2.2.1.1.nd hm o2
  have f18 : ofd σ (some m) 7 18 = some (.ref pa) := (ofd_at g1).trans ((g3 18 (by decide) (by decide)).trans g18)
  rw [ol_X0_walkCall_11, f18, ovr_rf, obn_at, oob_at cp, obn_at, l_sz0 cp, oin_at, if_pos (Int32.le_refl _)]
  refine ⟨σ, kA, Ψ, Ls, ln, ct, cs, rfl, kk, h7.dn (fun u hu => List.mem_append_left _ hu) |>.ix h2, ⟨gAg.rf _ _, fun _ z => Or.inl z⟩, ⟨gKp.rf, wK7.rf⟩, fun _ z => z, Nat.le_refl _, ?_, ?_⟩
  · show _ ≤ _ + 0; omega
  · show _ ≤ _ + 0; omega
/-- the type of an ARG, and what is left -/
theorem yIs_e {y : tY} (h : yIs y) : y = .inner 0 () () (yL y) (yR y) := h
set_option maxHeartbeats 2000000 in
/-- **truths as ARGS** -/
theorem wga_35 {d z} {a b : tT} (hT : 9010 ≤ T) (hpp : ∀ u v, u < v → v < cnt → pp u < pp v) (hQ : rtQ Γ rt) (hC : 0 ≤ C) (ihb : cWa κ T T0 st l b0 nq xs pg ch ty cf At mo g ρ lv ov CN NR V lo g0 nm tE tN φ Us kk pp ee f fc B D Γ C Bd rt M CB NB cnt b) : cWa κ T T0 st l b0 nq xs pg ch ty cf At mo g ρ lv ov CN NR V lo g0 nm tE tN φ Us kk pp ee f fc B D Γ C Bd rt M CB NB cnt (.inner 35 d z a b) := by
  intro env sc Sc os Es A s Ψ Ls σ ln ct cs i j m fk tl y N gl idx q pa kA tt lo1 gv hA ⟨a1, a2, a3, a4, a5⟩ ⟨hy, hwA, yw, yd, yl⟩ ⟨h2, h2'⟩ ⟨h3, hm, hc, ⟨hq2, hg⟩, hX⟩ ⟨h4, h4'⟩ h5 h6 h7 h8 h9 ⟨h10, h11⟩ kk hN ht
  have a1 : CB env (scC sc) ∧ (35 : Nat) = 35 ∧ aT b ∧ gHq T f pp ee tE tN Γ C Bd rt M CB NB b env (scC sc) := a1
  have a2 : yIs y ∧ yL y = yB 1 ∧ gOk f pp ee tE tN b env (yR y) := a2
  obtain ⟨⟨r1, r2, -⟩, k, ⟨r3, -⟩, r5, r6⟩ : (i ≤ d.1 ∧ d.1 < j ∧ (35 = 10 → d.2.2.2.1.1 = d.1) ∧ (35 = 33 → d.1 ≤ d.2.2.2.1.1 ∧ d.2.2.2.1.1 ≤ d.1 + 1)) ∧ ∃ k, (d.1 + 1 ≤ k ∧ (35 = 33 → d.2.2.2.1.1 < k)) ∧ tRg a (d.1 + 1) k ∧ tRg b k j := h2
  have kj := tRg.le b k j r6
  obtain ⟨x, g1, ⟨o1, o2⟩, hXb⟩ := hX
  obtain ⟨⟨q1, q2⟩, -⟩ := cTX_al (T := T) (f := f) (tE := tE) (tN := tN) (Γ := Γ) (C := C) (Bd := Bd) (rt := rt) (M := M) (CB := CB) (NB := NB) b fk (idx + 1) q k j a1.2.2.1 a1.2.2.2 r6 hXb
  have k1 : yK (gSy A) = 1 := by rw [hy]; exact yIs_1 a2.1
  obtain ⟨mm, em, -⟩ := hwA.fn k1
  have sy := gSy_tk em
  rw [hy] at sy
  have emy : mm.2.2.1 = .inner 0 () () (yL y) (yR y) := by
    have : gSy A = mm.2.2.1 := by unfold gSy; rw [em]
    rw [← this, hy]; exact yIs_e a2.1
  obtain ⟨t, rfl⟩ : ∃ t, tt = t + 1 := ⟨tt - 1, by omega⟩
  obtain ⟨n, rfl⟩ : ∃ n, N = n + 3 := ⟨N - 3, by omega⟩
  have hH : tH (.inner 35 d z a b) = max (tH a) (tH b) := rfl
  obtain ⟨gs, gx1, -, gx3⟩ := h7.2.2.1.1.nd (hg idx x (by omega) g1) o2
  have W := wk_pl (κ := κ) (T := T) (n := n + 2) (os := os) (E := fun y b => (y, b) ∈ Es) (j := k) h7 gx1 ((gx3 17 (by decide) (by decide)).trans rfl) ((gx3 0 (by decide) (by decide)).trans rfl) (by split <;> decide) (c_plB (κ := κ) (T := T) (n := n) h7.2.1 gx1 (by
    rw [gx3 0 (by decide) (by decide)]
    by_cases c : d.2.1 = 1
    · rw [if_pos c]; exact Or.inr rfl
    · rw [if_neg c]; exact Or.inl rfl)) hpp (by omega) (by omega)
  have y1 : yL y = yB 1 := a2.2.1
  have ms : ¬ gMs (yL y) = true := by rw [y1]; decide
  have ywe : yW (yL y) ∧ yW (yR y) := by rw [yIs_e a2.1] at yw; exact yw
  have yde : max (yDp (yL y)) (yDp (yR y)) + 1 ≤ 60 := by rw [yIs_e a2.1] at yd; exact yd
  have yle : yLs (yL y) + yLs (yR y) ≤ 60 := by rw [yIs_e a2.1] at yl; exact yl
  have eG : gWk T f pp ee tE tN (.inner 35 d z a b) env sc A s = gWk T f pp ee tE tN b env sc (gAn A) s := rfl
  have eC : wCo T f pp ee tE tN xs (.inner 35 d z a b) env sc A s = wS [(1, 15), (3, 15), (3, 15), wCo T f pp ee tE tN xs b env sc (gAn A) s] := rfl
  rw [eG] at h10 h11
  rw [eG, eC]
  have gb1 : sGr s (gWk T f pp ee tE tN b env sc (gAn A) s).1 := gWk_gr b _ _ _ _
  have l1 := gb1.1; have l2 := gb1.2
  obtain ⟨σ1, k', Ψ1, Ls1, ln1, ct1, cs1, R1, K1, G1, E1, ⟨A1, A1'⟩, ⟨P1, P2⟩, P3, P4⟩ := wa_st (t := t) (A' := gAn A) (sl := 15) (tk := 15) hT hpp hQ hC em emy h7 h8 kk hm h3 hc hg hq2 (by omega) g1 ⟨_, o2⟩ W h5.2 h5.2 (fun _ z => z) (fun _ _ => rfl) (by rw [y1]; rfl) ywe.1 (gPl_w (by decide)) hwA a3.2.1 (by omega) (by omega) (by omega) (by omega) (if_neg ms).symm (t15_le _) (t15_le _) (fun z => absurd z ms)
  have eF : gFt (gFi (yL y) (gPl (yB 1)) (gTk A) sc) s = s := by
    rw [y1]
    show (s.1, s.2.1 ++ [], s.2.2) = s
    rw [List.append_nil]
  rw [eF] at G1
  have hw' : ∀ u, u ∈ wW (.inner 35 d z a b) → u ∈ Us ∧ u ∉ tl := h4
  have W2 := ihb env sc Sc os Es (gAn A) s Ψ1 Ls1 σ1 ln1 ct1 cs1 k j m fk tl (yR y) (n + 3) gl (idx + 1) q pa k' t lo1 gv a1.2.2.1 ⟨a1.2.2.2, a2.2.2, a3, a4.2.2, a5.2.2⟩ ⟨sy.2, hwA.an hQ k1 (fun _ hs => hs) (fun w => by rw [hy] at w; exact absurd w ms), ywe.2, by omega, by omega⟩ ⟨r6, h2'⟩ ⟨h3, hm, hc, ⟨hq2, hg⟩, cTX.kp P1 hXb⟩ ⟨h4, h4'⟩ h5 (fun q q1 q2 w => (A1' q w).elim (h6 q (by omega) (by omega)) (fun w => by omega)) G1 E1 (by omega) ⟨h10, h11⟩ K1 (by omega) (by omega)
  obtain ⟨σ2, k2, Ψ2, Ls2, ln2, ct2, cs2, w1, w2, w3, ⟨w4, w4'⟩, ⟨w5, w6⟩, w7, w8⟩ := W2
  rw [R1, w1]
  refine ⟨σ2, k2, Ψ2, Ls2, ln2, ct2, cs2, rfl, w2, w3, ⟨A1.tr w4 P1.2.2.2, fun q hq => ?_⟩, ⟨(P1.mo (fun x ⟨u, u1, u2, u3⟩ => absurd u1 u2)).tr w5, (P2.mo (Nat.le_refl _) kj).tr (w6.mo (by omega) (Nat.le_refl _))⟩, fun z hz => w7 z (P3 z hz), ?_⟩
  · rcases w4' q hq with w | w
    · exact (A1' q w).imp id (fun w => by omega)
    · exact Or.inr (by omega)
  · obtain ⟨q1, q2, q3⟩ := P4.tr w8
    have c0 : (wFt (yL y) (gPl (yB 1)) (gTk A)).1 = 0 ∧ (wFt (yL y) (gPl (yB 1)) (gTk A)).2 = 0 := by rw [y1]; exact ⟨rfl, rfl⟩
    refine ⟨q1, Nat.le_trans q2 (Nat.le_of_eq ?_), Nat.le_trans q3 (Nat.le_of_eq ?_)⟩
    · simp only [wS]; rw [c0.1]; omega
    · simp only [wS]; rw [c0.2]; omega
set_option maxHeartbeats 2000000 in
/-- **functions as ARGS** -/
theorem wga_34 {d z} {a b : tT} (hT : 9010 ≤ T) (hpp : ∀ u v, u < v → v < cnt → pp u < pp v) (hQ : rtQ Γ rt) (hC : 0 ≤ C) (hB : 4 ≤ Bd) (iha : cWk κ T T0 st l b0 nq xs pg ch ty cf At mo g ρ lv ov CN NR V lo g0 nm tE tN φ Us kk pp ee f fc B D Γ C Bd rt M CB NB cnt a) (ihb : cWa κ T T0 st l b0 nq xs pg ch ty cf At mo g ρ lv ov CN NR V lo g0 nm tE tN φ Us kk pp ee f fc B D Γ C Bd rt M CB NB cnt b) : cWa κ T T0 st l b0 nq xs pg ch ty cf At mo g ρ lv ov CN NR V lo g0 nm tE tN φ Us kk pp ee f fc B D Γ C Bd rt M CB NB cnt (.inner 34 d z a b) := by
  intro env sc Sc os Es A s Ψ Ls σ ln ct cs i j m fk tl y N gl idx q pa kA tt lo1 gv hA ⟨a1, a2, a3, a4, a5⟩ ⟨hy, hwA, yw, yd, yl⟩ ⟨h2, h2'⟩ ⟨h3, hm, hc, ⟨hq2, hg⟩, hX⟩ ⟨h4, h4'⟩ h5 h6 h7 h8 h9 ⟨h10, h11⟩ kk hN ht
  have a1 : CB env (scC sc) ∧ (∀ y, gOk f pp ee tE tN a env y → gMs y = false ∧ (gSv tN env).length + ySx y ≤ M) ∧ (eT a ∧ aT b) ∧ gHq T f pp ee tE tN Γ C Bd rt M CB NB a env (scC sc) ∧ gHq T f pp ee tE tN Γ C Bd rt M CB NB b env (scC sc) := a1
  obtain ⟨-, am, ⟨ea, ab⟩, ga, gb⟩ := a1
  have a2 : yIs y ∧ gOk f pp ee tE tN a env (yL y) ∧ gOk f pp ee tE tN b env (yR y) := a2
  obtain ⟨⟨r1, r2, -⟩, k, ⟨r3, -⟩, r5, r6⟩ : (i ≤ d.1 ∧ d.1 < j ∧ (34 = 10 → d.2.2.2.1.1 = d.1) ∧ (34 = 33 → d.1 ≤ d.2.2.2.1.1 ∧ d.2.2.2.1.1 ≤ d.1 + 1)) ∧ ∃ k, (d.1 + 1 ≤ k ∧ (34 = 33 → d.2.2.2.1.1 < k)) ∧ tRg a (d.1 + 1) k ∧ tRg b k j := h2
  have ka := tRg.le a _ k r5
  have kj := tRg.le b k j r6
  obtain ⟨x, fsx, g1, ⟨o1, o2, -⟩, hXa, hXb⟩ := hX
  obtain ⟨⟨q1, q2⟩, -⟩ := cTX_al (T := T) (f := f) (tE := tE) (tN := tN) (Γ := Γ) (C := C) (Bd := Bd) (rt := rt) (M := M) (CB := CB) (NB := NB) b _ (idx + 1) q k j ab gb r6 hXb
  have k1 : yK (gSy A) = 1 := by rw [hy]; exact yIs_1 a2.1
  obtain ⟨mm, em, -⟩ := hwA.fn k1
  have sy := gSy_tk em
  rw [hy] at sy
  have emy : mm.2.2.1 = .inner 0 () () (yL y) (yR y) := by
    have : gSy A = mm.2.2.1 := by unfold gSy; rw [em]
    rw [← this, hy]; exact yIs_e a2.1
  obtain ⟨t, rfl⟩ : ∃ t, tt = t + 1 := ⟨tt - 1, by omega⟩
  obtain ⟨n, rfl⟩ : ∃ n, N = n + 3 := ⟨N - 3, by omega⟩
  have hH : tH (.inner 34 d z a b) = max (tH a) (tH b) := rfl
  have ms : ¬ gMs (yL y) = true := by rw [(am _ a2.2.1).1]; decide
  have ywe : yW (yL y) ∧ yW (yR y) := by rw [yIs_e a2.1] at yw; exact yw
  have yde : max (yDp (yL y)) (yDp (yR y)) + 1 ≤ 60 := by rw [yIs_e a2.1] at yd; exact yd
  have yle : yLs (yL y) + yLs (yR y) ≤ 60 := by rw [yIs_e a2.1] at yl; exact yl
  have h4 : ∀ u, u ∈ wW a ++ wW b → u ∈ Us ∧ u ∉ tl := h4
  have h4' : (wW a ++ wW b).Nodup := h4'
  obtain ⟨nd1, nd2, nd3⟩ := List.nodup_append.mp h4'
  obtain ⟨ra, hra⟩ : ∃ r, r = gWk T f pp ee tE tN a env sc A s := ⟨_, rfl⟩
  have eG : gWk T f pp ee tE tN (.inner 34 d z a b) env sc A s = gWk T f pp ee tE tN b env sc (gAn A) (gFt (gFi (yL y) ra.2 (gTk A) sc) ra.1) := by rw [hra, ← hy]; rfl
  have edq : gDq A = mm.2.1.count true := by unfold gDq; rw [em]
  have eC : wCo T f pp ee tE tN xs (.inner 34 d z a b) env sc A s = wS [wCo T f pp ee tE tN xs a env sc A s, (3, t15 (gDq A)), wFt (yL y) ra.2 (gTk A), (3, t15 (gDq A)), wCo T f pp ee tE tN xs b env sc (gAn A) (gFt (gFi (yL y) ra.2 (gTk A) sc) ra.1)] := by rw [hra, ← hy]; rfl
  rw [eG] at h10 h11
  rw [eG, eC]
  have gb1 : sGr ra.1 (gWk T f pp ee tE tN b env sc (gAn A) (gFt (gFi (yL y) ra.2 (gTk A) sc) ra.1)).1 := (gWk_gr b _ _ _ _).ft'
  have l1 := gb1.1; have l2 := gb1.2
  have O1 := gWk_w (T := T) (f := f) (pp := pp) (ee := ee) (tE := tE) (tN := tN) (CB := CB) (NB := NB) (M := M) hQ hC hB a env sc A s (yL y) ga a2.2.1 a3 (aH_e ea)
  rw [yOu_e ea, ← hra] at O1
  have W := iha env sc Sc os Es A s Ψ Ls σ ln ct cs (d.1 + 1) k x fk tl (yL y) (n + 3) ea ⟨⟨ga, a2.2.1, a3, a4.2.1, a5.2.1⟩, ⟨r5, by omega⟩, ⟨lo1, h3, hXa⟩, ⟨fun u hu => h4 u (List.mem_append_left _ hu), nd1⟩, h5, fun q q1 q2 => h6 q (by omega) (by omega), h7.ix (by omega), h8, by omega, by rw [← hra]; omega, by rw [← hra]; omega⟩ (by omega)
  rw [← hra] at W
  have U1 : ∀ u, u ∈ tl ++ wW a → u ∈ Us := fun u hu => (List.mem_append.mp hu).elim (h5.2 u) (fun z => (h4 u (List.mem_append_left _ z)).1)
  obtain ⟨σ1, k', Ψ1, Ls1, ln1, ct1, cs1, R1, K1, G1, E1, ⟨A1, A1'⟩, ⟨P1, P2⟩, P3, P4⟩ := wa_st (t := t) (A' := gAn A) (sl := t15 (gDq A)) (tk := t15 (gDq A)) hT hpp hQ hC em emy (h7.ix (by omega)) h8 kk hm h3 hc hg hq2 (by omega) g1 ⟨_, o2⟩ W h5.2 U1 (fun _ z => List.mem_append_left _ z) O1.2.1 O1.1.1 ywe.1 O1.1.2 hwA a3.2.1 (by omega) (by omega) (by omega) (by omega) (if_neg ms).symm (by rw [edq]; exact Nat.le_refl _) (by rw [edq]; exact Nat.le_refl _) (fun z => absurd z ms)
  have W2 := ihb env sc Sc os Es (gAn A) (gFt (gFi (yL y) ra.2 (gTk A) sc) ra.1) Ψ1 Ls1 σ1 ln1 ct1 cs1 k j m (fk + nF a) (tl ++ wW a) (yR y) (n + 3) gl (idx + 1) q pa k' t lo1 gv ab ⟨gb, a2.2.2, a3.cg O1.2.1, a4.2.2, a5.2.2⟩ ⟨sy.2, hwA.an hQ k1 (fun _ hs => hs) (fun w => by rw [hy] at w; exact absurd w ms), ywe.2, by omega, by omega⟩ ⟨r6, h2'⟩ ⟨h3, hm, hc, ⟨hq2, hg⟩, cTX.kp P1 hXb⟩ ⟨fun u hu => ⟨(h4 u (List.mem_append_right _ hu)).1, fun w => (List.mem_append.mp w).elim (h4 u (List.mem_append_right _ hu)).2 (fun w => nd3 u w u hu rfl)⟩, nd2⟩ ⟨fun u hu => List.mem_append_left _ (h5.1 u hu), U1⟩ (fun q q1 q2 w => (A1' q w).elim (h6 q (by omega) (by omega)) (fun w => by omega)) G1 E1 (by omega) ⟨h10, h11⟩ K1 (by omega) (by omega)
  obtain ⟨σ2, k2, Ψ2, Ls2, ln2, ct2, cs2, w1, w2, w3, ⟨w4, w4'⟩, ⟨w5, w6⟩, w7, w8⟩ := W2
  rw [R1, w1]
  refine ⟨σ2, k2, Ψ2, Ls2, ln2, ct2, cs2, rfl, w2, w3.dn (fun u hu => by rw [List.append_assoc] at hu; exact hu), ⟨A1.tr w4 P1.2.2.2, fun q hq => ?_⟩, ⟨?_, (P2.mo (by omega) kj).tr (w6.mo (by omega) (Nat.le_refl _))⟩, fun z hz => w7 z (P3 z hz), ?_⟩
  · rcases w4' q hq with w | w
    · exact (A1' q w).imp id (fun w => by omega)
    · exact Or.inr (by omega)
  · refine (P1.mo (fun x ⟨u, u1, u2, u3⟩ => ⟨u, (List.mem_append.mp u1).elim (fun w => List.mem_append_left _ w) (fun w => List.mem_append_right _ (List.mem_append_left _ w)), u2, u3⟩)).tr (w5.mo (fun x ⟨u, u1, u2, u3⟩ => ⟨u, ?_, fun w => u2 (List.mem_append_left _ w), u3⟩))
    rw [List.append_assoc] at u1
    exact u1
  · obtain ⟨q1, q2, q3⟩ := P4.tr w8
    refine ⟨q1, Nat.le_trans q2 (Nat.le_of_eq ?_), Nat.le_trans q3 (Nat.le_of_eq ?_)⟩
    · simp only [wS]; omega
    · simp only [wS]; omega
end CWB
