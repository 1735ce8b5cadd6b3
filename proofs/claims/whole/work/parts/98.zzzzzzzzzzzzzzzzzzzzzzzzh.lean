/-! the class's gather(): an S as ARG; calls -/
section CWC
variable {κ : oKv} {T T0 : Nat} {st : Nat} {l : Nat → Nat} {b0 : Nat} {nq : tQ → Int} {xs : List tQ} {pg ch ty : Nat} {cf : List Value} {At : Nat → Nat} {mo : Nat} {g : gG} {ρ : Nat → tY} {lv ov : Int32} {CN : Nat → gCd → Prop} {NR : Nat → (Nat × Nat × tT × List tP × List Nat × Nat) → Prop} {V : oSt} {lo g0 : Nat} {nm : Nat → Option Nat} {tE tN : Nat → tY} {φ : Nat → Nat} {Us : List Nat} {kk pp ee f fc : Nat → Int32} {B : Nat → Nat} {D : cDt} {Γ : uGm} {C Bd : Int} {rt : Nat → gTm} {M : Nat} {CB : List Nat → List (gCd × Bool) → Prop} {NB : List Nat → List (gCd × Bool) → (Nat × Nat × tT × List tP × List Nat × Nat) → Prop} {cnt : Nat}
/-- walk() of an S that does not stand alone -/
theorem wk_SP {n m i j lo1 cd su : Nat} {mk al : Int32} {sN : tS} {env : List Nat} {sc : List gEn} {Sc : List sEn} {os : Option Nat} {Es : List (gN × Nat)} {tl : List Nat} {Ψ : kGh} {Ls : List Nat} {σ : oSt} {ln : Nat → Nat} {ct : Nat → Nat → Option Nat} {cs : Nat} {s : gSt} (hc : cSq κ T0 pp ee fc B D lo1 V m mk cd (nR fc pp ee nm env) sN al su) (hal : al ≠ 1) (hlo : lo ≤ lo1) (h : gwS κ st l b0 nq xs pg ch ty cf At mo g ρ lv ov CN NR pp V lo g0 nm tN φ Us i tl Ψ Ls σ ln ct cs s) (hE : gwE st l b0 nq xs Ψ σ CN (dnO g0 φ tl) nm tN lo Ls env sc Sc os Es s.1) (hts : gTs f pp ee env sN.2 = true) (hS : suT st l b0 Ψ.2.2.1 σ (fun y b => (y, b) ∈ Es) su (gTs f pp ee env sN.2) (gOf T f pp ee env sN.2)) (hpp : ∀ u v, u < v → v < cnt → pp u < pp v) (hi : i ≤ cnt) (hj : i ≤ j) : wkR κ st l b0 nq xs pg ch ty cf At mo g ρ lv ov CN NR pp V lo g0 nm tN φ Us (fun y b => (y, b) ∈ Es) i j tl tl Ψ Ls σ cs s (gEq (yB 0) (gOf T f pp ee env sN.2)) (3, 17) (oF κ T (n + 4) 30 [va_rf (some ch), va_rf (some m), va_rf os] σ) := by
  obtain ⟨pa, na, ta, cap, pc, q1, -, q3, q4, -, q6, q7, q8⟩ := hc
  obtain ⟨gs, g1, -, g3⟩ := h.2.2.1.1.nd (by have := q4.1; omega) q1
  have h0 : gs[0]? = some (.int 400) := (g3 0 (by decide) (by decide)).trans rfl
  have h6 : gs[6]? = some (.int al) := (g3 6 (by decide) (by decide)).trans rfl
  have h17 : gs[17]? = some (va_rf none) := (g3 17 (by decide) (by decide)).trans rfl
  have h19 : gs[19]? = some (.ref su) := (g3 19 (by decide) (by decide)).trans rfl
  have := c_plS (κ := κ) (T := T) (n := n) h.2.1 g1 h0 h6 hal h19 hS
  rw [if_pos hts] at this
  exact wk_pl (κ := κ) (T := T) (n := n + 3) (os := os) h g1 h17 h0 (by decide) this hpp hi hj
set_option maxHeartbeats 2000000 in
/-- **S's as ARGS** -/
theorem wga_33 {d z} {a b : tT} (hT : 9010 ≤ T) (hpp : ∀ u v, u < v → v < cnt → pp u < pp v) (hQ : rtQ Γ rt) (hC : 0 ≤ C) (hB : 4 ≤ Bd) (hfc : ∀ env w, nFind fc pp ee env w = nFind f pp ee env w) (hsp : ∀ ps, sPl T0 (fun j => fc j &&& 255) pp ee ps = sPl T f pp ee ps) (hb : b0 ≤ lo) (hV : V.2.1 ≤ g0) (ihb : cWa κ T T0 st l b0 nq xs pg ch ty cf At mo g ρ lv ov CN NR V lo g0 nm tE tN φ Us kk pp ee f fc B D Γ C Bd rt M CB NB cnt b) : cWa κ T T0 st l b0 nq xs pg ch ty cf At mo g ρ lv ov CN NR V lo g0 nm tE tN φ Us kk pp ee f fc B D Γ C Bd rt M CB NB cnt (.inner 33 d z a b) := by
  intro env sc Sc os Es A s Ψ Ls σ ln ct cs i j m fk tl y N gl idx q pa kA tt lo1 gv hA ⟨a1, a2, a3, a4, a5⟩ ⟨hy, hwA, yw, yd, yl⟩ ⟨h2, h2'⟩ ⟨h3, hm, hc, ⟨hq2, hg⟩, hX⟩ ⟨h4, h4'⟩ h5 h6 h7 h8 h9 ⟨h10, h11⟩ kk hN ht
  have a1 : CB env (scC sc) ∧ (suW T f pp ee Γ C Bd tN env d.2.2.2.1.2 ∧ (gMs (gSk f pp ee tN env d.2.2.2.1.2) = true → tmW Γ C Bd (gSv tN env) (gOf T f pp ee env d.2.2.2.1.2)) ∧ (gSv tN env).length + ySx (gSk f pp ee tN env d.2.2.2.1.2) ≤ M) ∧ aT b ∧ gHq T f pp ee tE tN Γ C Bd rt M CB NB b env (scC sc) := a1
  obtain ⟨-, ⟨suw, tmw, -⟩, ab, gb⟩ := a1
  have a2 : yIs y ∧ (yL y = gSk f pp ee tN env d.2.2.2.1.2 ∧ (d.2.1 = 1 ∨ isN d.2.2.2.1.2 = false → gSo f pp ee tN env d.2.2.2.1.2)) ∧ gOk f pp ee tE tN b env (yR y) := a2
  obtain ⟨yi, ⟨yS, so⟩, a2b⟩ := a2
  obtain ⟨⟨r1, r2, -⟩, k, ⟨r3, -⟩, r5, r6⟩ : (i ≤ d.1 ∧ d.1 < j ∧ (33 = 10 → d.2.2.2.1.1 = d.1) ∧ (33 = 33 → d.1 ≤ d.2.2.2.1.1 ∧ d.2.2.2.1.1 ≤ d.1 + 1)) ∧ ∃ k, (d.1 + 1 ≤ k ∧ (33 = 33 → d.2.2.2.1.1 < k)) ∧ tRg a (d.1 + 1) k ∧ tRg b k j := h2
  have kj := tRg.le b k j r6
  obtain ⟨x, su, g1, o1, hXb⟩ := hX
  obtain ⟨⟨q1, q2⟩, -⟩ := cTX_al (T := T) (f := f) (tE := tE) (tN := tN) (Γ := Γ) (C := C) (Bd := Bd) (rt := rt) (M := M) (CB := CB) (NB := NB) b _ (idx + 1) q k j ab gb r6 hXb
  have k1 : yK (gSy A) = 1 := by rw [hy]; exact yIs_1 yi
  obtain ⟨mm, em, -⟩ := hwA.fn k1
  have sy := gSy_tk em
  rw [hy] at sy
  have emy : mm.2.2.1 = .inner 0 () () (yL y) (yR y) := by
    have : gSy A = mm.2.2.1 := by unfold gSy; rw [em]
    rw [← this, hy]; exact yIs_e yi
  have epn : gPn A = mPn mm := by unfold gPn; rw [em]
  have edq : gDq A = mm.2.1.count true := by unfold gDq; rw [em]
  obtain ⟨t, rfl⟩ : ∃ t, tt = t + 1 := ⟨tt - 1, by omega⟩
  obtain ⟨n, rfl⟩ : ∃ n, N = n + 4 := ⟨N - 4, by omega⟩
  have hH : tH (.inner 33 d z a b) = max (tH a) (tH b) := rfl
  have ywe : yW (yL y) ∧ yW (yR y) := by rw [yIs_e yi] at yw; exact yw
  have yde : max (yDp (yL y)) (yDp (yR y)) + 1 ≤ 60 := by rw [yIs_e yi] at yd; exact yd
  have yle : yLs (yL y) + yLs (yR y) ≤ 60 := by rw [yIs_e yi] at yl; exact yl
  have sf := a5.1.1 (Or.inr (Or.inl rfl))
  have hts : gTs f pp ee env d.2.2.2.1.2 = true := a5.1.2.2.2.2.2 rfl
  have O1 := a3.su (T := T) (f := f) (pp := pp) (ee := ee) (by omega) suw
  -- its Sum, at any state
  have sut : ∀ (tl0 : List Nat) (j0 : Nat) (σ' : oSt) (Ψ' : kGh) (Ls' : List Nat) (ln' : Nat → Nat) (ct' : Nat → Nat → Option Nat) (cs' : Nat) (s' : gSt), gMs (yL y) = true → gwS κ st l b0 nq xs pg ch ty cf At mo g ρ lv ov CN NR pp V lo g0 nm tN φ Us j0 tl0 Ψ' Ls' σ' ln' ct' cs' s' → gwE st l b0 nq xs Ψ' σ' CN (dnO g0 φ tl0) nm tN lo Ls' env sc Sc os Es s'.1 → suT st l b0 Ψ'.2.2.1 σ' (fun y b => (y, b) ∈ Es) su (gTs f pp ee env d.2.2.2.1.2) (gOf T f pp ee env d.2.2.2.1.2) := fun tl0 j0 σ' Ψ' Ls' ln' ct' cs' s' ms h hE => o1.su' (T := T) (f := f) h3 hE.2.2.2.1 h.2.2.1.1 h.2.2.1.2 (hfc env) (hsp _) hb (fun x hx => Nat.le_trans hV (h.2.2.2.1.1 x hx)) sf.1 (fun _ x e hx => hE.en (by
    rw [a3.1]
    exact List.mem_reverse.mpr ((tmw (by rw [← yS]; exact ms)).2.2.2 x e hx)))
  -- walk()
  have W : wkR κ st l b0 nq xs pg ch ty cf At mo g ρ lv ov CN NR pp V lo g0 nm tN φ Us (fun y b => (y, b) ∈ Es) i k tl tl Ψ Ls σ cs s (gSu T f pp ee env d.2.2.2.1.2 s) (wSc (gMs (yL y))) (oF κ T (n + 4) 30 [va_rf (some ch), va_rf (some x), va_rf os] σ) := by
    by_cases c : d.2.1 = 1 ∧ isN d.2.2.2.1.2 = true
    · obtain ⟨c1, c2⟩ := c
      obtain ⟨v, hv⟩ := isN_1 c2
      obtain ⟨u, hu⟩ := sf.2 (1, false, v) (by rw [hv]; exact List.mem_singleton_self _) (by show 0 < 1; omega)
      have ue := nF_mem hu
      have gu : gNu f pp ee env v = u := by unfold gNu; rw [hu]; rfl
      have tu : tN u = yB 0 := by
        have := so (Or.inl c1) (1, false, v) (by rw [hv]; exact List.mem_singleton_self _) (by show (1 : Nat) ≠ 0; omega)
        rw [show gNu f pp ee env ((1, false, v) : tP).2.2 = u from gu] at this
        exact this
      have ey : yL y = yB 0 := by
        rw [yS]
        unfold gSk
        rw [if_pos c2, hv]
        show tN (gNu f pp ee env v) = yB 0
        rw [gu, tu]
      have hL : sL (nFind f pp ee env) d.2.2.2.1.2 = [(u, 1)] := by
        rw [hv]
        show (match nFind f pp ee env v with | some b => sAdd [] b (sg false) | none => []) = _
        rw [hu]
        exact sAdd_1 u
      have hP : sPl T f pp ee d.2.2.2.1.2 = 0 := by rw [hv]; rfl
      have eO : gOf T f pp ee env d.2.2.2.1.2 = (some (.inl u, 1), 0) := by
        unfold gOf
        rw [hL, hP]
        rfl
      have eS : gSu T f pp ee env d.2.2.2.1.2 s = gEq (yB 0) (gOf T f pp ee env d.2.2.2.1.2) := by
        unfold gSu
        rw [if_pos c2, hv]
        show gOn (gNu f pp ee env v) s = _
        rw [gu]
        unfold gOn
        rw [(a3.2.2 u ue).1, tu, if_pos (by decide)]
        rw [← hv, eO]
      rw [eS, show wSc (gMs (yL y)) = (3, 17) by rw [ey]; rfl]
      rw [if_pos c1] at o1
      exact wk_SP (κ := κ) (T := T) (n := n) (os := os) (f := f) o1 (by decide) h3 h7 h8 hts (sut tl i σ Ψ Ls ln ct cs s (by rw [ey]; decide) h7 h8) hpp (by omega) (by omega)
    · rw [yS]
      refine wk_S (κ := κ) (T := T) (n := n) (os := os) (f := f) (Γ := Γ) (C := C) (Bd := Bd) (rt := rt) o1 ?_ h3 h7 h8 suw a3 (hfc env) (hsp _) sf.1 (fun v e => sf.2 (1, false, v) (by rw [e]; exact List.mem_singleton_self _) (by show 0 < 1; omega)) hb hV (fun u hu => h7.yw (h5.2 u (h5.1 u hu))) hpp (by omega) (by omega)
      by_cases c1 : d.2.1 = 1
      · rw [if_pos c1]
        exact ⟨fun z => absurd z (by decide), fun z => absurd ⟨c1, z⟩ c⟩
      · rw [if_neg c1]
        exact a4.1 (Or.inr rfl)
  obtain ⟨A', hA'⟩ : ∃ A', A' = if gMs (yL y) = true then gPu (gAn A) (gPn A) (gOf T f pp ee env d.2.2.2.1.2) else gAn A := ⟨_, rfl⟩
  have eG : gWk T f pp ee tE tN (.inner 33 d z a b) env sc A s = gWk T f pp ee tE tN b env sc A' (gFt (gFi (yL y) (gSu T f pp ee env d.2.2.2.1.2 s) (gTk A) sc) s) := by rw [hA', ← hy]; rfl
  have eC : wCo T f pp ee tE tN xs (.inner 33 d z a b) env sc A s = wS [wSc (gMs (yL y)), (3, t15 (gDq A)), wFt (yL y) (gSu T f pp ee env d.2.2.2.1.2 s) (gTk A), (3, if gMs (yL y) = true then 17 + 2 * gDq A else t15 (gDq A)), wCo T f pp ee tE tN xs b env sc A' (gFt (gFi (yL y) (gSu T f pp ee env d.2.2.2.1.2 s) (gTk A) sc) s)] := by rw [hA', ← hy]; rfl
  rw [eG] at h10 h11
  rw [eG, eC]
  have gb1 : sGr s (gWk T f pp ee tE tN b env sc A' (gFt (gFi (yL y) (gSu T f pp ee env d.2.2.2.1.2 s) (gTk A) sc) s)).1 := (gWk_gr b _ _ _ _).ft'
  have l1 := gb1.1; have l2 := gb1.2
  have gx : ∃ gx, V.1 x = some (.inr (7, gx)) ∧ gx[19]? = some (.ref su) := by
    obtain ⟨pa, na, ta, cap, pc, z, -⟩ := o1
    exact ⟨_, z, rfl⟩
  obtain ⟨gx, x7, x19⟩ := gx
  obtain ⟨σ1, k', Ψ1, Ls1, ln1, ct1, cs1, R1, K1, G1, E1, ⟨A1, A1'⟩, ⟨P1, P2⟩, P3, P4⟩ := wa_st (n := n + 1) (t := t) (A' := A') (sl := if gMs (yL y) = true then 17 + 2 * gDq A else t15 (gDq A)) (tk := t15 (gDq A)) hT hpp hQ hC em emy h7 h8 kk hm h3 hc hg hq2 (by omega) g1 ⟨_, x7⟩ W h5.2 h5.2 (fun _ z => z) (fun _ _ => rfl) (by rw [O1.1, yS]) ywe.1 O1.2 hwA a3.2.1 (by omega) (by omega) (by omega) (by omega) (by
    by_cases c : gMs (yL y) = true
    · rw [if_pos c]
    · rw [if_neg c, hA', if_neg c]) (by
    rw [edq]
    split
    · have := t15_le (mm.2.1.count true); omega
    · exact Nat.le_refl _) (by rw [edq]; exact Nat.le_refl _) (fun c => ⟨by rw [if_pos c, edq]; exact Nat.le_refl _, gx, su, x7, x19, gOf T f pp ee env d.2.2.2.1.2, by rw [hA', if_pos c, epn], fun σ' Ψ' Ls' ln' ct' cs' s' G' E' => by
      obtain ⟨na, ta, cap, L, pl, -, -, z⟩ := sut _ _ σ' Ψ' Ls' ln' ct' cs' s' c G' E'
      exact z hts⟩)
  have wA' : wfT Γ C Bd rt (nmS sc) A' := by
    rw [hA']
    by_cases c : gMs (yL y) = true
    · rw [if_pos c]
      obtain ⟨t1, -, t2, t3⟩ := tmw (by rw [← yS]; exact c)
      exact hwA.pu hQ k1 (fun _ hs => hs) (by rw [hy]; exact c) t1 t2 (fun x e' hx => a3.me.mpr (t3 x e' hx))
    · rw [if_neg c]
      exact hwA.an hQ k1 (fun _ hs => hs) (fun w' => absurd (by rw [hy] at w'; exact w') c)
  have sA' : gSy A' = yR y := by
    rw [hA']
    split
    · exact sy.2
    · exact sy.2
  have W2 := ihb env sc Sc os Es A' (gFt (gFi (yL y) (gSu T f pp ee env d.2.2.2.1.2 s) (gTk A) sc) s) Ψ1 Ls1 σ1 ln1 ct1 cs1 k j m fk tl (yR y) (n + 4) gl (idx + 1) q pa k' t lo1 gv ab ⟨gb, a2b, a3, a4.2.2, a5.2.2⟩ ⟨sA', wA', ywe.2, by omega, by omega⟩ ⟨r6, h2'⟩ ⟨h3, hm, hc, ⟨hq2, hg⟩, cTX.kp P1 hXb⟩ ⟨h4, h4'⟩ h5 (fun q q1 q2 w => (A1' q w).elim (h6 q (by omega) (by omega)) (fun w => by omega)) G1 E1 (by omega) ⟨h10, h11⟩ K1 (by omega) (by omega)
  obtain ⟨σ2, k2, Ψ2, Ls2, ln2, ct2, cs2, w1, w2, w3, ⟨w4, w4'⟩, ⟨w5, w6⟩, w7, w8⟩ := W2
  rw [R1, w1]
  refine ⟨σ2, k2, Ψ2, Ls2, ln2, ct2, cs2, rfl, w2, w3, ⟨A1.tr w4 P1.2.2.2, fun q hq => ?_⟩, ⟨(P1.mo (fun x ⟨u, u1, u2, u3⟩ => absurd u1 u2)).tr w5, (P2.mo (Nat.le_refl _) kj).tr (w6.mo (by omega) (Nat.le_refl _))⟩, fun z hz => w7 z (P3 z hz), ?_⟩
  · rcases w4' q hq with w | w
    · exact (A1' q w).imp id (fun w => by omega)
    · exact Or.inr (by omega)
  · obtain ⟨q1, q2, q3⟩ := P4.tr w8
    refine ⟨q1, Nat.le_trans q2 (Nat.le_of_eq ?_), Nat.le_trans q3 (Nat.le_of_eq ?_)⟩
    · simp only [wS]; omega
    · simp only [wS]; omega
/-- **a call** -/
theorem cw_15 {d z} {a b : tT} (hT : 9010 ≤ T) (hfc : ∀ env w, nFind fc pp ee env w = nFind f pp ee env w) (hcnt : cnt ≤ 2000) (hyN : ∀ u, u ∈ Us → yDp (tN u) ≤ 60 ∧ yLs (tN u) ≤ 60) (iha : cWa κ T T0 st l b0 nq xs pg ch ty cf At mo g ρ lv ov CN NR V lo g0 nm tE tN φ Us kk pp ee f fc B D Γ C Bd rt M CB NB cnt a) : cWk κ T T0 st l b0 nq xs pg ch ty cf At mo g ρ lv ov CN NR V lo g0 nm tE tN φ Us kk pp ee f fc B D Γ C Bd rt M CB NB cnt (.inner 15 d z a b) := by
  intro env sc Sc os Es A s Ψ Ls σ ln ct cs i j m fk tl y N hE hI hN
  obtain ⟨⟨a1, a2, a3, a4, a5⟩, ⟨h2, h2'⟩, ⟨lo1, h3, h3'⟩, ⟨h4, h4'⟩, h5, h6, h7, h8, h9, h10, h11⟩ := hI
  have a1 : CB env (scC sc) ∧ gNu f pp ee env d.1 ∈ env ∧ aT a ∧ gHq T f pp ee tE tN Γ C Bd rt M CB NB a env (scC sc) := a1
  obtain ⟨-, -, ta, ga⟩ := a1
  have a2 : y = yRs (tQn a) (tN (gNu f pp ee env d.1)) ∧ gOk f pp ee tE tN a env (tN (gNu f pp ee env d.1)) := a2
  obtain ⟨⟨r1, r2, -⟩, k, ⟨r3, -⟩, r5, r6⟩ : (i ≤ d.1 ∧ d.1 < j ∧ (15 = 10 → d.2.2.2.1.1 = d.1) ∧ (15 = 33 → d.1 ≤ d.2.2.2.1.1 ∧ d.2.2.2.1.1 ≤ d.1 + 1)) ∧ ∃ k, (d.1 + 1 ≤ k ∧ (15 = 33 → d.2.2.2.1.1 < k)) ∧ tRg a (d.1 + 1) k ∧ tRg b k j := h2
  have ka := tRg.le a _ k r5
  have kj := tRg.le b k j r6
  obtain ⟨u, hu⟩ := a5.1.2.2.1 (Or.inr rfl)
  have ue := nF_mem hu
  have gu : gNu f pp ee env d.1 = u := by unfold gNu; rw [hu]; rfl
  rw [gu] at a2
  obtain ⟨o1, pa, q, g', o2, o3, o4⟩ := h3'
  have hm : lo ≤ m := by have := o1.1; omega
  obtain ⟨⟨q1, q2⟩, q3⟩ := cTX_al (T := T) (f := f) (tE := tE) (tN := tN) (Γ := Γ) (C := C) (Bd := Bd) (rt := rt) (M := M) (CB := CB) (NB := NB) a fk 0 q (d.1 + 1) k ta ga r5 o4
  have hH : tH (.inner 15 d z a b) = max (tH a) (tH b) + 1 := rfl
  obtain ⟨n, rfl⟩ : ∃ n, N = n + 2 := ⟨N - 2, by omega⟩
  obtain ⟨gs, g1, -, g3⟩ := h7.2.2.1.1.nd hm o2
  obtain ⟨dd, fa, kf, f1, f3, f4, f5⟩ := h8.2.2.2.2 u ue
  have h9' : gs[9]? = some (.ref (Ψ.1 (.inl u))) := by
    rw [g3 9 (by decide) (by decide)]
    show some (va_rf (nR fc pp ee nm env d.1)) = _
    unfold nR
    rw [hfc, hu]
    show some (va_rf (nm u)) = _
    rw [(h8.2.2.2.1.1 u ue).1]
    rfl
  have uU := h5.2 u (h5.1 u ue)
  have eG : gWk T f pp ee tE tN (.inner 15 d z a b) env sc A s = gWk T f pp ee tE tN a env sc (s.1 u) s := by rw [← gu]; rfl
  have eC : wCo T f pp ee tE tN xs (.inner 15 d z a b) env sc A s = wCo T f pp ee tE tN xs a env sc (s.1 u) s := by rw [← gu]; rfl
  rw [eG] at h10 h11
  rw [eG, eC]
  have W := iha env sc Sc os Es (s.1 u) s Ψ Ls σ ln ct cs (d.1 + 1) k m fk tl (tN u) n g' 0 q pa kf T lo1 _ ta ⟨ga, a2.2, a3, a4.2.1, a5.2.1⟩ ⟨(a3.2.2 u ue).1, (a3.2.2 u ue).2, h7.yw uU, hyN u uU⟩ ⟨r5, by omega⟩ ⟨h3, ⟨hm, o2, rfl⟩, o3, ⟨by omega, fun j b hj e => Nat.le_trans h3 (q3 j b (Nat.zero_le _) hj e)⟩, o4⟩ ⟨h4, h4'⟩ h5 (fun q q1 q2 => h6 q (by omega) (by omega)) (h7.ix (by omega)) h8 (by omega) ⟨h10, h11⟩ f5 (by omega) (by omega)
  obtain ⟨v, hv⟩ := h7.2.1.2.2.2.1
  obtain ⟨σ', kk', Ψ', Ls', ln', ct', cs', w1, w2, w3, ⟨w4, w4'⟩, ⟨w5, w6⟩, w7⟩ := W
  have f9 : ofd σ (some m) 7 9 = some (.ref (Ψ.1 (.inl u))) := (ofd_at g1).trans h9'
  rw [c_wk0 g1 ((g3 17 (by decide) (by decide)).trans rfl)]
  unfold oj_X0_walk_21
  rw [c_pl0 g1 ((g3 0 (by decide) (by decide)).trans rfl), ovi_i, obn_at, if_neg (by decide), if_neg (by decide), if_neg (by decide), if_neg (by decide), if_neg (by decide), if_neg (by decide), if_neg (by decide), if_neg (by decide), if_pos rfl, oob_at hv, obn_at, oE_X0_walkCall]
  unfold ob_X0_walkCall
  rw [f9, ovr_rf, obn_at, (ofd_at f1).trans f4, ovr_rf, obn_at, show (0 : Int32) = nI 0 from rfl, w1, orn_at]
  exact ⟨σ', kk', Ψ', Ls', ln', ct', cs', rfl, w2, w3.ix kj, ⟨w4, fun q hq => (w4' q hq).imp id (fun z => ⟨by omega, by omega⟩)⟩, ⟨w5, w6.mo (by omega) kj⟩, w7⟩
end CWC
