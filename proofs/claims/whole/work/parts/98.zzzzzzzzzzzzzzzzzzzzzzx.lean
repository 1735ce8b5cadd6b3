/-! the class's gather(): walk() of an S -/
section CWS
variable {κ : oKv} {T T0 n : Nat} {st : Nat} {l : Nat → Nat} {b0 : Nat} {nq : tQ → Int} {xs : List tQ} {pg ch ty : Nat} {cf : List Value} {At : Nat → Nat} {mo : Nat} {g : gG} {ρ : Nat → tY} {lv ov : Int32} {CN : Nat → gCd → Prop} {NR : Nat → (Nat × Nat × tT × List tP × List Nat × Nat) → Prop} {V : oSt} {lo lo1 g0 : Nat} {nm : Nat → Option Nat} {tN : Nat → tY} {φ : Nat → Nat} {Us : List Nat} {pp ee f fc : Nat → Int32} {B : Nat → Nat} {D : cDt} {Γ : uGm} {C Bd : Int} {rt : Nat → gTm} {cnt i j : Nat} {tl : List Nat} {Ψ : kGh} {Ls : List Nat} {σ : oSt} {ln : Nat → Nat} {ct : Nat → Nat → Option Nat} {cs : Nat} {s : gSt} {env : List Nat} {sc : List gEn} {Sc : List sEn} {os : Option Nat} {Es : List (gN × Nat)} {m cd su : Nat} {mk al : Int32} {sN : tS}
theorem wkR.cu {E : gN → Nat → Prop} {tl' : List Nat} {s' : gSt} {A : gTy} {dd : Nat × Nat} {d e : Nat} {R : oRs} (h : wkR κ st l b0 nq xs pg ch ty cf At mo g ρ lv ov CN NR pp V lo g0 nm tN φ Us E i j tl tl' Ψ Ls σ cs s' A dd R) (h1 : dd.1 ≤ d) (h2 : dd.2 ≤ e) : wkR κ st l b0 nq xs pg ch ty cf At mo g ρ lv ov CN NR pp V lo g0 nm tN φ Us E i j tl tl' Ψ Ls σ cs s' A (d, e) R := by
  obtain ⟨σ', k, Ψ', Ls', ln', ct', cs', r1, r2, r3, r4, r5, r6, ⟨r7, r8, r9⟩⟩ := h
  exact ⟨σ', k, Ψ', Ls', ln', ct', cs', r1, r2, r3, r4, r5, r6, r7, by show _ ≤ _ + 10 * d; omega, by show _ ≤ _ + e; omega⟩
theorem isN_1 {ps : List tP} (h : isN ps = true) : ∃ w, ps = [(1, false, w)] := by
  have h := of_decide_eq_true h
  match ps, h with
  | [], h => exact absurd h.1 (by decide)
  | [(a, b, w)], h =>
    obtain ⟨-, h1, h2⟩ := h
    have h1 : a = 1 := h1
    have h2 : b = false := h2
    subst h1 h2
    exact ⟨w, rfl⟩
  | _ :: _ :: _, h => exact absurd h.1 (by intro z; simp at z)
theorem sAdd_1 (b : Nat) : sAdd [] b 1 = [(b, 1)] := rfl
/-- NAMES in scope, by their cells -/
theorem gwE.en {Dn : Nat → Prop} {q : Nat → gTy} (h : gwE st l b0 nq xs Ψ σ CN Dn nm tN lo Ls env sc Sc os Es q) {x : gN} (hx : x ∈ nmS sc) : (x, Ψ.1 x) ∈ Es := by
  rw [h.1.nm] at hx
  obtain ⟨p, p1, p2⟩ := List.mem_map.mp hx
  obtain ⟨-, u3, -⟩ := h.2.2.1 p p1
  rw [← p2, ← u3]
  exact p1
set_option maxHeartbeats 1000000 in
/-- **walk() of an S** -/
theorem wk_S (hc : cSq κ T0 pp ee fc B D lo1 V m mk cd (nR fc pp ee nm env) sN al su) (hal : al = 1 ↔ isN sN.2 = true) (hlo : lo ≤ lo1) (h : gwS κ st l b0 nq xs pg ch ty cf At mo g ρ lv ov CN NR pp V lo g0 nm tN φ Us i tl Ψ Ls σ ln ct cs s) (hE : gwE st l b0 nq xs Ψ σ CN (dnO g0 φ tl) nm tN lo Ls env sc Sc os Es s.1) (w : suW T f pp ee Γ C Bd tN env sN.2) (e : eW Γ C Bd rt tN env sc s.1) (hfc : ∀ w, nFind fc pp ee env w = nFind f pp ee env w) (hsp : sPl T0 (fun j => fc j &&& 255) pp ee sN.2 = sPl T f pp ee sN.2) (hbd : -1125899906842624 ≤ (sPl T f pp ee sN.2).toInt ∧ (sPl T f pp ee sN.2).toInt ≤ 1125899906842624) (hnf : ∀ v, sN.2 = [(1, false, v)] → ∃ u, nFind f pp ee env v = some u) (hb : b0 ≤ lo) (hV : V.2.1 ≤ g0) (hen : ∀ u, u ∈ env → yW (tN u)) (hpp : ∀ u v, u < v → v < cnt → pp u < pp v) (hi : i ≤ cnt) (hj : i ≤ j) : wkR κ st l b0 nq xs pg ch ty cf At mo g ρ lv ov CN NR pp V lo g0 nm tN φ Us (fun y b => (y, b) ∈ Es) i j tl tl Ψ Ls σ cs s (gSu T f pp ee env sN.2 s) (wSc (gMs (gSk f pp ee tN env sN.2))) (oF κ T (n + 4) 30 [va_rf (some ch), va_rf (some m), va_rf os] σ) := by
  obtain ⟨pa, na, ta, cap, pc, q1, -, q3, q4, -, q6, q7, q8⟩ := hc
  have eR : nR fc pp ee nm env = nR f pp ee nm env := funext fun w => by unfold nR; rw [hfc]
  rw [eR] at q1 q3
  rw [hsp] at q3
  obtain ⟨gs, g1, -, g3⟩ := h.2.2.1.1.nd (by have := q4.1; omega) q1
  have h0 : gs[0]? = some (.int 400) := (g3 0 (by decide) (by decide)).trans rfl
  have h6 : gs[6]? = some (.int al) := (g3 6 (by decide) (by decide)).trans rfl
  have h17 : gs[17]? = some (va_rf none) := (g3 17 (by decide) (by decide)).trans rfl
  have h19 : gs[19]? = some (.ref su) := (g3 19 (by decide) (by decide)).trans rfl
  have h9 : gs[9]? = some (sLn (nR f pp ee nm env) sN.2) := (g3 9 (by decide) (by decide)).trans rfl
  have sut : (∀ x e, (gOf T f pp ee env sN.2).1 = some (x, e) → (x, Ψ.1 x) ∈ Es) → suT st l b0 Ψ.2.2.1 σ (fun y b => (y, b) ∈ Es) su (gTs f pp ee env sN.2) (gOf T f pp ee env sN.2) := fun hx => hE.2.2.2.1.su h.2.2.1.1 h.2.2.1.2 q3 ⟨by have := q6.1; omega, by have := q7.1; omega, by have := q8.1; omega⟩ hb (fun z => by have := h.2.2.2.1.1 _ z; have := q8.2.1; omega) hbd rfl hx
  by_cases c : isN sN.2 = true
  · rw [show gSk f pp ee tN env sN.2 = tN (gNu f pp ee env (sN.2.headD (0, false, 0)).2.2) from if_pos c]
    obtain ⟨v, hv⟩ := isN_1 c
    obtain ⟨u, hu⟩ := hnf v hv
    have ue := nF_mem hu
    obtain ⟨d, fa, k, f1, f3, f4, f5⟩ := hE.2.2.2.2 u ue
    have nu := (hE.2.2.2.1.1 u ue).1
    have a1 := hal.mpr c
    have gu : gNu f pp ee env (sN.2.headD (0, false, 0)).2.2 = u := by
      rw [hv]
      show (nFind f pp ee env v).getD 0 = u
      rw [hu]; rfl
    have eG : gSu T f pp ee env sN.2 s = gOn u s := by unfold gSu; rw [if_pos c, gu]
    have h9' : gs[9]? = some (.ref (Ψ.1 (.inl u))) := by
      rw [h9, hv]
      show some (va_rf (nR f pp ee nm env v)) = _
      unfold nR
      rw [hu]
      show some (va_rf (nm u)) = _
      rw [nu]; rfl
    have yu := hen u ue
    have tu := (e.2.2 u ue).1
    rw [eG, gu]
    unfold gOn
    rw [tu]
    subst a1
    cases ms : gMs (tN u) with
    | true =>
      rw [if_pos rfl, show wSc true = (3, 17) from rfl]
      have hL : sL (nFind f pp ee env) sN.2 = [(u, 1)] := by
        rw [hv]
        show (match nFind f pp ee env v with | some b => sAdd [] b (sg false) | none => []) = _
        rw [hu]
        exact sAdd_1 u
      have hP : sPl T f pp ee sN.2 = 0 := by rw [hv]; rfl
      have eO : gOf T f pp ee env sN.2 = (some (.inl u, 1), 0) := by
        unfold gOf
        rw [hL, hP]
        rfl
      have eT : gTs f pp ee env sN.2 = true := by unfold gTs; rw [hL]; rfl
      have su1 := sut (fun x e' hx => by
        rw [eO] at hx
        injection hx with hx
        injection hx with hx _
        rw [← hx]
        refine hE.en ?_
        rw [e.1]
        refine List.mem_reverse.mpr (List.mem_map.mpr ⟨u, List.mem_filter.mpr ⟨ue, ms⟩, rfl⟩))
      rw [eO, eT] at su1
      exact wk_pl (κ := κ) (T := T) (n := n + 3) (os := os) h g1 h17 h0 (by decide) (c_plM (κ := κ) (T := T) (n := n) h.2.1 g1 h0 h6 h9' h19 f1 f3 yu ms su1) hpp hi hj
    | false =>
      rw [if_neg (by decide), show wSc false = (3, 0) from rfl]
      exact (wk_pf (κ := κ) (T := T) (n := n + 3) (os := os) h g1 h17 h0 (c_plF (κ := κ) (T := T) (n := n) g1 h0 h6 h9' f1 f3 yu ms f4) f5 hj).cu (by decide) (by decide)
  · rw [show gSk f pp ee tN env sN.2 = yB 0 from if_neg c, show wSc (gMs (yB 0)) = (3, 17) from rfl]
    have c' : isN sN.2 = false := by
      cases z : isN sN.2 with
      | true => exact absurd z c
      | false => rfl
    have eG : gSu T f pp ee env sN.2 s = if gTs f pp ee env sN.2 = true then gEq (yB 0) (gOf T f pp ee env sN.2) else gPl (yB 0) := by unfold gSu; rw [if_neg c]
    rw [eG]
    have al1 : al ≠ 1 := fun z => c (hal.mp z)
    by_cases ct' : gTs f pp ee env sN.2 = true
    · have su1 := sut (fun x e' hx => hE.en (by
        rw [e.1]
        exact List.mem_reverse.mpr ((w.2 c' ct').2.2.2 x e' hx)))
      exact wk_pl (κ := κ) (T := T) (n := n + 3) (os := os) h g1 h17 h0 (by decide) (c_plS (κ := κ) (T := T) (n := n) h.2.1 g1 h0 h6 al1 h19 su1) hpp hi hj
    · have su1 : suT st l b0 Ψ.2.2.1 σ (fun y b => (y, b) ∈ Es) su (gTs f pp ee env sN.2) (gOf T f pp ee env sN.2) := by
        obtain ⟨x1, x2⟩ := hE.2.2.2.1.sl (f := f) (pp := pp) (ee := ee) sN.2
        have hN : ∀ p, p ∈ sL (nR f pp ee nm env) sN.2 → lo ≤ p.1 := fun p hp' => by
          rw [x1] at hp'
          obtain ⟨p0, z1, z2⟩ := List.mem_map.mp hp'
          rw [← z2]
          exact (hE.2.2.2.1.1 p0.1 (x2 p0 z1)).2
        exact ⟨na, ta, cap, _, _, h.2.2.1.1.sm q3 ⟨by have := q6.1; omega, by have := q7.1; omega, by have := q8.1; omega⟩ hN, by rw [x1, sTe_mp]; rfl, fun z => absurd z ct'⟩
      exact wk_pl (κ := κ) (T := T) (n := n + 3) (os := os) h g1 h17 h0 (by decide) (c_plS (κ := κ) (T := T) (n := n) h.2.1 g1 h0 h6 al1 h19 su1) hpp hi hj
end CWS
