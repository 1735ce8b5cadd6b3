/-! the class's gather(): template() as a whole -/
/-- what template() leaves: R the answer -/
def tmR (st : Nat) (l : Nat → Nat) (b0 : Nat) (nq : tQ → Int) (xs : List tQ) (pg ch ty : Nat) (cf : List Value) (At : Nat → Nat) (mo : Nat) (g : gG) (ρ : Nat → tY) (lv ov : Int32) (y : tY) (m : gTm) (Ψ : kGh) (Ls : List Nat) (σ : oSt) (R : oRs) : Prop := ∃ σ' Ψ' Ls', R = some (some (va_rf (some (Ψ'.2.1 (m.1, m.2.1)))), σ') ∧ (kTo st l b0 nq xs Ψ' σ' y m ∧ kTp (fun x => σ.2.1 ≤ x) Ψ' y m ∧ (kTj Ψ' y m σ.2.1 σ'.2.1 ∧ kNj Ψ'.1 y m σ.2.1 σ'.2.1)) ∧ tpB st l b0 nq xs Ψ'.2.2.1 pg ch ty cf At mo g ρ lv ov Ls' σ' ∧ gDf m σ Ψ Ψ' ∧ (gKp st l b0 (fun x => ∃ w, w ∈ m.2.2.2.1 ∧ x = Ψ.1 (.inl w)) σ σ' ∧ shX st σ σ') ∧ ((∀ z, z ∈ Ls → z ∈ Ls') ∧ ∀ z, z ∈ Ls' → z ∈ Ls ∨ σ.2.1 ≤ z) ∧ gPl2 xs.length Ls Ls' σ σ' (tCn xs y) (tCs xs y m.2.2.2.2.length) ∧ toK Ψ' σ' y m
section TMW
variable {κ : oKv} {T n : Nat} {st : Nat} {l : Nat → Nat} {b0 : Nat} {nq : tQ → Int} {xs : List tQ} {σ : oSt} {pg ch ty : Nat} {cf : List Value} {At : Nat → Nat} {mo : Nat} {g : gG} {ρ : Nat → tY} {lv ov : Int32} {Ls : List Nat} {nl : Option Nat} {CN : Nat → gCd → Prop} {Ψ : kGh} {Sc : List sEn} {s : Option Nat} {sc : List gEn} {Es : List (gN × Nat)} {key c : Nat} {ns : List Nat} {y : tY}
/-- what * may be, in its row -/
theorem c_tpS (hcf : cfO pg ty st cf) (h : tpB st l b0 nq xs Ψ.2.2.1 pg ch ty cf At mo g ρ lv ov Ls σ) (hs : scR st l b0 nq xs Ψ σ CN Sc s sc Es) (hE : ∀ p, p ∈ Es → p.2 = Ψ.1 p.1 ∧ p.2 ∈ Ls) (hSc : Sc.length < T) (hl : Es.length ≤ 73) {W : Nat → Prop} : ∃ σ', oF κ T (n + 2) 28 [va_rf (some ch), .int (nI c), va_rf nl, va_rf s] σ = tpK κ T n ch (nI c) nl σ' ∧ tpS st l b0 nq xs Ψ.2.2.1 pg ch ty cf At mo g ρ lv ov Ψ.1 (gSs sc) Ls σ' ∧ tmP xs.length σ' Ls = tmP xs.length σ Ls ∧ σ'.2 = σ.2 ∧ gKp st l b0 W σ σ' ∧ shX st σ σ' := by
  obtain ⟨h1, h2, h3, ⟨v, h4⟩, ⟨f, h5⟩, h6, h7⟩ := h
  obtain ⟨e1, e2, e3, e4⟩ := id hcf
  have w : prW st σ ch (.inr (2, (cf.set 8 (.int v)).set 8 (.int (nI Es.length)))) := Or.inr (Or.inl ⟨_, _, h4, rfl⟩)
  obtain ⟨n1, n2⟩ := w.nt h2 ⟨_, h5⟩
  have cs : ch ≠ st := fun z => by rw [z, h5] at h4; cases h4
  have hf1 : (oput σ ch (.inr (2, (cf.set 8 (.int v)).set 8 (.int (nI Es.length))))).1 st = some (.inl (.object "LiquidTongue$Name", 73, .inr (.inr (.inr (.inr f))))) := by rw [oput_ne (fun z => cs z.symm)]; exact h5
  have kp : ∀ W, gKp st l b0 W σ (oput σ ch (.inr (2, (cf.set 8 (.int v)).set 8 (.int (nI Es.length))))) := fun W => w.kp (fun f z => by rw [h4] at z; cases z) (fun f z => by rw [h4] at z; cases z)
  have sh := w.sh (fun f z => by rw [h4] at z; cases z)
  have hc1 : (oput σ ch (.inr (2, (cf.set 8 (.int v)).set 8 (.int (nI Es.length))))).1 ch = some (.inr (2, cf.set 8 (.int (nI Es.length)))) := by rw [oput_eq, List.set_set]
  have R : oF κ T (n + 2) 28 [va_rf (some ch), .int (nI c), va_rf nl, va_rf s] σ = ol_X0_template_59 T (oF κ T (n + 1)) κ T (some ch) (nI c) nl (nI Es.length) s (oput σ ch (.inr (2, (cf.set 8 (.int v)).set 8 (.int (nI Es.length))))) := by
    rw [show n + 2 = (n + 1) + 1 from rfl, oE_X0_template]
    unfold ob_X0_template
    have := c_tp6 (κ := κ) (T := T) (n := n) (ch := ch) (x1 := nI c) (nl := nl) (s0 := s) Sc s sc Es 0 T hs hSc
    rw [Nat.zero_add] at this
    refine Eq.trans this ?_
    rw [opf_at h4 (by rw [List.length_set]; omega), obn_at]
  have iv1 := w.iv h1
  obtain ⟨f', g1, g2, g3⟩ := c_tp59 (κ := κ) (T := T) (n := n) (x1 := nI c) (nl := nl) (v8 := .int (nI Es.length)) e4 Sc s sc Es T f _ iv1 hc1 hf1 (hs.sp (kp (fun _ => False)) (gAg.rf _ _) h1.1 Sc s sc Es (fun _ _ z => z)) hSc hl
  have w2 : prW st (oput σ ch (.inr (2, (cf.set 8 (.int v)).set 8 (.int (nI Es.length))))) st (.inl (.object "LiquidTongue$Name", 73, .inr (.inr (.inr (.inr f'))))) := Or.inr (Or.inr (Or.inl ⟨rfl, _, _, hf1, rfl⟩))
  obtain ⟨m1, m2⟩ := w2.nt n1 ⟨_, hf1⟩
  have kp2 : gKp st l b0 W (oput σ ch (.inr (2, (cf.set 8 (.int v)).set 8 (.int (nI Es.length))))) (oput (oput σ ch (.inr (2, (cf.set 8 (.int v)).set 8 (.int (nI Es.length))))) st (.inl (.object "LiquidTongue$Name", 73, .inr (.inr (.inr (.inr f')))))) := w2.kp (fun f z => by rw [hf1] at z; cases z) (fun f z => by rw [hf1] at z; cases z)
  have sh2 := w2.sh (fun f z => by rw [hf1] at z; cases z)
  have eS : gSs sc = (Es.map Prod.fst).reverse := by rw [gSs_mS, hs.nm]
  refine ⟨_, R.trans g1, ⟨w2.iv iv1, m1, w2.qr (w.qr h3), ?_, ⟨f', oput_eq _ _ _, fun i x hx => ?_⟩, w2.ls (w.ls h6), (h7.sh sh ⟨_, h5⟩).sh sh2 ⟨_, hf1⟩⟩, (tmP_cg (fun a ha => m2 a (h6.2 a ha).1)).trans (tmP_cg (fun a ha => n2 a (h6.2 a ha).1)), rfl, (kp W).tr kp2, sh.tr sh2⟩
  · rw [oput_ne cs, eS, List.length_reverse, List.length_map]; exact hc1
  · rw [eS] at hx
    have hi : i < Es.length := by
      by_cases z : i < Es.length
      · exact z
      · rw [List.getElem?_eq_none (by rw [List.length_reverse, List.length_map]; omega)] at hx; cases hx
    rw [List.getElem?_reverse (by rw [List.length_map]; exact hi), List.length_map, List.getElem?_map] at hx
    cases ep : Es[Es.length - 1 - i]? with
    | none => rw [ep] at hx; cases hx
    | some p =>
      rw [ep] at hx
      injection hx with hx
      have q := g2 _ p ep
      rw [show Es.length - 1 - (Es.length - 1 - i) = i by omega] at q
      obtain ⟨q1, q2⟩ := hE p (List.mem_of_getElem? ep)
      rw [← hx, ← q1]
      exact ⟨q, q2⟩
/-- **template()** -/
theorem c_tmpl (hT : 9010 ≤ T) (hnq : ∀ x, x ∈ xs → -1125899906842624 ≤ nq x ∧ nq x ≤ 1125899906842624) (hcf : cfO pg ty st cf) (h : tpB st l b0 nq xs Ψ.2.2.1 pg ch ty cf At mo g ρ lv ov Ls σ) (hs : scR st l b0 nq xs Ψ σ CN Sc s sc Es) (hE : ∀ p, p ∈ Es → p.2 = Ψ.1 p.1 ∧ p.2 ∈ Ls) (hSc : Sc.length < T) (hρ : ρ c = y) (hc : c < g.n) (tn : toN κ nl 0 Ψ.1 ns σ) (tb : toB Ψ.1 Ls ns y σ) (nd : (ns.map (fun w => Ψ.1 (.inl w))).Nodup) (sp : ∀ x, x ∈ gSs sc → (∀ w, w ∈ ns → Ψ.1 x ≠ Ψ.1 (.inl w)) ∧ ∀ r, x ≠ .inr (key, r)) (hS : (gSs sc).length + ySx y ≤ 72) (hD : yDp y ≤ 60) (hn : 7 + yDp y ≤ n + 1) : tmR st l b0 nq xs pg ch ty cf At mo g ρ lv ov y (key, [], y, ns, gSs sc) Ψ Ls σ (oF κ T (n + 2) 28 [va_rf (some ch), .int (nI c), va_rf nl, va_rf s] σ) := by
  have eL : Es.length = (gSs sc).length := by rw [gSs_mS, hs.nm, List.length_reverse, List.length_map]
  obtain ⟨σ2, R, t2, tp2, s2, k2, sh2⟩ := c_tpS (κ := κ) (T := T) (n := n) (c := c) (nl := nl) (W := fun x => ∃ w, w ∈ ns ∧ x = Ψ.1 (.inl w)) hcf h hs hE hSc (by omega)
  obtain ⟨f5, h5⟩ := h.2.2.2.2.1
  obtain ⟨σ', Ψ', Ls', r1, r2, r3, r4, ⟨r5, r5'⟩, r6, r7, r8⟩ := c_shape (κ := κ) (T := T) hT hnq hcf y (n + 1) c 0 (key, [], y, ns, gSs sc) nl Ψ Ls σ2 hn hρ hc rfl t2 (tn.sp sh2 k2 ⟨_, h5⟩ (fun _ => rfl)) (tb.sp k2 (fun _ => rfl) (fun _ z => z)) nd (fun x hx => ⟨(sp x hx).1, fun r => by show x ≠ .inr (key, [] ++ r); rw [List.nil_append]; exact (sp x hx).2 r⟩) hS (by omega)
  have r1 : oF κ T (n + 1) 27 [va_rf (some ch), .int (nI c), va_rf nl, .int 0] σ2 = _ := r1
  rw [s2] at r2 r6
  refine ⟨σ', Ψ', Ls', ?_, r2, r3.b, ⟨r4.1, r4.2.1, by rw [← s2]; exact r4.2.2.1, r4.2.2.2⟩, ⟨k2.tr r5, sh2.tr r5'⟩, r6, ?_, r8⟩
  · rw [R]
    unfold tpK
    rw [oob_at t2.2.2.2.1, obn_at, r1, orn_at]
  · unfold gPl2 at r7 ⊢
    rw [tp2, s2] at r7
    exact r7
end TMW
