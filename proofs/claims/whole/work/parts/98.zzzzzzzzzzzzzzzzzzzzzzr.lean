/-! the class's gather(): what walk() leaves; Es without an E in them -/
/-- **what walk() leaves**: R the answer; words i to j, NAMES tl' done with -/
def wkR (κ : oKv) (st : Nat) (l : Nat → Nat) (b0 : Nat) (nq : tQ → Int) (xs : List tQ) (pg ch ty : Nat) (cf : List Value) (At : Nat → Nat) (mo : Nat) (g : gG) (ρ : Nat → tY) (lv ov : Int32) (CN : Nat → gCd → Prop) (NR : Nat → (Nat × Nat × tT × List tP × List Nat × Nat) → Prop) (pp : Nat → Int32) (V : oSt) (lo g0 : Nat) (nm : Nat → Option Nat) (tN : Nat → tY) (φ : Nat → Nat) (Us : List Nat) (E : gN → Nat → Prop) (i j : Nat) (tl tl' : List Nat) (Ψ : kGh) (Ls : List Nat) (σ : oSt) (cs : Nat) (s' : gSt) (A : gTy) (dd : Nat × Nat) (R : oRs) : Prop := ∃ σ' k Ψ' Ls' ln' ct' cs', R = some (some (va_rf (some k)), σ') ∧ kRl st l b0 nq xs Ψ' σ' E k A ∧ gwS κ st l b0 nq xs pg ch ty cf At mo g ρ lv ov CN NR pp V lo g0 nm tN φ Us j tl' Ψ' Ls' σ' ln' ct' cs' s' ∧ (gAg σ Ψ Ψ' ∧ ∀ k, Ψ'.2.2.2 k → Ψ.2.2.2 k ∨ (2 * i ≤ k ∧ k < 2 * j)) ∧ (gKp st l b0 (fun x => ∃ u, u ∈ tl' ∧ u ∉ tl ∧ x = φ u) σ σ' ∧ wK7 pp i j σ σ') ∧ (∀ z, z ∈ Ls → z ∈ Ls') ∧ gwC xs.length Ls Ls' cs cs' σ σ' dd.1 dd.2
section WKP
variable {κ : oKv} {T n : Nat} {st : Nat} {l : Nat → Nat} {b0 : Nat} {nq : tQ → Int} {xs : List tQ} {pg ch ty : Nat} {cf : List Value} {At : Nat → Nat} {mo : Nat} {g : gG} {ρ : Nat → tY} {lv ov : Int32} {CN : Nat → gCd → Prop} {NR : Nat → (Nat × Nat × tT × List tP × List Nat × Nat) → Prop} {pp : Nat → Int32} {V : oSt} {lo g0 : Nat} {nm : Nat → Option Nat} {tN : Nat → tY} {φ : Nat → Nat} {Us : List Nat} {E : gN → Nat → Prop} {i j cnt w m : Nat} {tl : List Nat} {Ψ : kGh} {Ls : List Nat} {σ : oSt} {ln : Nat → Nat} {ct : Nat → Nat → Option Nat} {cs : Nat} {s : gSt} {A : gTy} {dn ds : Nat} {R : oRs} {gs : List Value} {kd : Int32} {sc : List gEn} {Sc : List sEn} {os : Option Nat} {Es : List (gN × Nat)} {x : Nat × Nat × tT × List tP × List Nat × Nat}
theorem gwS.ix (h : gwS κ st l b0 nq xs pg ch ty cf At mo g ρ lv ov CN NR pp V lo g0 nm tN φ Us i tl Ψ Ls σ ln ct cs s) (hj : i ≤ j) : gwS κ st l b0 nq xs pg ch ty cf At mo g ρ lv ov CN NR pp V lo g0 nm tN φ Us j tl Ψ Ls σ ln ct cs s := by
  obtain ⟨h1, h2, h3, h4, ⟨h5, h5'⟩, h6⟩ := h
  refine ⟨h1, h2, h3, h4, ⟨h5, fun k x e => ?_⟩, h6⟩
  obtain ⟨m, fs, o, Sc, Es, w, b1, ⟨b2, b3, b4, b5⟩, b6⟩ := h5' k x e
  exact ⟨m, fs, o, Sc, Es, w, b1, ⟨b2, b3, by omega, b5⟩, b6⟩
/-- a function that makes a Known, as what walk() leaves -/
theorem gwS.wk (h : gwS κ st l b0 nq xs pg ch ty cf At mo g ρ lv ov CN NR pp V lo g0 nm tN φ Us i tl Ψ Ls σ ln ct cs s) (k : kMd st l b0 nq xs pg ch ty cf At mo g ρ lv ov Ψ Ls σ E A dn ds R) (hpp : ∀ u v, u < v → v < cnt → pp u < pp v) (hi : i ≤ cnt) (hj : i ≤ j) : wkR κ st l b0 nq xs pg ch ty cf At mo g ρ lv ov CN NR pp V lo g0 nm tN φ Us E i j tl tl Ψ Ls σ cs s A (dn, ds) R := by
  obtain ⟨σ', kk, Ψ', r1, r2, r3, r4, r5, ⟨r6, r7⟩, r8⟩ := h.km k hpp hi
  exact ⟨σ', kk, Ψ', Ls, ln, ct, cs, r1, r2, r3.ix hj, ⟨r4, fun k hk => Or.inl (by rw [r5] at hk; exact hk)⟩, ⟨r6.mo (fun _ z => z.elim), r7.w7⟩, fun _ z => z, r8⟩
/-- an E without an E in it, at which nothing must be SO -/
theorem wk_pl (h : gwS κ st l b0 nq xs pg ch ty cf At mo g ρ lv ov CN NR pp V lo g0 nm tN φ Us i tl Ψ Ls σ ln ct cs s) (hm : σ.1 m = some (.inr (7, gs))) (h17 : gs[17]? = some (va_rf none)) (h0 : gs[0]? = some (.int kd)) (hk : kd ≠ 40 ∧ kd ≠ 201 ∧ kd ≠ 206 ∧ kd ≠ 207 ∧ kd ≠ 212 ∧ kd ≠ 214 ∧ kd ≠ 219 ∧ kd ≠ 220 ∧ kd ≠ 401) (K : kMd st l b0 nq xs pg ch ty cf At mo g ρ lv ov Ψ Ls σ E A dn ds (oF κ T n 20 [va_rf (some m)] σ)) (hpp : ∀ u v, u < v → v < cnt → pp u < pp v) (hi : i ≤ cnt) (hj : i ≤ j) : wkR κ st l b0 nq xs pg ch ty cf At mo g ρ lv ov CN NR pp V lo g0 nm tN φ Us E i j tl tl Ψ Ls σ cs s A (dn, ds) (oF κ T (n + 1) 30 [va_rf (some ch), va_rf (some m), va_rf os] σ) := by
  rw [c_wk0 hm h17, c_w21 hm h0 hk]
  exact h.wk K.rn hpp hi hj
/-- a NAME that is not measured -/
theorem wk_pf {k : Nat} (h : gwS κ st l b0 nq xs pg ch ty cf At mo g ρ lv ov CN NR pp V lo g0 nm tN φ Us i tl Ψ Ls σ ln ct cs s) (hm : σ.1 m = some (.inr (7, gs))) (h17 : gs[17]? = some (va_rf none)) (h0 : gs[0]? = some (.int 400)) (hR : oF κ T n 20 [va_rf (some m)] σ = some (some (va_rf (some k)), σ)) (hk : kRl st l b0 nq xs Ψ σ E k A) (hj : i ≤ j) : wkR κ st l b0 nq xs pg ch ty cf At mo g ρ lv ov CN NR pp V lo g0 nm tN φ Us E i j tl tl Ψ Ls σ cs s A (0, 0) (oF κ T (n + 1) 30 [va_rf (some ch), va_rf (some m), va_rf os] σ) := by
  rw [c_wk0 hm h17, c_w21 hm h0 (by decide), hR, orn_at]
  exact ⟨σ, k, Ψ, Ls, ln, ct, cs, rfl, hk, h.ix hj, ⟨gAg.rf _ _, fun _ z => Or.inl z⟩, ⟨gKp.rf, wK7.rf⟩, fun _ z => z, Nat.le_refl _, by omega, by omega⟩
/-- **an E without an E in it, at which something must be SO** -/
theorem wk_pn (hcf : cf[6]? = some (.ref (l 3))) (h : gwS κ st l b0 nq xs pg ch ty cf At mo g ρ lv ov CN NR pp V lo g0 nm tN φ Us i tl Ψ Ls σ ln ct cs s) (hS : scR st l b0 nq xs Ψ σ CN Sc os sc Es) (hD : ∀ a, Sum.inl a ∈ Sc → dnO g0 φ tl a) (hm : σ.1 m = some (.inr (7, gs))) (hl : gs.length = 21) (h1 : gs[1]? = some (.int (pp i))) (hi : i < cnt) {nd : Nat} (h17 : gs[17]? = some (.ref nd)) (hx : NR m x) (h49 : ln 3 ≤ 12100) (h0 : gs[0]? = some (.int kd)) (hk : kd ≠ 40 ∧ kd ≠ 201 ∧ kd ≠ 206 ∧ kd ≠ 207 ∧ kd ≠ 212 ∧ kd ≠ 214 ∧ kd ≠ 219 ∧ kd ≠ 220 ∧ kd ≠ 401) (hpp : ∀ u v, u < v → v < cnt → pp u < pp v) (hj : i + 1 ≤ j) (K : ∀ σ1, gKp st l b0 (fun _ => False) σ σ1 → tpB st l b0 nq xs Ψ.2.2.1 pg ch ty cf At mo g ρ lv ov Ls σ1 → vM lo V σ1 ∧ pgQ lo V st l b0 σ1 → kMd st l b0 nq xs pg ch ty cf At mo g ρ lv ov Ψ Ls σ1 E A dn ds (oF κ T (n + 6) 20 [va_rf (some m)] σ1)) : wkR κ st l b0 nq xs pg ch ty cf At mo g ρ lv ov CN NR pp V lo g0 nm tN φ Us E i j tl tl Ψ Ls σ cs (gNe (sc, x) s) A (dn, ds) (oF κ T (n + 7) 30 [va_rf (some ch), va_rf (some m), va_rf os] σ) := by
  obtain ⟨σ1, ct1, cs1, R, G, ⟨k1, w1⟩, c1⟩ := h.nd (T := T) (n := n) (w := i) hcf hS hD hm hl h1 ⟨Nat.le_refl _, hi⟩ h17 hx h49 hpp
  obtain ⟨gs', g1, -, g3⟩ := k1.2.2.1 _ _ hm
  rw [R, c_w21 g1 ((g3 0 (by decide)).trans h0) hk]
  obtain ⟨σ', kk, Ψ', r1, r2, r3, r4, r5, ⟨r6, r7⟩, r8⟩ := G.km (K σ1 k1 G.2.1 G.2.2.1).rn hpp (by omega)
  refine ⟨σ', kk, Ψ', Ls, _, ct1, cs1, r1, r2, r3.ix hj, ⟨(gAg.rf σ Ψ).tr r4 k1.2.2.2, fun k hk => Or.inl (by rw [r5] at hk; exact hk)⟩, ⟨(k1.tr r6).mo (fun _ z => z.elim), (w1.mo (Nat.le_refl _) hj).tr r7.w7⟩, fun _ z => z, ?_⟩
  · obtain ⟨x1, x2, x3⟩ := c1.tr r8
    exact ⟨x1, by show _ ≤ _ + 10 * dn; omega, by show _ ≤ _ + ds; omega⟩
/-- from an earlier word on -/
theorem wkR.er {i' : Nat} {tl' : List Nat} {s' : gSt} {dd : Nat × Nat} (h : wkR κ st l b0 nq xs pg ch ty cf At mo g ρ lv ov CN NR pp V lo g0 nm tN φ Us E i j tl tl' Ψ Ls σ cs s' A dd R) (hi : i' ≤ i) : wkR κ st l b0 nq xs pg ch ty cf At mo g ρ lv ov CN NR pp V lo g0 nm tN φ Us E i' j tl tl' Ψ Ls σ cs s' A dd R := by
  obtain ⟨σ', k, Ψ', Ls', ln', ct', cs', r1, r2, r3, ⟨r4, r4'⟩, ⟨r5, r6⟩, r7⟩ := h
  exact ⟨σ', k, Ψ', Ls', ln', ct', cs', r1, r2, r3, ⟨r4, fun k hk => (r4' k hk).imp id (fun z => ⟨by omega, z.2⟩)⟩, ⟨r5, r6.mo hi (Nat.le_refl _)⟩, r7⟩
/-- how many fits and needs there are -/
theorem gwS.len (h : gwS κ st l b0 nq xs pg ch ty cf At mo g ρ lv ov CN NR pp V lo g0 nm tN φ Us i tl Ψ Ls σ ln ct cs s) : ln 0 ≤ s.2.1.length ∧ ln 3 = s.2.2.length := by
  obtain ⟨⟨v, a1, a2, a3, a4, ⟨⟨a5, -⟩, -⟩⟩, h2, h3, h4, ⟨h5, -⟩, h6⟩ := h
  exact ⟨by rw [a5]; exact List.length_filter_le _ _, h5⟩
end WKP
