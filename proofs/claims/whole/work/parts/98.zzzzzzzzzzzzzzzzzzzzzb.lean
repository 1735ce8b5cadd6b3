/-! the class's gather(): shape(), a parameter's NAME -/
section SHN
variable {κ : oKv} {T n : Nat} {st : Nat} {l : Nat → Nat} {b0 : Nat} {nq : tQ → Int} {xs : List tQ} {Q Q' : Nat → Prop} {σ : oSt} {pg ch ty : Nat} {cf : List Value} {At : Nat → Nat} {mo : Nat} {g : gG} {ρ : Nat → tY} {lv ov : Int32} {na : gN → Nat} {S : List gN} {Ls : List Nat} {nl : Option Nat} {x1 x3 : Int32} {x : gN} {w A : Nat} {fw fn : List Value} {a : tY}
/-- what a move keeps: the frame from where w was not yet made, TEMPLATES elsewhere -/
def mvK (st : Nat) (l : Nat → Nat) (b0 : Nat) (nq : tQ → Int) (xs : List tQ) (w : Nat) (Wn : Nat → Prop) (σ σ' : oSt) : Prop := (∀ (σ0 : oSt) (W : Nat → Prop), σ0.2.1 ≤ w → (∀ q, σ0.2.1 ≤ q → σ0.1 q = none) → (∀ z, Wn z → W z) → (gKp st l b0 W σ0 σ → gKp st l b0 W σ0 σ') ∧ (shX st σ0 σ → shX st σ0 σ')) ∧ ∀ (Ψ : kGh) (t : tY) (m : gTm), kTp (fun z => z ≠ w) Ψ t m → kTo st l b0 nq xs Ψ σ t m → kTo st l b0 nq xs Ψ σ' t m
theorem agB.rf (Ψ : kGh) (m : gTm) : agB Ψ Ψ m := ⟨fun _ => rfl, fun _ => rfl, fun _ => rfl, fun _ _ => rfl⟩
theorem mvK.tr {Wn : Nat → Prop} {a b c : oSt} (h : mvK st l b0 nq xs w Wn a b) (g : mvK st l b0 nq xs w Wn b c) : mvK st l b0 nq xs w Wn a c := ⟨fun σ0 W h1 h2 h3 => ⟨fun k => (g.1 σ0 W h1 h2 h3).1 ((h.1 σ0 W h1 h2 h3).1 k), fun k => (g.1 σ0 W h1 h2 h3).2 ((h.1 σ0 W h1 h2 h3).2 k)⟩, fun Ψ t m h1 h2 => g.2 Ψ t m h1 (h.2 Ψ t m h1 h2)⟩
/-- w itself is written -/
theorem mvK.wr {Wn : Nat → Prop} {cc : oC} (h : prW st σ w cc) : mvK st l b0 nq xs w Wn σ (oput σ w cc) := ⟨fun _ _ h1 h2 _ => ⟨fun k => h.fp k h1 h2, fun s => s.fp h1 h2⟩, fun _ t m h1 h2 => kTo.pw h t m h1 h2⟩
/-- by a frame -/
theorem mvK.k {Wn : Nat → Prop} {σ' : oSt} (hk : gKp st l b0 Wn σ σ') (hs : shX st σ σ') (hfr : ∀ q, σ.2.1 ≤ q → σ.1 q = none) : mvK st l b0 nq xs w Wn σ σ' := ⟨fun _ _ _ _ h3 => ⟨fun k => k.tr (hk.mo h3), fun s => s.tr hs⟩, fun Ψ t m _ h2 => kTo.sr hk (fun _ _ => Iff.rfl) hfr t m (agB.rf Ψ m) h2⟩
/-- **the parameter's NAME is put in, and may be *** -/
theorem c_sh106 (hcf : cfO pg ty st cf) (h : tpS st l b0 nq xs Q pg ch ty cf At mo g ρ lv ov na S Ls σ) (hw : σ.1 w = some (.inr (4, fw))) (lw : fw.length = 15) (w3 : fw[3]? = some (.ref A)) (hn : σ.1 (na x) = some (.inr (6, fn))) (ln : fn.length = 8) (n3 : fn[3]? = some (.int (cKd (yK a)))) (ya : yW a) (hx : na x ∈ Ls) (hS : gMs a = true → S.length ≤ 71) : ∃ σ', oj_X0_shape_106 T (oF κ T (n + 1)) κ (some ch) x1 nl x3 (some w) (some w) (some (na x)) σ = oj_X0_shape_175 T (oF κ T (n + 1)) κ (some ch) x1 nl x3 (some w) (nI S.length) σ' ∧ tpS st l b0 nq xs Q pg ch ty cf At mo g ρ lv ov na (if gMs a = true then S ++ [x] else S) Ls σ' ∧ tmP xs.length σ' Ls = tmP xs.length σ Ls ∧ σ'.2 = σ.2 ∧ σ'.1 w = some (.inr (4, fw.set 2 (.ref (na x)))) ∧ σ'.1 (na x) = some (.inr (6, fn.set 4 (.ref A))) ∧ mvK st l b0 nq xs w (fun z => z = na x) σ σ' := by
  have p1 : prW st σ w (.inr (4, fw.set 2 (.ref (na x)))) := Or.inl ⟨_, _, hw, rfl⟩
  obtain ⟨t1, e1⟩ := h.pw p1 (Or.inl ⟨_, hw⟩)
  have nw : na x ≠ w := fun z => by rw [z, hw] at hn; cases hn
  have hn1 : (oput σ w (.inr (4, fw.set 2 (.ref (na x))))).1 (na x) = some (.inr (6, fn)) := by rw [oput_ne nw]; exact hn
  have hw1 : (oput σ w (.inr (4, fw.set 2 (.ref (na x))))).1 w = some (.inr (4, fw.set 2 (.ref (na x)))) := oput_eq _ _ _
  have p2 : prW st (oput σ w (.inr (4, fw.set 2 (.ref (na x))))) (na x) (.inr (6, fn.set 4 (.ref A))) := Or.inr (Or.inr (Or.inr ⟨_, _, hn1, rfl, by rw [List.length_set], fun i hi => List.getElem?_set_ne (fun z => hi z.symm)⟩))
  obtain ⟨t2, e2⟩ := t1.pw p2 (Or.inr ⟨_, hn1⟩)
  have k2 : gKp st l b0 (fun z => z = na x) (oput σ w (.inr (4, fw.set 2 (.ref (na x))))) (oput (oput σ w (.inr (4, fw.set 2 (.ref (na x))))) (na x) (.inr (6, fn.set 4 (.ref A)))) := p2.kp (fun f z => by rw [hn1] at z; cases z) (fun _ _ => rfl)
  have s2 := p2.sh (fun f z => by rw [hn1] at z; cases z)
  have m2 : mvK st l b0 nq xs w (fun z => z = na x) σ (oput (oput σ w (.inr (4, fw.set 2 (.ref (na x))))) (na x) (.inr (6, fn.set 4 (.ref A)))) := (mvK.wr p1).tr (mvK.k k2 s2 t1.1.1)
  have hw2 : (oput (oput σ w (.inr (4, fw.set 2 (.ref (na x))))) (na x) (.inr (6, fn.set 4 (.ref A)))).1 w = some (.inr (4, fw.set 2 (.ref (na x)))) := by rw [oput_ne (fun z => nw z.symm)]; exact hw1
  have hn2 : (oput (oput σ w (.inr (4, fw.set 2 (.ref (na x))))) (na x) (.inr (6, fn.set 4 (.ref A)))).1 (na x) = some (.inr (6, fn.set 4 (.ref A))) := oput_eq _ _ _
  obtain ⟨z0, z1, z7, z8, zl⟩ := hcf.at (.int (nI S.length))
  have f2 : ofd (oput σ w (.inr (4, fw.set 2 (.ref (na x))))) (some w) 4 2 = some (.ref (na x)) := (ofd_at hw1).trans (List.getElem?_set_self (by omega))
  have f3 : ofd (oput σ w (.inr (4, fw.set 2 (.ref (na x))))) (some w) 4 3 = some (.ref A) := (ofd_at hw1).trans (by rw [List.getElem?_set_ne (by decide)]; exact w3)
  have f2' : ofd (oput (oput σ w (.inr (4, fw.set 2 (.ref (na x))))) (na x) (.inr (6, fn.set 4 (.ref A)))) (some w) 4 2 = some (.ref (na x)) := (ofd_at hw2).trans (List.getElem?_set_self (by omega))
  have hc2 := t2.2.2.2.1
  have f8 : ofd (oput (oput σ w (.inr (4, fw.set 2 (.ref (na x))))) (na x) (.inr (6, fn.set 4 (.ref A)))) (some ch) 2 8 = some (.int (nI S.length)) := (ofd_at hc2).trans z8
  have f7 : ofd (oput (oput σ w (.inr (4, fw.set 2 (.ref (na x))))) (na x) (.inr (6, fn.set 4 (.ref A)))) (some ch) 2 7 = some (.ref st) := (ofd_at hc2).trans z7
  have ms := c_meas (κ := κ) (T := T) (n := n) hn2 (b := cKd (yK a)) (by rw [List.getElem?_set_ne (by decide)]; exact n3)
  rw [isM_g ya] at ms
  unfold oj_X0_shape_106
  rw [show opf σ (some w) 4 2 (va_rf (some (na x))) = some (oput σ w (.inr (4, fw.set 2 (.ref (na x))))) from opf_at hw (by omega), obn_at, f2, ovr_rf, obn_at, f3, ovr_rf, obn_at, show opf (oput σ w (.inr (4, fw.set 2 (.ref (na x))))) (some (na x)) 6 4 (va_rf (some A)) = some (oput (oput σ w (.inr (4, fw.set 2 (.ref (na x))))) (na x) (.inr (6, fn.set 4 (.ref A)))) from opf_at hn1 (by omega), obn_at, f8, ovi_i, obn_at, f2', ovr_rf, obn_at, oob_at hn2, obn_at, ms, oin_at]
  by_cases c : gMs a = true
  · have hS := hS c
    rw [c, if_neg (show ¬ b01 true = 0 by decide), f8, ovi_i, obn_at, f7, ovr_rf, obn_at]
    obtain ⟨f, es, -⟩ := id t2.2.2.2.2.1
    have ol : oln2 κ (oput (oput σ w (.inr (4, fw.set 2 (.ref (na x))))) (na x) (.inr (6, fn.set 4 (.ref A)))) (some st) = some (nI 73) := by simp only [oln2, es]; rfl
    have nle : ¬ nI 73 ≤ nI S.length := fun z => by
      have := nI_lt (a := S.length) (b := 73) (by omega) (by decide)
      exact absurd z (Int32.not_le.mpr this)
    rw [ol, obn_at, if_neg nle]
    have es1 : osr (oput (oput σ w (.inr (4, fw.set 2 (.ref (na x))))) (na x) (.inr (6, fn.set 4 (.ref A)))) (some st) (nI S.length) (some (na x)) = some (oput (oput (oput σ w (.inr (4, fw.set 2 (.ref (na x))))) (na x) (.inr (6, fn.set 4 (.ref A)))) st (.inl (.object "LiquidTongue$Name", 73, .inr (.inr (.inr (.inr (va_up f S.length (some (na x))))))))) := by
      simp only [osr, es, zin_n (show S.length < 73 by omega) (show 73 < 2 ^ 31 by decide), if_true, hn2, ofits_n, nI_clamp (show S.length < 2 ^ 31 by omega)]
    obtain ⟨t3, e3, k3, s3⟩ := t2.sx (W := fun z => z = na x) (x := x) hcf es hx
    have cs : ch ≠ st := fun z => by rw [z, es] at hc2; cases hc2
    have hc0 := h.2.2.2.1
    obtain ⟨f0, es0, -⟩ := id h.2.2.2.2.1
    have hc3 : (oput (oput (oput σ w (.inr (4, fw.set 2 (.ref (na x))))) (na x) (.inr (6, fn.set 4 (.ref A)))) st (.inl (.object "LiquidTongue$Name", 73, .inr (.inr (.inr (.inr (va_up f S.length (some (na x))))))))).1 ch = some (.inr (2, cf.set 8 (.int (nI S.length)))) := by rw [oput_ne cs]; exact hc2
    have f83 : ofd (oput (oput (oput σ w (.inr (4, fw.set 2 (.ref (na x))))) (na x) (.inr (6, fn.set 4 (.ref A)))) st (.inl (.object "LiquidTongue$Name", 73, .inr (.inr (.inr (.inr (va_up f S.length (some (na x))))))))) (some ch) 2 8 = some (.int (nI S.length)) := (ofd_at hc3).trans z8
    rw [obn_at, obn_at, f2', ovr_rf, obn_at, es1, obn_at, f83, ovi_i, obn_at, nI_1, opf_at hc3 (by omega), obn_at, if_pos rfl]
    refine ⟨_, rfl, t3, e3.trans (e2.trans e1), rfl, ?_, ?_, m2.tr (mvK.k k3 s3 t2.1.1)⟩
    · rw [oput_ne (fun z => by rw [z, hc0] at hw; cases hw), oput_ne (fun z => by rw [z, es0] at hw; cases hw)]
      exact hw2
    · rw [oput_ne (fun z => by rw [z, hc0] at hn; cases hn), oput_ne (fun z => by rw [z, es0] at hn; cases hn)]
      exact hn2
  · have c' : gMs a = false := by
      cases z : gMs a with
      | true => exact absurd z c
      | false => rfl
    rw [c', if_pos (show b01 false = 0 by decide), if_neg (by decide)]
    exact ⟨_, rfl, t2, e2.trans e1, rfl, hw2, hn2, m2⟩
end SHN
