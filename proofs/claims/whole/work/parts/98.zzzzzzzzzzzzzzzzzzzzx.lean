/-! the class's gather(): moves while a TEMPLATE is made -/
/-- **all that holds while a TEMPLATE is made**; S: what * may be, Ls: NAMES that may be asked for terms -/
def tpS (st : Nat) (l : Nat → Nat) (b0 : Nat) (nq : tQ → Int) (xs : List tQ) (Q : Nat → Prop) (pg ch ty : Nat) (cf : List Value) (At : Nat → Nat) (mo : Nat) (g : gG) (ρ : Nat → tY) (lv ov : Int32) (na : gN → Nat) (S : List gN) (Ls : List Nat) (σ : oSt) : Prop := gIv st l b0 Q σ ∧ ntI st l b0 nq xs Q σ ∧ qRw st l b0 nq xs Q pg σ ∧ σ.1 ch = some (.inr (2, cf.set 8 (.int (nI S.length)))) ∧ srO b0 st na S Ls σ ∧ lsO b0 Ls σ ∧ yTf ty At mo g ρ lv ov σ
/-- what the Checker has -/
def cfO (pg ty st : Nat) (cf : List Value) : Prop := cf.length = 10 ∧ cf[0]? = some (.ref pg) ∧ cf[1]? = some (.ref ty) ∧ cf[7]? = some (.ref st)
/-- places and cells, NAMES' terms counted, more NAMES -/
def gPl2 (kq : Nat) (Ls Ls' : List Nat) (σ σ' : oSt) (dn ds : Nat) : Prop := σ'.2.2.1 + tmP kq σ' Ls' ≤ σ.2.2.1 + tmP kq σ Ls + dn ∧ σ'.2.2.2 + 3 * tmP kq σ' Ls' ≤ σ.2.2.2 + 3 * tmP kq σ Ls + ds
theorem gPl2.tr {kq : Nat} {L1 L2 L3 : List Nat} {a b c : oSt} {d e d' e' : Nat} (h : gPl2 kq L1 L2 a b d e) (g : gPl2 kq L2 L3 b c d' e') : gPl2 kq L1 L3 a c (d + d') (e + e') := by
  obtain ⟨h1, h2⟩ := h
  obtain ⟨g1, g2⟩ := g
  exact ⟨by omega, by omega⟩
section TPM
variable {st : Nat} {l : Nat → Nat} {b0 : Nat} {nq : tQ → Int} {xs : List tQ} {Q Q' : Nat → Prop} {σ σ' : oSt} {pg ch ty : Nat} {cf : List Value} {At : Nat → Nat} {mo : Nat} {g : gG} {ρ : Nat → tY} {lv ov : Int32} {na na' : gN → Nat} {S : List gN} {Ls : List Nat} {y : Nat} {cc : oC} {W : Nat → Prop}
theorem yTf.sh (h : yTf ty At mo g ρ lv ov σ) (k : shX st σ σ') (hs : ∃ f, σ.1 st = some (.inl (.object "LiquidTongue$Name", 73, f))) : yTf ty At mo g ρ lv ov σ' := by
  obtain ⟨F, ⟨h1, h2, h3⟩, h4⟩ := h
  refine ⟨F, ⟨k.1 _ _ _ h1 (by decide) (by decide), fun i hi => k.2.1 _ _ (h2 i hi) (by show FieldType.int ≠ _; decide) (fun z => ?_), h3⟩, h4⟩
  obtain ⟨f, e⟩ := hs
  have := h2 i hi
  rw [z, e] at this
  injection this with this
  injection this with this
  injection this with this _
  cases this
theorem srO.ne (h : srO b0 st na S Ls σ) : ∃ f, σ.1 st = some (.inl (.object "LiquidTongue$Name", 73, f)) := by
  obtain ⟨f, e, -⟩ := h
  exact ⟨_, e⟩
/-- a Known is written, or what is known of a NAME -/
theorem tpS.pw (h : tpS st l b0 nq xs Q pg ch ty cf At mo g ρ lv ov na S Ls σ) (w : prW st σ y cc) (hy : (∃ f, σ.1 y = some (.inr (4, f))) ∨ ∃ f, σ.1 y = some (.inr (6, f))) : tpS st l b0 nq xs Q pg ch ty cf At mo g ρ lv ov na S Ls (oput σ y cc) ∧ tmP xs.length (oput σ y cc) Ls = tmP xs.length σ Ls := by
  obtain ⟨h1, h2, h3, h4, h5, h6, h7⟩ := h
  obtain ⟨n1, n2⟩ := w.nt h2 h5.ne
  have nk : ∀ {x cc}, σ.1 x = some cc → (∀ f, cc ≠ .inr (4, f)) → (∀ f, cc ≠ .inr (6, f)) → x ≠ y := fun {x cc} e e4 e6 z => by
    subst z
    rcases hy with ⟨f, z⟩ | ⟨f, z⟩
    · rw [e] at z; injection z with z; exact e4 f z
    · rw [e] at z; injection z with z; exact e6 f z
  refine ⟨⟨w.iv h1, n1, w.qr h3, ?_, ?_, w.ls h6, ?_⟩, tmP_cg (fun a ha => n2 a (h6.2 a ha).1)⟩
  · rw [oput_ne (nk h4 (fun _ z => by cases z) (fun _ z => by cases z))]; exact h4
  · obtain ⟨f, e, e2⟩ := h5
    exact ⟨f, by rw [oput_ne (nk e (fun _ z => by cases z) (fun _ z => by cases z))]; exact e, e2⟩
  · obtain ⟨F, ⟨y1, y2, y3⟩, y4⟩ := h7
    exact ⟨F, ⟨by rw [oput_ne (nk y1 (fun _ z => by cases z) (fun _ z => by cases z))]; exact y1, fun i hi => by rw [oput_ne (nk (y2 i hi) (fun _ z => by cases z) (fun _ z => by cases z))]; exact y2 i hi, y3⟩, y4⟩
/-- cells are made -/
theorem tpS.nw {d e : Nat} (h : tpS st l b0 nq xs Q pg ch ty cf At mo g ρ lv ov na S Ls σ) (o : oNl σ σ' d e) (h8 : ∀ x fs, σ.2.1 ≤ x → σ'.1 x = some (.inr (6, fs)) → fs.length = 8 ∧ fs[5]? = some (va_rf none)) : tpS st l b0 nq xs Q pg ch ty cf At mo g ρ lv ov na S Ls σ' ∧ tmP xs.length σ' Ls = tmP xs.length σ Ls ∧ gKp st l b0 W σ σ' ∧ shX st σ σ' := by
  obtain ⟨h1, h2, h3, h4, h5, h6, h7⟩ := h
  have o6 : oN6 σ σ' := h8
  have lt : ∀ {x cc}, σ.1 x = some cc → x < σ.2.1 := fun h => Nat.lt_of_not_le (fun e => by rw [h1.1 _ e] at h; cases h)
  obtain ⟨n1, n2⟩ := h2.nw h1 o o6 h8
  have kp : gKp st l b0 (fun _ => False) σ σ' := h1.kp o o6
  have sh : shX st σ σ' := (o.tx h1.1).sh (by rw [o.nx]; omega)
  refine ⟨⟨(h1.go o o6).1, n1, h3.sp kp, by rw [o.1 _ (lt h4)]; exact h4, ?_, ⟨h6.1, fun a ha => ⟨(h6.2 a ha).1, ?_⟩⟩, h7.sh sh h5.ne⟩, tmP_cg (fun a ha => ?_), h1.kp o o6, sh⟩
  · obtain ⟨f, z, z2⟩ := h5
    exact ⟨f, by rw [o.1 _ (lt z)]; exact z, z2⟩
  · obtain ⟨f, z⟩ := (h6.2 a ha).2
    exact ⟨f, by rw [o.1 _ (lt z)]; exact z⟩
  · obtain ⟨f, z⟩ := (h6.2 a ha).2
    exact n2 a (h6.2 a ha).1 (lt z)
/-- a NAME without a word -/
theorem tpS.nn {b : Int32} (h : tpS st l b0 nq xs Q pg ch ty cf At mo g ρ lv ov na S Ls σ) : tpS st l b0 nq xs Q pg ch ty cf At mo g ρ lv ov na S (σ.2.1 :: Ls) (onew σ (.inr (6, [va_rf none, .int 0, .int 0, .int b, .null, .null, .int 0, .int 0])) 8) ∧ gPl2 xs.length Ls (σ.2.1 :: Ls) σ (onew σ (.inr (6, [va_rf none, .int 0, .int 0, .int b, .null, .null, .int 0, .int 0])) 8) (3 + 3 * xs.length) (14 + 9 * xs.length) ∧ gKp st l b0 W σ (onew σ (.inr (6, [va_rf none, .int 0, .int 0, .int b, .null, .null, .int 0, .int 0])) 8) ∧ shX st σ (onew σ (.inr (6, [va_rf none, .int 0, .int 0, .int b, .null, .null, .int 0, .int 0])) 8) := by
  have hfr := h.1.1
  have o : oNl σ (onew σ (.inr (6, [va_rf none, .int 0, .int 0, .int b, .null, .null, .int 0, .int 0])) 8) 1 8 := oNl.new hfr
  obtain ⟨⟨h1, h2, h3, h4, h5, h6, h7⟩, tp, kp, sh⟩ := h.nw (W := W) o (fun x fs hx e => by
    by_cases c : x = σ.2.1
    · rw [c, onew_eq] at e
      injection e with e
      injection e with e
      injection e with _ e
      rw [← e]
      exact ⟨rfl, rfl⟩
    · rw [onew_ne c, hfr x hx] at e; cases e)
  have hn : σ.2.1 ∉ Ls := fun z => by
    obtain ⟨f, e⟩ := (h.2.2.2.2.2.1.2 _ z).2
    rw [hfr _ (Nat.le_refl _)] at e; cases e
  refine ⟨⟨h1, h2, h3, h4, ?_, ⟨List.nodup_cons.mpr ⟨hn, h6.1⟩, fun a ha => ?_⟩, h7⟩, ?_, kp, sh⟩
  · obtain ⟨f, e, e2⟩ := h5
    exact ⟨f, e, fun i s hs => ⟨(e2 i s hs).1, List.mem_cons_of_mem _ (e2 i s hs).2⟩⟩
  · rcases List.mem_cons.mp ha with z | z
    · subst z
      exact ⟨h.1.2.2.1.1, _, onew_eq _ _ _⟩
    · exact h6.2 a z
  · have e0 : tmP xs.length (onew σ (.inr (6, [va_rf none, .int 0, .int 0, .int b, .null, .null, .int 0, .int 0])) 8) (σ.2.1 :: Ls) ≤ (2 + 3 * xs.length) + tmP xs.length (onew σ (.inr (6, [va_rf none, .int 0, .int 0, .int b, .null, .null, .int 0, .int 0])) 8) Ls := by
      unfold tmP
      rw [List.map_cons, List.sum_cons]
      omega
    rw [tp] at e0
    unfold gPl2
    rw [o.2.2]
    exact ⟨by dsimp only; omega, by dsimp only; omega⟩
theorem tpS.cn (h : tpS st l b0 nq xs Q pg ch ty cf At mo g ρ lv ov na S Ls σ) (e : ∀ s, s ∈ S → na' s = na s) : tpS st l b0 nq xs Q pg ch ty cf At mo g ρ lv ov na' S Ls σ := by
  obtain ⟨h1, h2, h3, h4, ⟨f, h5, h5'⟩, h6, h7⟩ := h
  exact ⟨h1, h2, h3, h4, ⟨f, h5, fun i s hs => by rw [e s (List.mem_of_getElem? hs)]; exact h5' i s hs⟩, h6, h7⟩
/-- the Checker is written -/
theorem tpS.ck {S' : List gN} (hcf : cfO pg ty st cf) (h : tpS st l b0 nq xs Q pg ch ty cf At mo g ρ lv ov na S Ls σ) (hS : ∀ (i : Nat) (s : gN), S'[i]? = some s → S[i]? = some s) : tpS st l b0 nq xs Q pg ch ty cf At mo g ρ lv ov na S' Ls (oput σ ch (.inr (2, (cf.set 8 (.int (nI S.length))).set 8 (.int (nI S'.length))))) ∧ tmP xs.length (oput σ ch (.inr (2, (cf.set 8 (.int (nI S.length))).set 8 (.int (nI S'.length))))) Ls = tmP xs.length σ Ls ∧ gKp st l b0 W σ (oput σ ch (.inr (2, (cf.set 8 (.int (nI S.length))).set 8 (.int (nI S'.length))))) ∧ shX st σ (oput σ ch (.inr (2, (cf.set 8 (.int (nI S.length))).set 8 (.int (nI S'.length))))) := by
  obtain ⟨h1, h2, h3, h4, h5, h6, h7⟩ := h
  have w : prW st σ ch (.inr (2, (cf.set 8 (.int (nI S.length))).set 8 (.int (nI S'.length)))) := Or.inr (Or.inl ⟨_, _, h4, rfl⟩)
  obtain ⟨n1, n2⟩ := w.nt h2 h5.ne
  have sh : shX st σ (oput σ ch (.inr (2, (cf.set 8 (.int (nI S.length))).set 8 (.int (nI S'.length))))) := w.sh (fun f z => by rw [h4] at z; cases z)
  refine ⟨⟨w.iv h1, n1, w.qr h3, ?_, ?_, w.ls h6, h7.sh sh h5.ne⟩, tmP_cg (fun a ha => n2 a (h6.2 a ha).1), w.kp (fun f z => by rw [h4] at z; cases z) (fun f z => by rw [h4] at z; cases z), sh⟩
  · rw [oput_eq, List.set_set]
  · obtain ⟨f, e, e2⟩ := h5
    exact ⟨f, by rw [oput_ne (fun z => by rw [z, h4] at e; cases e)]; exact e, fun i s hs => e2 i s (hS i s hs)⟩
/-- one more that * may be -/
theorem tpS.sx {x : gN} {f : Nat → Option Nat} (hcf : cfO pg ty st cf) (h : tpS st l b0 nq xs Q pg ch ty cf At mo g ρ lv ov na S Ls σ) (hf : σ.1 st = some (.inl (.object "LiquidTongue$Name", 73, .inr (.inr (.inr (.inr f)))))) (hx : na x ∈ Ls) : tpS st l b0 nq xs Q pg ch ty cf At mo g ρ lv ov na (S ++ [x]) Ls (oput (oput σ st (.inl (.object "LiquidTongue$Name", 73, .inr (.inr (.inr (.inr (va_up f S.length (some (na x)))))))))  ch (.inr (2, (cf.set 8 (.int (nI S.length))).set 8 (.int (nI (S.length + 1)))))) ∧ tmP xs.length (oput (oput σ st (.inl (.object "LiquidTongue$Name", 73, .inr (.inr (.inr (.inr (va_up f S.length (some (na x))))))))) ch (.inr (2, (cf.set 8 (.int (nI S.length))).set 8 (.int (nI (S.length + 1)))))) Ls = tmP xs.length σ Ls ∧ gKp st l b0 W σ (oput (oput σ st (.inl (.object "LiquidTongue$Name", 73, .inr (.inr (.inr (.inr (va_up f S.length (some (na x))))))))) ch (.inr (2, (cf.set 8 (.int (nI S.length))).set 8 (.int (nI (S.length + 1)))))) ∧ shX st σ (oput (oput σ st (.inl (.object "LiquidTongue$Name", 73, .inr (.inr (.inr (.inr (va_up f S.length (some (na x))))))))) ch (.inr (2, (cf.set 8 (.int (nI S.length))).set 8 (.int (nI (S.length + 1)))))) := by
  obtain ⟨h1, h2, h3, h4, h5, h6, h7⟩ := h
  have w : prW st σ st (.inl (.object "LiquidTongue$Name", 73, .inr (.inr (.inr (.inr (va_up f S.length (some (na x)))))))) := Or.inr (Or.inr (Or.inl ⟨rfl, _, _, hf, rfl⟩))
  obtain ⟨n1, n2⟩ := w.nt h2 h5.ne
  have cs : ch ≠ st := fun z => by rw [z, hf] at h4; cases h4
  have sh : shX st σ (oput σ st (.inl (.object "LiquidTongue$Name", 73, .inr (.inr (.inr (.inr (va_up f S.length (some (na x))))))))) := w.sh (fun f z => by rw [hf] at z; cases z)
  have g1 : tpS st l b0 nq xs Q pg ch ty cf At mo g ρ lv ov na S Ls (oput σ st (.inl (.object "LiquidTongue$Name", 73, .inr (.inr (.inr (.inr (va_up f S.length (some (na x))))))))) := by
    refine ⟨w.iv h1, n1, w.qr h3, by rw [oput_ne cs]; exact h4, ⟨_, oput_eq _ _ _, fun i s hs => ?_⟩, w.ls h6, h7.sh sh h5.ne⟩
    obtain ⟨f', e, e2⟩ := h5
    rw [hf] at e
    injection e with e
    injection e with e
    injection e with _ e
    injection e with _ e
    injection e with e
    injection e with e
    injection e with e
    injection e with e
    subst e
    have : i < S.length := by
      by_cases c : i < S.length
      · exact c
      · rw [List.getElem?_eq_none (by omega)] at hs; cases hs
    refine ⟨?_, (e2 i s hs).2⟩
    unfold va_up
    rw [if_neg (by omega)]
    exact (e2 i s hs).1
  have t1 : tmP xs.length (oput σ st (.inl (.object "LiquidTongue$Name", 73, .inr (.inr (.inr (.inr (va_up f S.length (some (na x))))))))) Ls = tmP xs.length σ Ls := tmP_cg (fun a ha => n2 a (h6.2 a ha).1)
  have k1 : gKp st l b0 W σ (oput σ st (.inl (.object "LiquidTongue$Name", 73, .inr (.inr (.inr (.inr (va_up f S.length (some (na x))))))))) := w.kp (fun f z => by rw [hf] at z; cases z) (fun f z => by rw [hf] at z; cases z)
  obtain ⟨i1, i2, i3, i4, i5, i6, i7⟩ := g1
  have w2 : prW st (oput σ st (.inl (.object "LiquidTongue$Name", 73, .inr (.inr (.inr (.inr (va_up f S.length (some (na x))))))))) ch (.inr (2, (cf.set 8 (.int (nI S.length))).set 8 (.int (nI (S.length + 1))))) := Or.inr (Or.inl ⟨_, _, i4, rfl⟩)
  obtain ⟨m1, m2⟩ := w2.nt i2 i5.ne
  have sh2 := w2.sh (fun f z => by rw [i4] at z; cases z)
  refine ⟨⟨w2.iv i1, m1, w2.qr i3, ?_, ⟨_, by rw [oput_ne (fun z => cs z.symm)]; exact oput_eq _ _ _, fun i s hs => ?_⟩, w2.ls i6, i7.sh sh2 i5.ne⟩, (tmP_cg (fun a ha => m2 a (i6.2 a ha).1)).trans t1, k1.tr (w2.kp (fun f z => by rw [i4] at z; cases z) (fun f z => by rw [i4] at z; cases z)), sh.tr sh2⟩
  · rw [oput_eq, List.set_set, List.length_append]
    rfl
  · by_cases c : i < S.length
    · rw [List.getElem?_append_left c] at hs
      obtain ⟨f', e, e2⟩ := i5
      rw [oput_eq] at e
      injection e with e
      injection e with e
      injection e with _ e
      injection e with _ e
      injection e with e
      injection e with e
      injection e with e
      injection e with e
      rw [e]
      exact e2 i s hs
    · rw [List.getElem?_append_right (by omega)] at hs
      have ci : i - S.length = 0 := by
        cases e : i - S.length with
        | zero => rfl
        | succ j => rw [e] at hs; cases hs
      rw [ci] at hs
      injection hs with hs
      have : i = S.length := by omega
      subst this
      rw [← hs]
      exact ⟨by unfold va_up; rw [if_pos rfl], hx⟩
end TPM
