/-! the class's gather(): shape(), NAMES that are told -/
/-- the list of told NAMES, from i on -/
def toN (κ : oKv) (nl : Option Nat) (i : Nat) (na : gN → Nat) (Tw : List Nat) (σ : oSt) : Prop := (nl = none ∧ Tw = []) ∨ ∃ x d cap len mc gl, nl = some x ∧ cLs κ σ x d cap len mc gl 6 ∧ (0 < len ∧ len ≤ 2000) ∧ Tw.length = len - i ∧ ∀ (j w : Nat), Tw[j]? = some w → gl (i + j) = some (na (.inl w))
/-- told NAMES have the kinds of what the function takes -/
def toB (na : gN → Nat) (Ls : List Nat) (Tw : List Nat) (y : tY) (σ : oSt) : Prop := ∀ (j w : Nat), Tw[j]? = some w → na (.inl w) ∈ Ls ∧ ∃ fs, σ.1 (na (.inl w)) = some (.inr (6, fs)) ∧ fs[3]? = some (.int (cKd (yK (yL (yRs j y)))))
/-- what is known of told NAMES -/
def toK (Ψ : kGh) (σ : oSt) : tY → gTm → Prop
  | .leaf, _ => True
  | .inner k _ _ _ b, m => k = 0 → (∀ w, m.2.2.2.1.head? = some w → ∃ fs, σ.1 (Ψ.1 (.inl w)) = some (.inr (6, fs)) ∧ fs[4]? = some (.ref (Ψ.2.1 (m.1, m.2.1 ++ [false])))) ∧ toK Ψ σ b (mAn m)
section TOS
variable {κ : oKv} {st : Nat} {l : Nat → Nat} {b0 : Nat} {σ σ' : oSt} {W : Nat → Prop} {na na' : gN → Nat} {nl : Option Nat} {i : Nat} {Tw : List Nat} {Ls Ls' : List Nat} {y : tY} {Ψ Ψ' : kGh}
theorem toN.sp (h : toN κ nl i na Tw σ) (s : shX st σ σ') (k : gKp st l b0 W σ σ') (hs : ∃ f, σ.1 st = some (.inl (.object "LiquidTongue$Name", 73, f))) (e : ∀ w, na' (.inl w) = na (.inl w)) : toN κ nl i na' Tw σ' := by
  refine h.imp id (fun ⟨x, d, cap, len, mc, gl, h1, ⟨c1, c2, c3⟩, h3, h4, h5⟩ => ⟨x, d, cap, len, mc, gl, h1, ⟨s.1 _ _ _ c1 (by decide) (by decide), Or.inr ?_, fun j hj => ?_⟩, h3, h4, fun j w z => by rw [e w]; exact h5 j w z⟩)
  · rcases c2 with ⟨z, -⟩ | ⟨z, z2⟩
    · omega
    · refine ⟨s.2.1 _ _ z (by show FieldType.object "java/lang/Object" ≠ _; decide) (fun q => ?_), z2⟩
      obtain ⟨f, e⟩ := hs
      rw [q, e] at z
      injection z with z
      injection z with z
      injection z with z _
      exact absurd z (by decide)
  · obtain ⟨b, fs, z1, z2⟩ := c3 j hj
    obtain ⟨fs', z3⟩ := k.n6 z2
    exact ⟨b, fs', z1, z3⟩
theorem toN.tl (h : toN κ nl i na Tw σ) : toN κ nl (i + 1) na Tw.tail σ := by
  rcases h with ⟨h1, h2⟩ | ⟨x, d, cap, len, mc, gl, h1, h2, h3, h4, h5⟩
  · exact Or.inl ⟨h1, by rw [h2]; rfl⟩
  · refine Or.inr ⟨x, d, cap, len, mc, gl, h1, h2, h3, by rw [List.length_tail]; omega, fun j w z => ?_⟩
    rw [List.getElem?_tail] at z
    rw [show i + 1 + j = i + (j + 1) by omega]
    exact h5 (j + 1) w z
theorem toB.sp (h : toB na Ls Tw y σ) (k : gKp st l b0 W σ σ') (e : ∀ w, na' (.inl w) = na (.inl w)) (hL : ∀ a, a ∈ Ls → a ∈ Ls') : toB na' Ls' Tw y σ' := fun j w z => by
  obtain ⟨h1, fs, h2, h3⟩ := h j w z
  obtain ⟨fs', a1, -, a3⟩ := k.2.1 _ _ h2
  rw [e w]
  exact ⟨hL _ h1, fs', a1, (a3 3 (by decide) (fun z => absurd z (by decide))).trans h3⟩
theorem toB.tl (h : toB na Ls Tw y σ) : toB na Ls Tw.tail (yR y) σ := fun j w z => by
  rw [List.getElem?_tail] at z
  exact h (j + 1) w z
theorem toK.sp (k : gKp st l b0 W σ σ') : ∀ (t : tY) (m : gTm), (∀ w, w ∈ m.2.2.2.1 → ¬ W (Ψ.1 (.inl w))) → agB Ψ Ψ' m → toK Ψ σ t m → toK Ψ' σ' t m
  | .leaf, _, _, _, _ => trivial
  | .inner c _ _ a b, m, hW, ag, h => fun z => by
    refine ⟨fun w hw => ?_, toK.sp k b (mAn m) (fun w hw => hW w (List.mem_of_mem_tail hw)) ag.an (h z).2⟩
    obtain ⟨fs, e1, e2⟩ := (h z).1 w hw
    obtain ⟨fs', a1, -, a3⟩ := k.2.1 _ _ e1
    rw [ag.2.2.1 w, ag.hd.2.2.1]
    exact ⟨fs', a1, (a3 4 (by decide) (fun _ => hW w (List.mem_of_mem_head? hw))).trans e2⟩
theorem toK.pw {x : Nat} {cc : oC} (hx : ∀ f, σ.1 x ≠ some (.inr (6, f))) : ∀ (t : tY) (m : gTm), toK Ψ σ t m → toK Ψ (oput σ x cc) t m
  | .leaf, _, _ => trivial
  | .inner c _ _ a b, m, h => fun z => by
    refine ⟨fun w hw => ?_, toK.pw hx b (mAn m) (h z).2⟩
    obtain ⟨fs, e1, e2⟩ := (h z).1 w hw
    exact ⟨fs, by rw [oput_ne (fun q => hx fs (by rw [← q]; exact e1))]; exact e1, e2⟩
end TOS
/-- NAMES' cells, one more -/
def nAw (na : gN → Nat) (kp : Nat × List Bool) (a : Nat) (x : gN) : Nat := if x = .inr kp then a else na x
theorem nAw_at {na : gN → Nat} {kp : Nat × List Bool} {a : Nat} : nAw na kp a (.inr kp) = a := if_pos rfl
theorem nAw_ne {na : gN → Nat} {kp : Nat × List Bool} {a : Nat} {x : gN} (h : x ≠ .inr kp) : nAw na kp a x = na x := if_neg h
section SHM
variable {κ : oKv} {T n : Nat} {st : Nat} {l : Nat → Nat} {b0 : Nat} {nq : tQ → Int} {xs : List tQ} {σ : oSt} {pg ch ty : Nat} {cf : List Value} {At : Nat → Nat} {mo : Nat} {g : gG} {ρ : Nat → tY} {lv ov : Int32} {Ls : List Nat} {nl : Option Nat} {x1 : Int32} {w A i : Nat} {fw : List Value} {y a b : tY} {Ψ : kGh} {m : gTm}
/-- **the parameter's NAME**: a told one, or a new one -/
theorem c_shNm (h : tpS st l b0 nq xs Ψ.2.2.1 pg ch ty cf At mo g ρ lv ov Ψ.1 m.2.2.2.2 Ls σ) (hw : σ.1 w = some (.inr (4, fw))) (w3 : fw[3]? = some (.ref A)) (hA : A = Ψ.2.1 (m.1, m.2.1 ++ [false])) (ka : kTo st l b0 nq xs Ψ σ a (mTk m)) (tn : toN κ nl i Ψ.1 m.2.2.2.1 σ) (tb : toB Ψ.1 Ls m.2.2.2.1 y σ) (hy : yL y = a) (nd : (m.2.2.2.1.map (fun w => Ψ.1 (.inl w))).Nodup) (sp : ∀ s, s ∈ m.2.2.2.2 → (∀ w, w ∈ m.2.2.2.1 → Ψ.1 s ≠ Ψ.1 (.inl w)) ∧ ∀ r, s ≠ .inr (m.1, m.2.1 ++ r)) : ∃ σ' na Ls' fn, (if (if m.2.2.2.1 = [] then (0 : Int32) else 1) = 0 then
    olet (onew σ (.inr (6, odef 6)) (oq 6).2.2) fun s16 =>
    obn (ovr (ofd s16 (some w) 4 3)) fun v18 =>
    obn (ovi (ofd s16 v18 4 0)) fun v20 =>
    obn ((some σ.2.1)) fun a22 =>
    ocv (oF κ T (n + 3) 7 [va_rf (some σ.2.1), va_rf none, .int v20] s16) fun s24 =>
    oj_X0_shape_106 T (oF κ T (n + 3)) κ (some ch) x1 nl (nI i) (some w) (some w) (some σ.2.1) s24
  else
    obn (oob σ nl 1) fun a27 =>
    orn (oF κ T (n + 3) 234 [va_rf nl, .int (nI i)] σ) fun r31 s29 =>
    ogd (ocs s29 r31 6) (
    oj_X0_shape_106 T (oF κ T (n + 3)) κ (some ch) x1 nl (nI i) (some w) (some w) r31 s29)) = oj_X0_shape_106 T (oF κ T (n + 3)) κ (some ch) x1 nl (nI i) (some w) (some w) (some (na (mPn m))) σ' ∧ tpS st l b0 nq xs Ψ.2.2.1 pg ch ty cf At mo g ρ lv ov na m.2.2.2.2 Ls' σ' ∧ gPl2 xs.length Ls Ls' σ σ' (3 + 3 * xs.length) (14 + 9 * xs.length) ∧ (σ'.1 w = some (.inr (4, fw)) ∧ σ'.1 (na (mPn m)) = some (.inr (6, fn)) ∧ fn.length = 8 ∧ (fn[3]? = some (.int (cKd (yK a))) ∧ (m.2.2.2.1 = [] → fn[0]? = some .null)) ∧ na (mPn m) ∈ Ls') ∧ gKp st l b0 (fun _ => False) σ σ' ∧ shX st σ σ' ∧ (∀ x, x ≠ .inr (m.1, m.2.1) → na x = Ψ.1 x) ∧ ((∀ z, z ∈ Ls → z ∈ Ls') ∧ ∀ z, z ∈ Ls' → z ∈ Ls ∨ σ.2.1 ≤ z) ∧ (∀ s, s ∈ m.2.2.2.2 → na s ≠ na (mPn m)) ∧ (∀ w, w ∈ m.2.2.2.1.tail → na (mPn m) ≠ na (.inl w)) ∧ ((∃ w, w ∈ m.2.2.2.1 ∧ na (mPn m) = Ψ.1 (.inl w)) ∨ σ.2.1 ≤ na (mPn m)) := by
  have hfr := h.1.1
  obtain ⟨ft, gt, it, k1, k0, -⟩ := ka.hd.f
  have k1 : σ.1 A = some (.inr (4, ft)) := by rw [hA]; exact k1
  cases eT : m.2.2.2.1 with
  | nil =>
    have eP : mPn m = .inr (m.1, m.2.1) := by unfold mPn; rw [eT]
    rw [if_pos (if_pos rfl), olet_at]
    have f3 : ofd (onew σ (.inr (6, odef 6)) (oq 6).2.2) (some w) 4 3 = some (.ref A) := (ofd_at ((onew_ne (fun z => by rw [z, hfr _ (Nat.le_refl _)] at hw; cases hw)).trans hw)).trans w3
    have f0 : ofd (onew σ (.inr (6, odef 6)) (oq 6).2.2) (some A) 4 0 = some (.int (cKd (yK a))) := (ofd_at ((onew_ne (fun z => by rw [z, hfr _ (Nat.le_refl _)] at k1; cases k1)).trans k1)).trans k0
    rw [f3, ovr_rf, obn_at, f0, ovi_i, obn_at, obn_at, c_nm7 (n := n + 2), ocv_at]
    obtain ⟨t1, c1, kp, sh⟩ := h.nn (b := cKd (yK a)) (W := fun _ => False)
    have nS : ∀ s, s ∈ m.2.2.2.2 → nAw Ψ.1 (m.1, m.2.1) σ.2.1 s = Ψ.1 s := fun s hs => nAw_ne (fun z => (sp s hs).2 [] (by rw [List.append_nil]; exact z))
    refine ⟨_, nAw Ψ.1 (m.1, m.2.1) σ.2.1, _, [va_rf none, .int 0, .int 0, .int (cKd (yK a)), .null, .null, .int 0, .int 0], by rw [eP, nAw_at], t1.cn nS, c1, ⟨?_, ?_, rfl, ⟨rfl, fun _ => rfl⟩, ?_⟩, kp, sh, fun x hx => nAw_ne hx, ⟨fun z hz => List.mem_cons_of_mem _ hz, fun z hz => ?_⟩, fun s hs => ?_, fun w hw => (by cases hw), Or.inr ?_⟩
    · rw [onew_ne (fun z => by rw [z, hfr _ (Nat.le_refl _)] at hw; cases hw)]; exact hw
    · rw [eP, nAw_at]; exact onew_eq _ _ _
    · rw [eP, nAw_at]; exact List.mem_cons_self ..
    · rcases List.mem_cons.mp hz with z | z
      · exact Or.inr (by omega)
      · exact Or.inl z
    · rw [nS s hs, eP, nAw_at]
      obtain ⟨j, hj, e⟩ := List.mem_iff_getElem.mp hs
      obtain ⟨f, -, z⟩ := h.2.2.2.2.1
      obtain ⟨fs, z2⟩ := (h.2.2.2.2.2.1.2 _ (z j s (by rw [List.getElem?_eq_getElem hj, e])).2).2
      intro q
      rw [q, hfr _ (Nat.le_refl _)] at z2
      cases z2
    · rw [eP, nAw_at]
      exact Nat.le_refl _
  | cons w0 tw =>
    have eP : mPn m = .inl w0 := by unfold mPn; rw [eT]
    rw [eT] at tn tb nd sp
    rw [if_neg (by rw [if_neg (by intro z; cases z)]; decide)]
    obtain ⟨b1, fn, b2, b3⟩ := tb 0 w0 rfl
    have b3 : fn[3]? = some (.int (cKd (yK a))) := by rw [← hy]; exact b3
    rcases tn with ⟨-, e2⟩ | ⟨x, d, cap, len, mc, gl, e1, e2, e3, e4, e5⟩
    · cases e2
    · subst e1
      have e4 : tw.length + 1 = len - i := e4
      have lg : oF κ T (n + 3) 234 [va_rf (some x), .int (nI i)] σ = some (some (va_rf (some (Ψ.1 (.inl w0)))), σ) := by
        rw [l_get (e2.o (by omega)) (by omega)]
        have : gl i = some (Ψ.1 (.inl w0)) := e5 0 w0 rfl
        rw [this]
      have oc : ocs σ (some (Ψ.1 (.inl w0))) 6 = true := by simp only [ocs, b2]; rfl
      rw [oob_at e2.1, obn_at, lg, orn_at, ogd_at oc]
      obtain ⟨n1, n2⟩ := List.nodup_cons.mp nd
      refine ⟨σ, Ψ.1, Ls, fn, by rw [eP], h, ⟨by omega, by omega⟩, ⟨hw, by rw [eP]; exact b2, (h.2.1.1 _ _ (h.2.2.2.2.2.1.2 _ b1).1 b2).1, ⟨b3, fun z => by cases z⟩, by rw [eP]; exact b1⟩, gKp.rf, shX.rf, fun _ _ => rfl, ⟨fun _ h => h, fun _ h => Or.inl h⟩, fun s hs => ?_, fun w hw => ?_, Or.inl ⟨w0, List.mem_cons_self .., by rw [eP]⟩⟩
      · rw [eP]; exact (sp s hs).1 w0 (List.mem_cons_self ..)
      · rw [eP]
        exact fun z => n1 (by show Ψ.1 (.inl w0) ∈ _; rw [z]; exact List.mem_map_of_mem (f := fun w => Ψ.1 (Sum.inl w)) hw)
end SHM
