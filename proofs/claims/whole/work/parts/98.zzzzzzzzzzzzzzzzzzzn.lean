/-! the class's gather(): Knowns, NAMES and Scopes that it makes -/
theorem odef_4 : odef 4 = [.int 0, .null, .null, .null, .null, .null, .null, .int 0, .int 0, .null, .null, .int 0, .int 0, .null, .long 0] := by decide +kernel
theorem oq_4 : (oq 4).2.2 = 15 := by decide +kernel
theorem odef_10 : odef 10 = [.null, .null, .int 0, .null] := by decide +kernel
theorem oq_10 : (oq 10).2.2 = 4 := by decide +kernel
theorem oq_11n : (oq 11).1 = "LiquidTongue$Sum" := by decide +kernel
theorem ofits_s : ofits "LiquidTongue$Sum" 11 = true := by decide +kernel
/-- the fields of a new Known -/
def kF0 (kd : Int32) (w : Nat) (gn ins : Option Nat) : List Value := [.int kd, .ref w, .null, .null, .null, .null, .null, .int 0, .int 0, va_rf gn, va_rf ins, .int 0, .int 0, .null, .long 0]
section GKN
variable {κ : oKv} {T n : Nat} {σ : oSt}
theorem c_kn1 {k : Nat} {kd : Int32} (h : σ.1 k = some (.inr (4, odef 4))) : oF κ T (n + 1) 1 [va_rf (some k), .int kd] σ = some (none, oput σ k (.inr (4, kF0 kd k none none))) := by
  rw [odef_4] at h
  rw [oE_X2_init]
  unfold ob_X2_init
  rw [obn_at, opf_at h (by simp), obn_at, opf_at (oput_eq _ _ _) (by simp), obn_at, opf_at (oput_eq _ _ _) (by simp), obn_at, opf_at (oput_eq _ _ _) (by simp), obn_at, oput_oput, oput_oput, oput_oput]
  rfl
/-- new Known(kind) -/
theorem c_kn {kd : Int32} : oF κ T (n + 1) 1 [va_rf (some σ.2.1), .int kd] (onew σ (.inr (4, odef 4)) (oq 4).2.2) = some (none, onew σ (.inr (4, kF0 kd σ.2.1 none none)) 15) := by
  rw [c_kn1 (onew_eq _ _ _), onew_put, oq_4]
/-- new Known(origin, gone, instead) -/
theorem c_kn3 {w : Nat} {gn ins : Option Nat} {fs : List Value} {kd : Int32} (hw : σ.1 w = some (.inr (4, fs))) (h0 : fs[0]? = some (.int kd)) (hn : w ≠ σ.2.1) : oF κ T (n + 1) 3 [va_rf (some σ.2.1), va_rf (some w), va_rf gn, va_rf ins] (onew σ (.inr (4, odef 4)) (oq 4).2.2) = some (none, onew σ (.inr (4, kF0 kd w gn ins)) 15) := by
  rw [oE_X2_init_]
  unfold ob_X2_init_
  have e0 : ofd (onew σ (.inr (4, odef 4)) (oq 4).2.2) (some w) 4 0 = some (.int kd) := (ofd_at ((onew_ne hn).trans hw)).trans h0
  have h : (onew σ (.inr (4, odef 4)) (oq 4).2.2).1 σ.2.1 = some (.inr (4, [.int 0, .null, .null, .null, .null, .null, .null, .int 0, .int 0, .null, .null, .int 0, .int 0, .null, .long 0])) := by rw [onew_eq, odef_4]
  rw [obn_at, e0, ovi_i, obn_at, opf_at h (by simp), obn_at, opf_at (oput_eq _ _ _) (by simp), obn_at, opf_at (oput_eq _ _ _) (by simp), obn_at, opf_at (oput_eq _ _ _) (by simp), obn_at, oput_oput, oput_oput, oput_oput, onew_put, oq_4]
  rfl
/-- new Name(text, base) -/
theorem c_nm7 {tx : Option Nat} {b : Int32} : oF κ T (n + 1) 7 [va_rf (some σ.2.1), va_rf tx, .int b] (onew σ (.inr (6, odef 6)) (oq 6).2.2) = some (none, onew σ (.inr (6, [va_rf tx, .int 0, .int 0, .int b, .null, .null, .int 0, .int 0])) 8) := by
  have h : (onew σ (.inr (6, odef 6)) (oq 6).2.2).1 σ.2.1 = some (.inr (6, [.null, .int 0, .int 0, .int 0, .null, .null, .int 0, .int 0])) := by rw [onew_eq, odef_6]
  rw [oE_X4_init]
  unfold ob_X4_init
  rw [obn_at, opf_at h (by simp), obn_at, opf_at (oput_eq _ _ _) (by simp), obn_at, oput_oput, onew_put, oq_6]
  rfl
/-- new Scope(name, outer) -/
theorem c_sc2 {a : Nat} {ou : Option Nat} : oF κ T (n + 1) 2 [va_rf (some σ.2.1), va_rf (some a), va_rf ou] (onew σ (.inr (10, odef 10)) (oq 10).2.2) = some (none, onew σ (.inr (10, [.ref a, va_rf none, .int 0, va_rf ou])) 4) := by
  have h : (onew σ (.inr (10, odef 10)) (oq 10).2.2).1 σ.2.1 = some (.inr (10, [.null, .null, .int 0, .null])) := by rw [onew_eq, odef_10]
  rw [oE_X8_init]
  unfold ob_X8_init
  rw [obn_at, opf_at h (by simp), obn_at, opf_at (oput_eq _ _ _) (by simp), obn_at, opf_at (oput_eq _ _ _) (by simp), obn_at, opf_at (oput_eq _ _ _) (by simp), obn_at, oput_oput, oput_oput, oput_oput, onew_put, oq_10]
  rfl
/-- new Scope(test, holds, outer) -/
theorem c_sc13 {m : Nat} {hh : Bool} {ou : Option Nat} : oF κ T (n + 1) 13 [va_rf (some σ.2.1), va_rf (some m), .int (b01 hh), va_rf ou] (onew σ (.inr (10, odef 10)) (oq 10).2.2) = some (none, onew σ (.inr (10, [va_rf none, .ref m, .int (b01 hh), va_rf ou])) 4) := by
  have h : (onew σ (.inr (10, odef 10)) (oq 10).2.2).1 σ.2.1 = some (.inr (10, [.null, .null, .int 0, .null])) := by rw [onew_eq, odef_10]
  have hb : zbo (b01 hh) = true := by cases hh <;> decide
  rw [oE_X8_init_]
  unfold ob_X8_init_
  rw [obn_at, opf_at h (by simp), obn_at, opf_at (oput_eq _ _ _) (by simp), obn_at, ogd_at hb, opf_at (oput_eq _ _ _) (by simp), obn_at, opf_at (oput_eq _ _ _) (by simp), obn_at, oput_oput, oput_oput, oput_oput, onew_put, oq_10]
  rfl
/-- taken() -/
theorem c_taken {k w tk : Nat} {fs fw ft : List Value} {gn ins : Option Nat} {kd : Int32} (hk : σ.1 k = some (.inr (4, fs))) (h1 : fs[1]? = some (.ref w)) (h9 : fs[9]? = some (va_rf gn)) (h10 : fs[10]? = some (va_rf ins)) (hw : σ.1 w = some (.inr (4, fw))) (w3 : fw[3]? = some (.ref tk)) (ht : σ.1 tk = some (.inr (4, ft))) (t0 : ft[0]? = some (.int kd)) (hfr : ∀ q, σ.2.1 ≤ q → σ.1 q = none) : oF κ T (n + 2) 5 [va_rf (some k)] σ = if gn = none then some (some (va_rf (some tk)), σ) else some (some (va_rf (some σ.2.1)), onew σ (.inr (4, kF0 kd tk gn ins)) 15) := by
  have ne : ∀ {x cc}, σ.1 x = some cc → x ≠ σ.2.1 := fun h e => by rw [e, hfr _ (Nat.le_refl _)] at h; cases h
  rw [oE_X2_taken]
  unfold ob_X2_taken
  rw [ofd_at hk, h9, ovr_va, obn_at]
  by_cases c : gn = none
  · rw [if_pos c, if_pos c, ofd_at hk, h1, ovr_rf, obn_at, ofd_at hw, w3, ovr_rf, obn_at]
  · rw [if_neg c, if_neg c, olet_at, ofd_at ((onew_ne (ne hk)).trans hk), h1, ovr_rf, obn_at, ofd_at ((onew_ne (ne hw)).trans hw), w3, ovr_rf, obn_at, ofd_at ((onew_ne (ne hk)).trans hk), h9, ovr_va, obn_at, ofd_at ((onew_ne (ne hk)).trans hk), h10, ovr_va, obn_at, obn_at, c_kn3 ht t0 (ne ht), ocv_at]
/-- answered(null) -/
theorem c_ans0 {k w tk : Nat} {fs fw ft : List Value} {gn ins : Option Nat} {kd : Int32} (hk : σ.1 k = some (.inr (4, fs))) (h1 : fs[1]? = some (.ref w)) (h9 : fs[9]? = some (va_rf gn)) (h10 : fs[10]? = some (va_rf ins)) (hw : σ.1 w = some (.inr (4, fw))) (w4 : fw[4]? = some (.ref tk)) (ht : σ.1 tk = some (.inr (4, ft))) (t0 : ft[0]? = some (.int kd)) (hfr : ∀ q, σ.2.1 ≤ q → σ.1 q = none) : oF κ T (n + 2) 4 [va_rf (some k), va_rf none] σ = if gn = none then some (some (va_rf (some tk)), σ) else some (some (va_rf (some σ.2.1)), onew σ (.inr (4, kF0 kd tk gn ins)) 15) := by
  have ne : ∀ {x cc}, σ.1 x = some cc → x ≠ σ.2.1 := fun h e => by rw [e, hfr _ (Nat.le_refl _)] at h; cases h
  rw [oE_X2_answered]
  unfold ob_X2_answered
  rw [if_pos rfl, ofd_at hk, h9, ovr_va, obn_at]
  by_cases c : gn = none
  · rw [if_pos c, if_pos c, ofd_at hk, h1, ovr_rf, obn_at, ofd_at hw, w4, ovr_rf, obn_at]
  · rw [if_neg c, if_neg c, olet_at, ofd_at ((onew_ne (ne hk)).trans hk), h1, ovr_rf, obn_at, ofd_at ((onew_ne (ne hw)).trans hw), w4, ovr_rf, obn_at, ofd_at ((onew_ne (ne hk)).trans hk), h9, ovr_va, obn_at, ofd_at ((onew_ne (ne hk)).trans hk), h10, ovr_va, obn_at, obn_at, c_kn3 ht t0 (ne ht), ocv_at]
/-- what answered(argument) makes: two rows and a Known -/
def kAw (b : Nat) (g g' : Nat → Option Nat) (kd : Int32) (tk : Nat) (σ σ' : oSt) : Prop := (∀ x, x < σ.2.1 → σ'.1 x = σ.1 x) ∧ σ'.1 σ.2.1 = some (.inl (.object "LiquidTongue$Name", b + 1, .inr (.inr (.inr (.inr g))))) ∧ σ'.1 (σ.2.1 + 1) = some (.inl (.object "LiquidTongue$Sum", b + 1, .inr (.inr (.inr (.inr g'))))) ∧ σ'.1 (σ.2.1 + 2) = some (.inr (4, kF0 kd tk (some σ.2.1) (some (σ.2.1 + 1)))) ∧ σ'.2 = (σ.2.1 + 3, σ.2.2.1 + 3, σ.2.2.2 + (2 * (b + 1) + 15)) ∧ ∀ q, σ'.2.1 ≤ q → σ'.1 q = none
/-- answered(argument) -/
theorem c_ans1 {k w tk pn su b : Nat} {fs fw ft fp fu : List Value} {gn ins : Option Nat} {kd : Int32} {g g' : Nat → Option Nat} (hT : b < T) (hb : b < 1000) (hk : σ.1 k = some (.inr (4, fs))) (h1 : fs[1]? = some (.ref w)) (h9 : fs[9]? = some (va_rf gn)) (h10 : fs[10]? = some (va_rf ins)) (hg : (gn = none ∧ b = 0) ∨ ∃ x y, gn = some x ∧ ins = some y ∧ σ.1 x = some (.inl (.object "LiquidTongue$Name", b, .inr (.inr (.inr (.inr g))))) ∧ σ.1 y = some (.inl (.object "LiquidTongue$Sum", b, .inr (.inr (.inr (.inr g'))))) ∧ ∀ i, i < b → (∃ a f, g i = some a ∧ σ.1 a = some (.inr (6, f))) ∧ ∃ a f, g' i = some a ∧ σ.1 a = some (.inr (11, f))) (hw : σ.1 w = some (.inr (4, fw))) (w2 : fw[2]? = some (.ref pn)) (hp : σ.1 pn = some (.inr (6, fp))) (w4 : fw[4]? = some (.ref tk)) (ht : σ.1 tk = some (.inr (4, ft))) (t0 : ft[0]? = some (.int kd)) (hu : σ.1 su = some (.inr (11, fu))) (hfr : ∀ q, σ.2.1 ≤ q → σ.1 q = none) : ∃ σ' g1 g1', oF κ T (n + 2) 4 [va_rf (some k), va_rf (some su)] σ = some (some (va_rf (some (σ.2.1 + 2))), σ') ∧ kAw b g1 g1' kd tk σ σ' ∧ (∀ i, i < b → g1 i = g i ∧ g1' i = g' i) ∧ g1 b = some pn ∧ g1' b = some su := by
  have lt : ∀ {x cc}, σ.1 x = some cc → x < σ.2.1 := fun h => Nat.lt_of_not_le (fun e => by rw [hfr _ e] at h; cases h)
  rw [oE_X2_answered]
  unfold ob_X2_answered
  rw [if_neg (by simp), ofd_at hk, h9, ovr_va, obn_at]
  have go : (if gn = none then oj_X2_answered_60 T (oF κ T (n + 1)) κ (some k) (some su) 0 σ else obn (some gn) fun v5 => obn (oln2 κ σ v5) fun v7 => oj_X2_answered_60 T (oF κ T (n + 1)) κ (some k) (some su) v7 σ) = oj_X2_answered_60 T (oF κ T (n + 1)) κ (some k) (some su) (nI b) σ := by
    rcases hg with ⟨c, rfl⟩ | ⟨x, y, c, -, hx, -⟩
    · rw [if_pos c]; rfl
    · rw [if_neg (by rw [c]; simp), obn_at, c]
      have : oln2 κ σ (some x) = some (nI b) := by simp only [oln2, hx]; rfl
      rw [this, obn_at]
  rw [go]
  unfold oj_X2_answered_60
  have on : onn (nI b + 1) = true := by
    rw [nI_p1]
    unfold onn
    rw [nI_clamp (by omega), decide_eq_true (show ¬ nI (b + 1) < 0 from nI_nn (by omega)), decide_eq_true (show b + 1 ≤ 60000000 by omega)]
    rfl
  have cl : (nI b + 1).toNatClampNeg = b + 1 := by rw [nI_p1, nI_clamp (by omega)]
  rw [ogd_at on, olet_at, ogd_at on, olet_at, cl, oq_6n, oq_11n]
  -- the loop
  have loop : ∀ (d i t : Nat) (g1 g1' : Nat → Option Nat) (s : oSt), i + d = b → d < t → (∀ x, x < σ.2.1 → s.1 x = σ.1 x) → s.1 σ.2.1 = some (.inl (.object "LiquidTongue$Name", b + 1, .inr (.inr (.inr (.inr g1))))) → s.1 (σ.2.1 + 1) = some (.inl (.object "LiquidTongue$Sum", b + 1, .inr (.inr (.inr (.inr g1'))))) → s.2 = (σ.2.1 + 2, σ.2.2.1 + 2, σ.2.2.2 + 2 * (b + 1)) → (∀ q, σ.2.1 + 2 ≤ q → s.1 q = none) → (∀ j, j < i → g1 j = g j ∧ g1' j = g' j) → ∃ σ' g2 g2', ol_X2_answered_79 T (oF κ T (n + 1)) κ t (some k) (some su) (nI b) (some σ.2.1) (some (σ.2.1 + 1)) (nI i) s = some (some (va_rf (some (σ.2.1 + 2))), σ') ∧ kAw b g2 g2' kd tk σ σ' ∧ (∀ i, i < b → g2 i = g i ∧ g2' i = g' i) ∧ g2 b = some pn ∧ g2' b = some su := by
    intro d
    induction d with
    | zero =>
      intro i t g1 g1' s hi ht' ho hA hB h2 hf hj
      obtain ⟨t, rfl⟩ : ∃ t', t = t' + 1 := ⟨t - 1, by omega⟩
      have hi : i = b := hi
      subst hi
      have z : zin (nI i) (i + 1) = true := zin_n (by omega) (by omega)
      have hk' := (ho k (lt hk)).trans hk
      have hw' := (ho w (lt hw)).trans hw
      have hp' := (ho pn (lt hp)).trans hp
      have hu' := (ho su (lt hu)).trans hu
      rw [ol_X2_answered_79, if_pos (Int32.le_refl _), ofd_at hk', h1, ovr_rf, obn_at, ofd_at hw', w2, ovr_rf, obn_at]
      have e1 : osr s (some σ.2.1) (nI i) (some pn) = some (oput s σ.2.1 (.inl (.object "LiquidTongue$Name", i + 1, .inr (.inr (.inr (.inr (va_up g1 i (some pn)))))))) := by
        simp only [osr, hA, z, if_true, hp', ofits_n, nI_clamp (show i < 2 ^ 31 by omega)]
      rw [e1, obn_at]
      have hu2 : (oput s σ.2.1 (.inl (.object "LiquidTongue$Name", i + 1, .inr (.inr (.inr (.inr (va_up g1 i (some pn)))))))).1 su = some (.inr (11, fu)) := by
        rw [oput_ne (Nat.ne_of_lt (lt hu))]; exact hu'
      have hB2 : (oput s σ.2.1 (.inl (.object "LiquidTongue$Name", i + 1, .inr (.inr (.inr (.inr (va_up g1 i (some pn)))))))).1 (σ.2.1 + 1) = some (.inl (.object "LiquidTongue$Sum", i + 1, .inr (.inr (.inr (.inr g1'))))) := by
        rw [oput_ne (by omega)]; exact hB
      have e2 : osr (oput s σ.2.1 (.inl (.object "LiquidTongue$Name", i + 1, .inr (.inr (.inr (.inr (va_up g1 i (some pn)))))))) (some (σ.2.1 + 1)) (nI i) (some su) = some (oput (oput s σ.2.1 (.inl (.object "LiquidTongue$Name", i + 1, .inr (.inr (.inr (.inr (va_up g1 i (some pn)))))))) (σ.2.1 + 1) (.inl (.object "LiquidTongue$Sum", i + 1, .inr (.inr (.inr (.inr (va_up g1' i (some su)))))))) := by
        simp only [osr, hB2, z, if_true, hu2, ofits_s, nI_clamp (show i < 2 ^ 31 by omega)]
      rw [e2, obn_at, olet_at]
      generalize eS : oput (oput s σ.2.1 (.inl (.object "LiquidTongue$Name", i + 1, .inr (.inr (.inr (.inr (va_up g1 i (some pn)))))))) (σ.2.1 + 1) (.inl (.object "LiquidTongue$Sum", i + 1, .inr (.inr (.inr (.inr (va_up g1' i (some su))))))) = S
      have s2 : S.2 = (σ.2.1 + 2, σ.2.2.1 + 2, σ.2.2.2 + 2 * (i + 1)) := by rw [← eS]; exact h2
      have s21 : S.2.1 = σ.2.1 + 2 := by rw [s2]
      have so : ∀ x, x < σ.2.1 → S.1 x = σ.1 x := fun x hx => by rw [← eS, oput_ne (by omega), oput_ne (by omega)]; exact ho x hx
      have sA : S.1 σ.2.1 = some (.inl (.object "LiquidTongue$Name", i + 1, .inr (.inr (.inr (.inr (va_up g1 i (some pn))))))) := by rw [← eS, oput_ne (by omega), oput_eq]
      have sB : S.1 (σ.2.1 + 1) = some (.inl (.object "LiquidTongue$Sum", i + 1, .inr (.inr (.inr (.inr (va_up g1' i (some su))))))) := by rw [← eS, oput_eq]
      have sf : ∀ q, σ.2.1 + 2 ≤ q → S.1 q = none := fun q hq => by rw [← eS, oput_ne (by omega), oput_ne (by omega)]; exact hf q hq
      have ne : ∀ {x}, x < σ.2.1 → x ≠ S.2.1 := fun h => by rw [s21]; omega
      have k3 := c_kn3 (κ := κ) (T := T) (n := n) (σ := S) (gn := some σ.2.1) (ins := some (σ.2.1 + 1)) ((so tk (lt ht)).trans ht) t0 (ne (lt ht))
      rw [ofd_at ((onew_ne (ne (lt hk))).trans ((so k (lt hk)).trans hk)), h1, ovr_rf, obn_at, ofd_at ((onew_ne (ne (lt hw))).trans ((so w (lt hw)).trans hw)), w4, ovr_rf, obn_at, obn_at, k3, ocv_at, s21]
      refine ⟨_, va_up g1 i (some pn), va_up g1' i (some su), rfl, ⟨fun x hx => ?_, ?_, ?_, ?_, ?_, ?_⟩, fun j hj' => ⟨?_, ?_⟩, if_pos rfl, if_pos rfl⟩
      · rw [onew_ne (ne hx)]; exact so x hx
      · rw [onew_ne (by rw [s21]; omega)]; exact sA
      · rw [onew_ne (by rw [s21]; omega)]; exact sB
      · rw [← s21, onew_eq]
      · show (S.2.1 + 1, S.2.2.1 + 1, S.2.2.2 + 15) = _
        rw [s2]
        simp only [Nat.add_assoc]
      · intro q hq
        have hq : S.2.1 + 1 ≤ q := hq
        rw [onew_ne (by omega)]
        exact sf q (by omega)
      · exact (if_neg (Nat.ne_of_lt hj')).trans (hj j hj').1
      · exact (if_neg (Nat.ne_of_lt hj')).trans (hj j hj').2
    | succ d ih =>
      intro i t g1 g1' s hi ht' ho hA hB h2 hf hj
      obtain ⟨t, rfl⟩ : ∃ t', t = t' + 1 := ⟨t - 1, by omega⟩
      obtain ⟨x, y, e1, e2, hx, hy, he⟩ : ∃ x y, gn = some x ∧ ins = some y ∧ σ.1 x = some (.inl (.object "LiquidTongue$Name", b, .inr (.inr (.inr (.inr g))))) ∧ σ.1 y = some (.inl (.object "LiquidTongue$Sum", b, .inr (.inr (.inr (.inr g'))))) ∧ ∀ i, i < b → (∃ a f, g i = some a ∧ σ.1 a = some (.inr (6, f))) ∧ ∃ a f, g' i = some a ∧ σ.1 a = some (.inr (11, f)) := by
        rcases hg with ⟨_, c⟩ | c
        · omega
        · exact c
      obtain ⟨⟨a, fa, ga, ha⟩, a', fa', ga', ha'⟩ := he i (by omega)
      have z : zin (nI i) (b + 1) = true := zin_n (by omega) (by omega)
      have z' : zin (nI i) b = true := zin_n (by omega) (by omega)
      have ci : (nI i).toNatClampNeg = i := nI_clamp (by omega)
      have hk' := (ho k (lt hk)).trans hk
      have hx' := (ho x (lt hx)).trans hx
      have hy' := (ho y (lt hy)).trans hy
      have r1 : oar s (some x) (nI i) = some (some a) := by simp only [oar, hx', z', if_true, ci, ga]
      have w1 : osr s (some σ.2.1) (nI i) (some a) = some (oput s σ.2.1 (.inl (.object "LiquidTongue$Name", b + 1, .inr (.inr (.inr (.inr (va_up g1 i (some a)))))))) := by
        simp only [osr, hA, z, if_true, (ho a (lt ha)).trans ha, ofits_n, ci]
      generalize eS : oput s σ.2.1 (.inl (.object "LiquidTongue$Name", b + 1, .inr (.inr (.inr (.inr (va_up g1 i (some a))))))) = S at w1
      have so : ∀ x, x < σ.2.1 → S.1 x = σ.1 x := fun x hx => by rw [← eS, oput_ne (by omega)]; exact ho x hx
      have sB : S.1 (σ.2.1 + 1) = some (.inl (.object "LiquidTongue$Sum", b + 1, .inr (.inr (.inr (.inr g1'))))) := by rw [← eS, oput_ne (by omega)]; exact hB
      have sA : S.1 σ.2.1 = some (.inl (.object "LiquidTongue$Name", b + 1, .inr (.inr (.inr (.inr (va_up g1 i (some a))))))) := by rw [← eS, oput_eq]
      have r2 : oar S (some y) (nI i) = some (some a') := by simp only [oar, (so y (lt hy)).trans hy, z', if_true, ci, ga']
      have w2' : osr S (some (σ.2.1 + 1)) (nI i) (some a') = some (oput S (σ.2.1 + 1) (.inl (.object "LiquidTongue$Sum", b + 1, .inr (.inr (.inr (.inr (va_up g1' i (some a')))))))) := by
        simp only [osr, sB, z, if_true, (so a' (lt ha')).trans ha', ofits_s, ci]
      rw [ol_X2_answered_79, if_neg (nI_ge (by omega) (by omega)), ofd_at hk', h9, ovr_va, obn_at, e1, r1, obn_at, w1, obn_at, ofd_at ((so k (lt hk)).trans hk), h10, ovr_va, obn_at, e2, r2, obn_at, w2', obn_at, nI_p1]
      refine ih (i + 1) t (va_up g1 i (some a)) (va_up g1' i (some a')) _ (by omega) (by omega) (fun x hx => by rw [oput_ne (by omega)]; exact so x hx) (by rw [oput_ne (by omega)]; exact sA) (oput_eq _ _ _) (by rw [← eS]; exact h2) (fun q hq => by rw [oput_ne (by omega), ← eS, oput_ne (by omega)]; exact hf q hq) (fun j hj' => ?_)
      by_cases c : j = i
      · subst c
        exact ⟨by rw [ga]; exact if_pos rfl, by rw [ga']; exact if_pos rfl⟩
      · exact ⟨(if_neg c).trans (hj j (by omega)).1, (if_neg c).trans (hj j (by omega)).2⟩
  have n1 : σ.2.1 ≠ (onew σ (.inl (.object "LiquidTongue$Name", b + 1, .inr (.inr (.inr (.inr (fun _ => none)))))) (b + 1)).2.1 := by show σ.2.1 ≠ σ.2.1 + 1; omega
  exact loop b 0 T (fun _ => none) (fun _ => none) _ (Nat.zero_add _) hT (fun x hx => by rw [onew_ne (by show x ≠ σ.2.1 + 1; omega), onew_ne (by omega)]) (by rw [onew_ne n1, onew_eq]) (onew_eq _ _ _) (by show (σ.2.1 + 1 + 1, σ.2.2.1 + 1 + 1, σ.2.2.2 + (b + 1) + (b + 1)) = _; rw [Nat.two_mul]; simp only [Nat.add_assoc]) (fun q hq => by rw [onew_ne (by show q ≠ σ.2.1 + 1; omega), onew_ne (by omega)]; exact hfr q (by omega)) (fun j hj => absurd hj (Nat.not_lt_zero _))
end GKN
