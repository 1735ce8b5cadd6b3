/-! the class's gather(): instance() -/
section INT
variable {κ : oKv} {T n : Nat} {st : Nat} {l : Nat → Nat} {b0 : Nat} {nq : tQ → Int} {xs : List tQ} {Q : Nat → Prop} {σ σ' : oSt} {ch pg : Nat} {cf : List Value}
/-- what may be written into a NAME's row of terms -/
theorem c_rowput {y : Nat} {g g' : Nat → Option Nat} (iv : gIv st l b0 Q σ) (ty : tmS b0 σ y) (hy : σ.1 y = some (.inl (.object "LiquidTongue$Sum", 6, .inr (.inr (.inr (.inr g)))))) : gIv st l b0 Q (oput σ y (.inl (.object "LiquidTongue$Sum", 6, .inr (.inr (.inr (.inr g')))))) ∧ (∀ W, gKp st l b0 W σ (oput σ y (.inl (.object "LiquidTongue$Sum", 6, .inr (.inr (.inr (.inr g'))))))) ∧ tXp σ (oput σ y (.inl (.object "LiquidTongue$Sum", 6, .inr (.inr (.inr (.inr g')))))) := by
  obtain ⟨i1, i2, i3, i4, i5, i6⟩ := iv
  have ne : ∀ {x k fs}, σ.1 x = some (.inr (k, fs)) → x ≠ y := fun h e => by rw [e, hy] at h; cases h
  have yl : y < σ.2.1 := Nat.lt_of_not_le (fun e => by rw [i1 _ e] at hy; cases hy)
  have tm : ∀ x, tmS b0 (oput σ y (.inl (.object "LiquidTongue$Sum", 6, .inr (.inr (.inr (.inr g')))))) x → tmS b0 σ x := fun x ⟨a, fs, h1, h2, h3⟩ => by
    by_cases c : a = y
    · rw [c, oput_eq] at h2; cases h2
    · rw [oput_ne c] at h2; exact ⟨a, fs, h1, h2, h3⟩
  have ld : ∀ x, ldS l (oput σ y (.inl (.object "LiquidTongue$Sum", 6, .inr (.inr (.inr (.inr g')))))) x → ldS l σ x := fun x ⟨i, mc, m, hi, h⟩ => by
    by_cases c : l i = y
    · rw [c, oput_eq] at h; cases h
    · rw [oput_ne c] at h; exact ⟨i, mc, m, hi, h⟩
  refine ⟨⟨fun q hq => ?_, i2, i3, i4, fun x h => i5 x (tm x h), fun x h => i6 x (ld x h)⟩, fun W => ⟨fun x cc e q => ?_, fun x fs e => ⟨fs, by rw [oput_ne (ne e)]; exact e, rfl, fun _ _ _ => rfl⟩, fun x fs e => ⟨fs, by rw [oput_ne (ne e)]; exact e, rfl, fun _ _ => rfl⟩, Nat.le_refl _⟩, ⟨fun x k fs e _ => by rw [oput_ne (ne e)]; exact e, fun x z e hs => ?_, fun x hx e => ?_⟩⟩
  · have hq : σ.2.1 ≤ q := hq
    rw [oput_ne (by omega)]
    exact i1 q hq
  · match cc, e, q with
    | .inr o, e, q => exact ⟨by rw [oput_ne (ne e)]; exact e, q⟩
    | .inl z, e, q =>
      have c : x ≠ y := fun c => q.2.2 (by rw [c]; exact ty)
      exact ⟨by rw [oput_ne c]; exact e, q.1, fun h => q.2.1 (ld x h), fun h => q.2.2 (tm x h)⟩
  · have c : x ≠ y := fun c => by rw [c, hy] at e; injection e with e; injection e with e; exact hs (by rw [← e])
    rw [oput_ne c]; exact e
  · have c : x ≠ y := fun c => by rw [c, hy] at e; cases e
    rw [oput_ne c]; exact e
theorem cnt_up {g : Nat → Option Nat} {q su : Nat} (h : g q = none) : ∀ n, q < n → (List.range n).countP (fun j => (va_up g q (some su) j).isSome) = (List.range n).countP (fun j => (g j).isSome) + 1
  | 0, hq => absurd hq (Nat.not_lt_zero _)
  | n + 1, hq => by
    rw [List.range_succ, List.countP_append, List.countP_append]
    by_cases c : q < n
    · rw [cnt_up h n c]
      have e : va_up g q (some su) n = g n := if_neg (by omega)
      have e2 : List.countP (fun j => (va_up g q (some su) j).isSome) [n] = List.countP (fun j => (g j).isSome) [n] := by
        rw [List.countP_singleton, List.countP_singleton, e]
      rw [e2]
      omega
    · have qn : q = n := by omega
      subst qn
      have e : (List.range q).countP (fun j => (va_up g q (some su) j).isSome) = (List.range q).countP (fun j => (g j).isSome) := List.countP_congr (fun j hj => by
        have := List.mem_range.mp hj
        rw [show va_up g q (some su) j = g j from if_neg (by omega)])
      have e2 : List.countP (fun j => (va_up g q (some su) j).isSome) [q] = 1 := by
        rw [List.countP_singleton, show va_up g q (some su) q = some su from if_pos rfl]
        rfl
      have e3 : List.countP (fun j => (g j).isSome) [q] = 0 := by
        rw [List.countP_singleton, h]
        rfl
      rw [e, e2, e3]
theorem oar_6 {t j : Nat} {g : Nat → Option Nat} (ht : σ.1 t = some (.inl (.object "LiquidTongue$Sum", 6, .inr (.inr (.inr (.inr g)))))) (hj : j < 6) : oar σ (some t) (nI j) = some (g j) := by
  have z : zin (nI j) 6 = true := zin_n hj (by decide)
  simp only [oar, ht, z, if_true, nI_clamp (show j < 2 ^ 31 by omega)]
theorem tmU_row {kq a t : Nat} {fs : List Value} {g : Nat → Option Nat} (ha : σ.1 a = some (.inr (6, fs))) (h5 : fs[5]? = some (.ref t)) (ht : σ.1 t = some (.inl (.object "LiquidTongue$Sum", 6, .inr (.inr (.inr (.inr g)))))) : tmU kq σ a = 2 + 3 * (List.range (min kq 6)).countP (fun j => (g j).isSome) := by
  unfold tmU
  rw [ofd_at ha, h5, ovr_rf]
  dsimp only
  congr 2
  refine List.countP_congr (fun j hj => ?_)
  rw [oar_6 ht (Nat.lt_of_lt_of_le (List.mem_range.mp hj) (Nat.min_le_right _ _))]
  rfl
/-- instance() where the row is there -/
theorem c_ins2 {a q t : Nat} {x : tQ} {fs : List Value} {g : Nat → Option Nat} (hT : 2010 ≤ T) (hx : xs[q]? = some x) (hs : x.2.2.2.1 = true) (hb : b0 ≤ a) (ha : σ.1 a = some (.inr (6, fs))) (h5 : fs[5]? = some (.ref t)) (ht : σ.1 t = some (.inl (.object "LiquidTongue$Sum", 6, .inr (.inr (.inr (.inr g)))))) (iv : gIv st l b0 Q σ) (nt : ntI st l b0 nq xs Q σ) (qr : qRw st l b0 nq xs Q pg σ) (hc : σ.1 ch = some (.inr (2, cf))) (c0 : cf[0]? = some (.ref pg)) (hnq : -1125899906842624 ≤ nq x ∧ nq x ≤ 1125899906842624) : ∃ σ' su, oj_X0_instance_16 T (oF κ T (n + 4)) κ (some ch) (some a) (nI q) σ = some (some (va_rf (some su)), σ') ∧ cTq st l b0 Q σ' su (some (a, if x.2.2.1 = true then -1 else 1), nq x) ∧ gIv st l b0 Q σ' ∧ ntI st l b0 nq xs Q σ' ∧ (∀ W, gKp st l b0 W σ σ') ∧ tXp σ σ' ∧ (∃ k, tmU xs.length σ' a = tmU xs.length σ a + k ∧ σ'.2.2.1 ≤ σ.2.2.1 + k ∧ σ'.2.2.2 ≤ σ.2.2.2 + 3 * k) ∧ ∀ b fb, b0 ≤ b → b ≠ a → σ.1 b = some (.inr (6, fb)) → tmU xs.length σ' b = tmU xs.length σ b := by
  obtain ⟨pf, r4, r5, r6, r7, f4, f5, f6, f7, p0, ⟨p4, p5, p6, p7, p8⟩, ⟨m4, m5, m6, m7⟩, -, xl, pq⟩ := qr
  obtain ⟨e4, e5, e6, e7, e8, -⟩ := pq q x hx
  have q6 : q < 6 := by have := (List.getElem?_eq_some_iff.mp hx).1; omega
  have zq : zin (nI q) 6 = true := zin_n q6 (by decide)
  have cq : (nI q).toNatClampNeg = q := nI_clamp (by omega)
  obtain ⟨fl, nta⟩ := nt.1 a fs hb ha
  have tms : tmS b0 σ t := ⟨a, fs, hb, ha, h5⟩
  have lt : ∀ {x cc}, σ.1 x = some cc → x < σ.2.1 := fun h => Nat.lt_of_not_le (fun e => by rw [iv.1 _ e] at h; cases h)
  have entry : ∀ (j : Nat) (x' : tQ), xs[j]? = some x' → x'.2.2.2.1 = true → ∀ su, g j = some su → cTq st l b0 Q σ su (some (a, if x'.2.2.1 = true then -1 else 1), nq x') := by
    rcases nta with z | ⟨t', g', z1, z2, z3⟩
    · rw [z] at h5; cases h5
    · rw [z1] at h5
      injection h5 with h5
      injection h5 with h5
      subst h5
      rw [z2] at ht
      injection ht with ht
      injection ht with ht
      injection ht with _ ht
      injection ht with _ ht
      injection ht with ht
      injection ht with ht
      injection ht with ht
      injection ht with ht
      subst ht
      exact z3
  unfold oj_X0_instance_16
  rw [ofd_at ha, h5, ovr_rf, obn_at, oar_6 ht q6, obn_at]
  cases eg : g q with
  | some su =>
    rw [if_neg (by simp)]
    unfold oj_X0_instance_54
    rw [ofd_at ha, h5, ovr_rf, obn_at, oar_6 ht q6, obn_at, eg]
    exact ⟨σ, su, rfl, entry q x hx hs su eg, iv, nt, fun W => gKp.rf, tXp.rf, ⟨0, rfl, by omega, by omega⟩, fun _ _ _ _ _ => rfl⟩
  | none =>
    have r6' : oai σ (some r6) .int (nI q) = some (f6 q) := by simp only [oai, m6, zq, and_self, if_true, cq]
    have r7' : oai σ (some r7) .int (nI q) = some (f7 q) := by simp only [oai, m7, zq, and_self, if_true, cq]
    rw [if_pos rfl, obn_at, ofd_at hc, c0, ovr_rf, obn_at, ofd_at p0, p6, ovr_rf, obn_at, r6', obn_at, obn_at, ofd_at p0, p7, ovr_rf, obn_at, r7', obn_at]
    have ev : f6 q = if x.2.2.1 = true then -1 else 1 := by
      rw [e7]
      unfold zSr
      rw [if_pos hs]
      cases x.2.2.1 <;> rfl
    obtain ⟨σ2, R2, S2, O2⟩ := c_sof (κ := κ) (T := T) (n := n) (o := some a) (v := f6 q) (p := (f7 q).toInt64) hT (fun y e => by injection e with e; rw [← e]; exact ⟨fs, ha⟩) (by rw [ev]; cases x.2.2.1 <;> simp) iv.1
    have hv0 : ¬ f6 q = 0 := by rw [ev]; cases x.2.2.1 <;> decide
    rw [if_neg hv0] at S2
    have S2 : cSm σ2 σ.2.1 (σ.2.1 + 1) (σ.2.1 + 2) 2 [(a, f6 q)] (f7 q).toInt64 := S2
    have N2 : oN6 σ σ2 ∧ ∀ y fs, σ.2.1 ≤ y → σ2.1 y = some (.inr (6, fs)) → False := by
      have key : ∀ y fs, σ.2.1 ≤ y → σ2.1 y = some (.inr (6, fs)) → False := fun y fs hy e => by
        obtain ⟨g, h', q1, q2, q3, -⟩ := S2
        rcases (by omega : y = σ.2.1 ∨ y = σ.2.1 + 1 ∨ y = σ.2.1 + 2 ∨ σ.2.1 + 3 ≤ y) with z | z | z | z
        · rw [z, q1] at e; cases e
        · rw [z, q2] at e; cases e
        · rw [z, q3] at e; cases e
        · rw [O2.2.1 y (by rw [O2.nx]; exact z)] at e; cases e
      exact ⟨fun y fs hy e => (key y fs hy e).elim, key⟩
    rw [R2, orn_at]
    obtain ⟨iv2, qn2⟩ := iv.go O2 N2.1
    have kp2 := fun W => iv.kp (W := W) O2 N2.1
    obtain ⟨nt2, tu2⟩ := nt.nw iv O2 N2.1 (fun y fs hy e => (N2.2 y fs hy e).elim)
    have ha2 : σ2.1 a = some (.inr (6, fs)) := by rw [O2.1 a (lt ha)]; exact ha
    have ht2 : σ2.1 t = some (.inl (.object "LiquidTongue$Sum", 6, .inr (.inr (.inr (.inr g))))) := by rw [O2.1 t (lt ht)]; exact ht
    have tms2 : tmS b0 σ2 t := ⟨a, fs, hb, ha2, h5⟩
    have w2 : osr σ2 (some t) (nI q) (some σ.2.1) = some (oput σ2 t (.inl (.object "LiquidTongue$Sum", 6, .inr (.inr (.inr (.inr (va_up g q (some σ.2.1)))))))) := by
      obtain ⟨g', h', s1, -⟩ := S2
      simp only [osr, ht2, zq, if_true, s1, ofits_s, cq]
    rw [w2, obn_at]
    obtain ⟨iv3, kp3, tx3⟩ := c_rowput (g' := va_up g q (some σ.2.1)) iv2 tms2 ht2
    have cT2 : cTq st l b0 Q σ2 σ.2.1 (some (a, if x.2.2.1 = true then -1 else 1), nq x) := by
      refine ⟨_, _, _, _, _, S2, ?_, ⟨hnq, by have := iv.2.2.1.1; omega, by have := iv.2.2.1.1; omega, fun z => by have := iv.2.2.2.1 _ z; omega⟩, Or.inr ⟨a, f6 q, ?_, rfl, ?_⟩, qn2 _ (by omega), qn2 _ (by omega)⟩
      · rw [Int32.toInt_toInt64]; exact e8
      · rw [ev]; cases x.2.2.1 <;> rfl
      · rw [ev]; cases x.2.2.1
        · exact Or.inl rfl
        · exact Or.inr rfl
    generalize eS : oput σ2 t (.inl (.object "LiquidTongue$Sum", 6, .inr (.inr (.inr (.inr (va_up g q (some σ.2.1))))))) = σ3 at iv3 kp3 tx3
    have ta : a ≠ t := fun e => by rw [e, ht] at ha; cases ha
    have ha3 : σ3.1 a = some (.inr (6, fs)) := by rw [← eS, oput_ne ta]; exact ha2
    have ht3 : σ3.1 t = some (.inl (.object "LiquidTongue$Sum", 6, .inr (.inr (.inr (.inr (va_up g q (some σ.2.1))))))) := by rw [← eS, oput_eq]
    have s22 : σ3.2 = σ2.2 := by rw [← eS]; rfl
    unfold oj_X0_instance_54
    rw [ofd_at ha3, h5, ovr_rf, obn_at, oar_6 ht3 q6, obn_at]
    have sp3 : ∀ {su u}, cTq st l b0 Q σ2 su u → cTq st l b0 Q σ3 su u := fun h => h.sp (kp3 (fun _ => False)) (fun _ _ => Iff.rfl) iv2.1
    refine ⟨σ3, σ.2.1, by rw [show va_up g q (some σ.2.1) q = some σ.2.1 from if_pos rfl], sp3 cT2, iv3, ⟨fun b fb hbb eb => ?_, fun b b' fb fb' t' hbb hbb' eb eb' e5 e5' => ?_⟩, fun W => (kp2 W).tr (kp3 W), (O2.tx iv.1).tr tx3 (by rw [O2.nx]; omega), ⟨3, ?_, ?_, ?_⟩, fun b fb hbb hne eb => ?_⟩
    · have bt : b ≠ t := fun e => by rw [e, ht3] at eb; cases eb
      have eb2 : σ2.1 b = some (.inr (6, fb)) := by rw [← eS, oput_ne bt] at eb; exact eb
      obtain ⟨y1, y2⟩ := nt2.1 b fb hbb eb2
      refine ⟨y1, ?_⟩
      rcases y2 with y2 | ⟨t', g', z1, z2, z3⟩
      · exact Or.inl y2
      · by_cases c : t' = t
        · subst c
          have eab : b = a := nt2.2 b a fb fs t' hbb hb eb2 ha2 z1 h5
          subst eab
          refine Or.inr ⟨t', _, z1, ht3, fun j x' hx' hs' su hsu => ?_⟩
          by_cases cj : j = q
          · subst cj
            rw [hx] at hx'
            injection hx' with hx'
            have hsu : (if j = j then some σ.2.1 else g j) = some su := hsu
            rw [if_pos rfl] at hsu
            injection hsu with hsu
            rw [← hsu, ← hx']
            exact sp3 cT2
          · have hsu : (if j = q then some σ.2.1 else g j) = some su := hsu
            rw [if_neg cj] at hsu
            exact sp3 ((entry j x' hx' hs' su hsu).sp (kp2 (fun _ => False)) (fun _ _ => Iff.rfl) iv.1)
        · exact Or.inr ⟨t', g', z1, by rw [← eS, oput_ne c]; exact z2, fun j x' hx' hs' su hsu => sp3 (z3 j x' hx' hs' su hsu)⟩
    · have bt : b ≠ t := fun e => by rw [e, ht3] at eb; cases eb
      have bt' : b' ≠ t := fun e => by rw [e, ht3] at eb'; cases eb'
      rw [← eS, oput_ne bt] at eb
      rw [← eS, oput_ne bt'] at eb'
      exact nt2.2 b b' fb fb' t' hbb hbb' eb eb' e5 e5'
    · rw [tmU_row ha3 h5 ht3, tmU_row ha h5 ht, cnt_up eg _ (Nat.lt_min.mpr ⟨(List.getElem?_eq_some_iff.mp hx).1, q6⟩)]
      omega
    · rw [s22, O2.2.2]
      dsimp only
      omega
    · rw [s22, O2.2.2]
      dsimp only
      omega
    · have bt : b ≠ t := fun e => by rw [e, ht] at eb; cases eb
      rw [← tu2 b hbb (lt eb)]
      refine tmU_cg (by rw [← eS, oput_ne bt]) (fun f' t' e e5 => ?_)
      by_cases c : t' = t
      · subst c
        rw [O2.1 b (lt eb), eb] at e
        injection e with e
        injection e with e
        injection e with _ e
        subst e
        exact absurd (nt.2 b a fb fs t' hbb hb eb ha e5 h5) hne
      · rw [← eS, oput_ne c]
end INT
