/-! run(), the reference: a call; products, quotients, new arrays -/
theorem x_nm {a : Int64} (h : -4611686018427387904 ≤ a.toInt) : a ≠ Int64.minValue := fun e => by
  rw [e] at h
  exact absurd h (by decide)
theorem x_div {a b : Int64} (h : -4611686018427387904 ≤ a.toInt) : (a / b).toInt = a.toInt.tdiv b.toInt := Int64.toInt_div_of_ne_left a b (x_nm h)
section XRG
variable {ks : Nat → Nat} {qs : List Nat} {T h0 n : Nat} {τ : zSt}
/-- downwards() -/
theorem r_dwn {a b : Int64} (ha : xmB a = true) (hb : xmB b = true) (hz : b ≠ 0) : zF h0 qs ks T (n + 1) 86 [.long a, .long b] τ = some (some (.long (Int64.ofInt (a.toInt.fdiv b.toInt))), τ) := by
  have ha := xmB_iff.mp ha
  have hb := xmB_iff.mp hb
  have hz' : b.toInt ≠ 0 := fun z => hz (Int64.toInt_inj.mp z)
  have d1 := x_div (a := a) (b := b) (by omega)
  have nb := Int.natAbs_tdiv_le_natAbs a.toInt b.toInt
  have fb := fdiv_bd a.toInt b.toInt
  have nd : decide (¬ b = 0) = true := decide_eq_true hz
  have tm : a.toInt.tdiv b.toInt * b.toInt = a.toInt - a.toInt.tmod b.toInt := by
    have q := Int.tmod_add_tdiv_mul a.toInt b.toInt
    omega
  have tmb : (a.toInt.tmod b.toInt).natAbs ≤ a.toInt.natAbs := by rw [Int.natAbs_tmod]; exact Nat.mod_le _ _
  have m1 : (a / b * b).toInt = a.toInt - a.toInt.tmod b.toInt := by
    rw [j_mul (by rw [d1]; omega) (by rw [d1]; omega), d1, tm]
  have m2 : (a - a / b * b).toInt = a.toInt.tmod b.toInt := by
    rw [j_sub (by rw [m1]; omega) (by rw [m1]; omega), m1]
    omega
  have dv : b.toInt ∣ a.toInt ↔ a.toInt.tmod b.toInt = 0 := ⟨Int.tmod_eq_zero_of_dvd, Int.dvd_of_tmod_eq_zero⟩
  have fq := Int.fdiv_eq_tdiv (a := a.toInt) (b := b.toInt)
  have e0 : (lg_cmp (a - a / b * b) 0 = 0) ↔ b.toInt ∣ a.toInt := by
    rw [lg_eq, dv, ← m2]
    exact ⟨fun z => by rw [z]; rfl, fun z => Int64.toInt_inj.mp z⟩
  have ga : (0 ≤ lg_cmp a 0) ↔ 0 ≤ a.toInt := l_ge a 0
  have gb : (0 ≤ lg_cmp b 0) ↔ 0 ≤ b.toInt := l_ge b 0
  have q0 : ∀ x : Int, x.natAbs ≤ 1099511627777 → (Int64.ofInt x).toInt = x := fun x hx => Int64.toInt_ofInt_of_le (by omega) (by omega)
  have fin0 : a.toInt.fdiv b.toInt = a.toInt.tdiv b.toInt → a / b = Int64.ofInt (a.toInt.fdiv b.toInt) := fun e => Int64.toInt_inj.mp (by rw [q0 _ (by omega), d1, e])
  have fin1 : a.toInt.fdiv b.toInt = a.toInt.tdiv b.toInt - 1 → a / b - 1 = Int64.ofInt (a.toInt.fdiv b.toInt) := fun e => Int64.toInt_inj.mp (by
    rw [q0 _ (by omega), j_sub (by rw [d1, show (1 : Int64).toInt = 1 from rfl]; omega) (by rw [d1, show (1 : Int64).toInt = 1 from rfl]; omega), d1, e]
    rfl)
  rw [zE_downwards]
  unfold b_downwards
  rw [zgd_at nd, zgd_at nd]
  by_cases c0 : b.toInt ∣ a.toInt
  · rw [if_pos (e0.mpr c0), fin0 (by rw [fq, if_pos c0]; omega)]
  · rw [if_neg (fun w => c0 (e0.mp w))]
    rw [if_neg c0] at fq
    unfold j_downwards_24 j_downwards_35
    by_cases c1 : 0 ≤ a.toInt
    · rw [if_pos (ga.mpr c1)]
      rw [if_pos c1] at fq
      by_cases c2 : 0 ≤ b.toInt
      · rw [if_pos (gb.mpr c2), if_pos rfl, fin0 (by rw [fq, if_pos c2]; omega)]
      · rw [if_neg (fun w => c2 (gb.mp w)), if_neg (by decide), fin1 (by rw [fq, if_neg c2])]
    · rw [if_neg (fun w => c1 (ga.mp w))]
      rw [if_neg c1] at fq
      by_cases c2 : 0 ≤ b.toInt
      · have sb : b.toInt.sign = 1 := Int.sign_eq_one_of_pos (by omega)
        rw [if_pos (gb.mpr c2), if_neg (by decide), fin1 (by rw [fq, if_pos c2, sb])]
      · have sb : b.toInt.sign = -1 := Int.sign_eq_neg_one_of_neg (by omega)
        rw [if_neg (fun w => c2 (gb.mp w)), if_pos rfl, fin0 (by rw [fq, if_neg c2, sb]; omega)]
/-- product() -/
theorem r_prd {a b : Int64} (ha : xmB a = true) (hb : xmB b = true) : ∃ x, zF h0 qs ks T (n + 1) 133 [.long a, .long b] τ = some (some (.long x), τ) ∧ ((a.toInt * b.toInt).natAbs ≤ 1099511627776 → x = a * b) ∧ (xmB x = true ↔ (a.toInt * b.toInt).natAbs ≤ 1099511627776) := by
  have ha := xmB_iff.mp ha
  have hb := xmB_iff.mp hb
  rw [zE_product]
  unfold b_product
  by_cases c1 : a = 0
  · rw [if_pos ((lg_eq a 0).mpr c1)]
    have e : a.toInt = 0 := by rw [c1]; rfl
    rw [e, Int.zero_mul]
    exact ⟨0, rfl, fun _ => by rw [c1, Int64.zero_mul], fun _ => by decide, fun _ => xmB0⟩
  · rw [if_neg (fun w => c1 ((lg_eq a 0).mp w))]
    by_cases c2 : b = 0
    · rw [if_pos ((lg_eq b 0).mpr c2)]
      have e : b.toInt = 0 := by rw [c2]; rfl
      rw [e, Int.mul_zero]
      exact ⟨0, rfl, fun _ => by rw [c2, Int64.mul_zero], fun _ => by decide, fun _ => xmB0⟩
    · rw [if_neg (fun w => c2 ((lg_eq b 0).mp w))]
      have na : a.toInt ≠ 0 := fun z => c1 (Int64.toInt_inj.mp z)
      have nb : b.toInt ≠ 0 := fun z => c2 (Int64.toInt_inj.mp z)
      have ga : (0 ≤ lg_cmp a 0) ↔ 0 ≤ a.toInt := l_ge a 0
      have gb : (0 ≤ lg_cmp b 0) ↔ 0 ≤ b.toInt := l_ge b 0
      have nga : (-a).toInt = -a.toInt := j_neg ⟨by omega, by omega⟩
      have ngb : (-b).toInt = -b.toInt := j_neg ⟨by omega, by omega⟩
      have E : ∀ (t0 : Int32) (x y : Int64), x.toInt = a.toInt.natAbs → y.toInt = b.toInt.natAbs → ∃ x', j_product_72 T (zF h0 qs ks T n) h0 qs ks a b x y t0 τ = some (some (.long x'), τ) ∧ ((a.toInt * b.toInt).natAbs ≤ 1099511627776 → x' = a * b) ∧ (xmB x' = true ↔ (a.toInt * b.toInt).natAbs ≤ 1099511627776) := fun t0 x y hx hy => by
        unfold j_product_72
        have ny : ¬ y = 0 := fun w => by rw [w] at hy; have : (0 : Int64).toInt = 0 := rfl; omega
        rw [zgd_at (decide_eq_true ny)]
        have dq : (2199023255552 / y : Int64).toInt = (2199023255552 : Int).tdiv y.toInt := x_div (by decide)
        have dq2 : (2199023255552 : Int).tdiv y.toInt = 2199023255552 / y.toInt := Int.tdiv_eq_ediv_of_nonneg (by decide)
        have nm : (a.toInt * b.toInt).natAbs = a.toInt.natAbs * b.toInt.natAbs := Int.natAbs_mul _ _
        have key : (lg_cmp x (2199023255552 / y) ≤ 0) ↔ a.toInt.natAbs * b.toInt.natAbs ≤ 2199023255552 := by
          rw [lg_le, Int64.le_iff_toInt_le, dq, dq2, hx, hy, Int.le_ediv_iff_mul_le (by omega)]
          constructor
          · intro q
            have q : ((a.toInt.natAbs * b.toInt.natAbs : Nat) : Int) ≤ 2199023255552 := by rw [Int.natCast_mul]; exact q
            omega
          · intro q
            rw [← Int.natCast_mul]
            omega
        by_cases ck : a.toInt.natAbs * b.toInt.natAbs ≤ 2199023255552
        · rw [if_pos (key.mpr ck)]
          refine ⟨_, rfl, fun _ => rfl, ?_⟩
          rw [xmB_iff, j_mul (by omega) (by omega)]
          omega
        · rw [if_neg (fun w => ck (key.mp w))]
          split
          · exact ⟨_, rfl, fun w => by omega, fun w => absurd w (by decide), fun w => by omega⟩
          · exact ⟨_, rfl, fun w => by omega, fun w => absurd w (by decide), fun w => by omega⟩
      unfold j_product_26 j_product_40 j_product_53 j_product_64
      by_cases c3 : 0 ≤ a.toInt
      · rw [if_pos (ga.mpr c3)]
        by_cases c4 : 0 ≤ b.toInt
        · rw [if_pos (gb.mpr c4), if_pos (ga.mpr c3), if_pos (gb.mpr c4), if_pos rfl]
          exact E _ _ _ (by omega) (by omega)
        · rw [if_neg (fun w => c4 (gb.mp w)), if_pos (ga.mpr c3), if_neg (fun w => c4 (gb.mp w)), if_neg (by decide)]
          exact E _ _ _ (by omega) (by omega)
      · rw [if_neg (fun w => c3 (ga.mp w))]
        by_cases c4 : 0 ≤ b.toInt
        · rw [if_pos (gb.mpr c4), if_neg (fun w => c3 (ga.mp w)), if_pos (gb.mpr c4), if_neg (by decide)]
          exact E _ _ _ (by omega) (by omega)
        · rw [if_neg (fun w => c4 (gb.mp w)), if_neg (fun w => c3 (ga.mp w)), if_neg (fun w => c4 (gb.mp w)), if_pos rfl]
          exact E _ _ _ (by omega) (by omega)
end XRG
section XRI
variable {pp kk ee f : Nat → Int32} {tE tN : Nat → tY} {L : List Nat} {V τ : zSt} {N S P A c n cnt len : Nat} {h : xmHp} {fr : List xmFr} {ks : Nat → Nat} {qs : List Nat} {T h0 m : Nat} {y : tY} {env : List Nat} {vs : List xmV} {k : Int32}
theorem rOt.mo {r : zRs} {C C' : Nat} {res : (Nat × Nat) ⊕ xmM} (h : rOt pp V N S P A r C res) (hc : C ≤ C') : rOt pp V N S P A r C' res := by
  cases res with
  | inl e => exact h
  | inr w =>
    obtain ⟨x, τ', c', a, b, d⟩ := h
    refine ⟨x, τ', c', a, b, ?_⟩
    obtain ⟨wh, wf, wn, wc⟩ := w
    cases wc with
    | inl y =>
      obtain ⟨d1, d2⟩ := d
      exact ⟨by omega, d2⟩
    | inr v =>
      obtain ⟨d1, d2⟩ := d
      exact ⟨by omega, d2⟩
theorem rOt_bo {Y : zRs} {C : Nat} {res : (Nat × Nat) ⊕ xmM} (h : rOt pp V N S P A Y C res) : rOt pp V N S P A (zci Y fun r13 s11 => zgd (zbo r13) (some (some (.int r13), s11))) C res := by
  cases res with
  | inl e =>
    obtain ⟨x, τ', a, hx, b⟩ := h
    rw [a, zci_at]
    have zb : zbo x = true := by rcases hx with hx | hx <;> (rw [hx]; decide)
    rw [zgd_at zb]
    exact ⟨x, τ', rfl, hx, b⟩
  | inr w =>
    obtain ⟨wh, wf, wn, wc⟩ := w
    obtain ⟨x, τ', c', a, b, d⟩ := h
    rw [a, zci_at]
    have zb : zbo x = true := by
      cases wc with
      | inl y => rw [d.2.1]; decide
      | inr v => rw [d.2.1]; decide
    rw [zgd_at zb]
    exact ⟨x, τ', c', rfl, b, d⟩
/-- ARGS stand one behind another -/
theorem xrTr_args {kk : Nat → Int32} {cnt : Nat} : ∀ (a : tT) (x x' : Nat), tWf kk cnt a 2 → rTr pp V 0 N S P A a 0 x x' → x' = x + tQn a ∧ (a ≠ .leaf → x' ≤ A)
  | .leaf, x, x', _, h => by
    have h : x' = x := h
    exact ⟨by rw [h]; rfl, fun w => absurd rfl w⟩
  | .inner g d z a b, x, x', wf, h => by
    rcases wf with ⟨c, -⟩ | ⟨-, -, wb, c⟩ | ⟨c, -⟩
    · cases c
    · have K : ∀ (y : Nat), rTr pp V 0 N S P A b 0 (x + 1) x' → x < A → x' = x + (tQn b + 1) ∧ x' ≤ A := fun _ hb hx => by
        obtain ⟨e, q⟩ := xrTr_args b (x + 1) x' wb hb
        refine ⟨by omega, ?_⟩
        cases b with
        | leaf =>
          have e : x' = x + 1 + 0 := e
          omega
        | inner _ _ _ _ _ => exact q (fun w => by cases w)
      rcases c with ⟨c, -⟩ | ⟨c, -⟩ | ⟨c, -⟩
      all_goals
        subst c
        obtain ⟨⟨hx, -⟩, hb⟩ := h
        obtain ⟨k1, k2⟩ := K 0 hb hx
        exact ⟨k1, fun _ => k2⟩
    · cases c
theorem rXa.far' (I : rXa pp V N S P A τ c n h fr) : rXa pp V N S P A (zI τ 171 (nI c)) c n h fr := by
  have e : zI τ 171 (nI c) = τ := by
    refine Prod.ext ?_ rfl
    funext j
    show (if j = 171 then nI c else τ.1 j) = τ.1 j
    by_cases q : j = 171
    · rw [if_pos q, q]; exact I.2.1.1.symm
    · rw [if_neg q]
  rw [e]
  exact I
/-- **called()** -/
theorem r_call {d : Nat × Nat × Nat × tS × tS} {z : Unit} {a b : tT} {nd : Nat} (X : rXs T len cnt S P kk pp ee f L V) (hN : N ≤ 2000) (hA : A ≤ 2000) (I : rXa pp V N S P A τ c n h fr) (w : xmE cnt kk f pp ee tE tN (V.2.2.1 32) L (.inner 15 d z a b) env y) (hh : tH (.inner 15 d z a b) ≤ 31) (H : xmH cnt kk f pp ee tE tN (V.2.2.1 32) L h) (hl : h.2.2.length ≤ 20000) (hl2 : h.2.1.length ≤ 20006) (hl1 : h.1.length + n ≤ 30000) (hfr : fr.length ≤ 5000) (hdp : xmDp fr ≤ 50) (En : xmEn tE tN h env vs) (tr : rTr pp V 0 N S P A (.inner 15 d z a b) 0 0 nd) (E : rEc (V.2.2.1 32) τ c env vs k) (hc : c + 16 ≤ 260000) (q4 : tQn a ≤ 4) : rOt pp V N S P A (zF h0 qs ks T (m + 6) 135 [.ref h0, .int (nI nd), .int k] τ) (c + xmW fr + 8) (match xmAg T f pp ee env vs a h n with | .inl c => .inl c | .inr r => xmAp r.1 fr r.2.1 (xmGet f pp ee env vs d.1) r.2.2) := by
  obtain ⟨⟨k1, k2, k3⟩, EA⟩ := w.k15
  obtain ⟨⟨⟨-, hnd⟩, t0, -⟩, t3, xa, q, ⟨t4, t5⟩, ta⟩ := tr
  have ht : tH (.inner 15 d z a b) = max (tH a) (tH b) + 1 := rfl
  have he := w.l12
  have T1 := X.2.2.2
  have hlen := X.1.2.2.2.2.2.2
  obtain ⟨qe, qA⟩ := xrTr_args a xa (xa + q) EA.2.1.1 ta
  have qe : q = tQn a := by omega
  subst qe
  rw [zE_called]
  unfold b_called
  have R := r_args (h0 := h0) (qs := qs) (ks := ks) (m := m) (T := T) (fr := fr) (vs := vs) (k := k) X hN hA hnd t4 t5 (qA k3) w.2.2.1.1 w.2.2.2.1 (by omega) (c0 := c) (by omega) a h n _ τ [] T (-1) (-1) EA (by omega) H hl hl2 hl1 En ta (by show 0 + tQn a = tQn a; omega) q4 (I.far' ) I.1 I.2.1.1 (fun j v e => by cases e) rfl rfl E (by omega)
  cases q1 : xmAg T f pp ee env vs a h n with
  | inl e =>
    rw [q1] at R
    exact R
  | inr r =>
    rw [q1] at R
    obtain ⟨τ', t', x4', i1, i2, i3, i4, i5, i6, i7⟩ := R
    rw [List.nil_append] at i1 i5 i6
    have i1 : l_called_8 T (zF h0 qs ks T (m + 5)) h0 qs ks T (nI nd) k (-1) (-1) 0 τ = _ := i1
    show rOt pp V N S P A _ _ (xmAp r.1 fr r.2.1 (xmGet f pp ee env vs d.1) r.2.2)
    obtain ⟨j1, j2, j3, j4, ⟨j5, j5'⟩, j6⟩ := xm_ag a h n _ r EA (by omega) H (by omega) En q1
    have hne : r.2.2 ≠ [] := fun w => by
      rw [w] at j4
      cases a with
      | leaf => exact k3 rfl
      | inner g' d' z' a' b' =>
        have j4 : 0 = tQn b' + 1 := j4
        omega
    have hu := k2
    have hpc : d.1 < cnt := by
      have wf := w.2.1.1
      unfold tWf at wf
      simp only [reduceIte, Nat.reduceEqDiff, or_false, or_self, false_or, false_and, true_and] at wf
      exact wf.1
    rw [i1, l_called_8, zgd_at (zin_n (by omega) (by decide)), nI_clamp (by omega), (i3.r6 nd).2.2.2.1, t5, if_pos (Int32.le_refl _), zgd_at (zin_n (by omega) (by decide)), (i3.r6 nd).2.1, t3, zgd_at (zin_n (by omega) (by decide)), nI_clamp (by omega), i3.1 32 (by decide)]
    obtain ⟨i, g1, g2, g3, g4⟩ := r_get (n := m + 4) (h0 := h0) (qs := qs) (ks := ks) (T := T) i3 (show c ≤ 260000 by omega) i7 (En.mo j2) w.2.2.1.1 w.2.2.2.1 X.2.2.1.1 X.2.2.1.2 (by omega) hu
    rw [g1, zci_at, zgd_at (zin_n (by omega) (by decide)), nI_clamp (by omega), g4, r_is, zcv_at]
    have hv := ((En.get hu).2.2).mo j2
    have v1 : (xmGet f pp ee env vs d.1).1 = 3 := by
      have hy : yIs (tN (gNu f pp ee env d.1)) := by
        cases h' : r.2.2 with
        | nil => exact absurd h' hne
        | cons x l => rw [h'] at j3; exact j3.1
      obtain ⟨fn, i', -, -, -, -, -, v3⟩ := xmT.un j1 hv hy (by omega)
      exact v3
    have I2 := i2.bump i4 (by omega)
    have I3 : rXa pp V N S P A (zJ (zI τ' 192 3) 193 (xmGet f pp ee env vs d.1).2) (c + tQn a) r.2.1 r.1 fr := (I2.i (by omega)).j
    have ch := rAk.ch i5 0 r.2.2 (by omega) (fun j v e => by rw [Nat.zero_add]; exact e)
    rw [if_neg hne, i6, Nat.add_zero] at ch
    have ch2 : rCh (zJ (zI τ' 192 3) 193 (xmGet f pp ee env vs d.1).2) (c + tQn a) (xmAc r.2.2) (nI c) := rCh.kp (τ := τ') (τ' := zJ (zI τ' 192 3) 193 (xmGet f pp ee env vs d.1).2) (fun _ _ => ⟨rfl, rfl, rfl, rfl⟩) (Nat.le_refl _) _ _ ch
    have R2 := r_app (m := m + 2) (h0 := h0) (qs := qs) (ks := ks) (x1 := nI c) X hN I3 j1 hfr (by omega) hdp hv j3 hne (zJ_193 _ _) ch2 (by omega) (by omega)
    rw [if_neg hne]
    have fin : ∀ (Y : zRs), rOt pp V N S P A Y (c + tQn a + xmW fr + r.2.2.length) (xmAp r.1 fr r.2.1 (xmGet f pp ee env vs d.1) r.2.2) → rOt pp V N S P A (zci Y fun r13 s11 => zgd (zbo r13) (some (some (.int r13), s11))) (c + xmW fr + 8) (xmAp r.1 fr r.2.1 (xmGet f pp ee env vs d.1) r.2.2) := fun Y hY => by
      refine rOt.mo (C := c + tQn a + xmW fr + r.2.2.length) ?_ (by omega)
      exact rOt_bo hY
    exact fin _ R2
end XRI
