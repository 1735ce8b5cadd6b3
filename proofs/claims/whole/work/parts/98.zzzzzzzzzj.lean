section RTI
variable {W c : Nat} {B : Int} {m : Nat → Int64}
theorem fm_upd {m : Nat → Int64} {i j : Nat} {v : Int64} {p q : Nat} (hj : j < 160) (hq : q < 160) : fm (vp_updL m (160 * i + j) v) p q = if p = i ∧ q = j then v.toInt else fm m p q := by
  unfold fm
  rw [vp_L]
  by_cases z : p = i ∧ q = j
  · rw [if_pos z, if_pos (by omega)]
  · rw [if_neg z, if_neg (by omega)]
theorem oEv1_at {i : Nat} (hi : i < 160) (hb : -576460752303423488 ≤ fm m i (bx i) ∧ fm m i (bx i) ≤ 576460752303423488) {p q : Nat} (hq : q < 160) : fm (oEv1 i m) p q = if (p = i ∧ q = bx p) ∧ fm m p q < 1125899906842624 then 2 * (fm m p q / 2) else fm m p q := by
  have hbi : bx i < 160 := bx_lt (c := 80) hi
  unfold oEv1
  show fm (if 0 ≤ lg_cmp (m (160 * i + bx i)) _ then _ else vp_updL m (160 * i + bx i) (2 * oDn (m (160 * i + bx i)))) p q = _
  by_cases z : 0 ≤ lg_cmp (m (160 * i + bx i)) 1125899906842624
  · rw [if_pos z]
    have := (l_ge _ _).mp z
    rw [e50] at this
    rw [if_neg]
    rintro ⟨⟨rfl, rfl⟩, w⟩
    have w : (m (160 * p + bx p)).toInt < 1125899906842624 := w
    omega
  · rw [if_neg z]
    have z' := l_gn z
    rw [e50] at z'
    have hb' : -576460752303423488 ≤ (m (160 * i + bx i)).toInt ∧ (m (160 * i + bx i)).toInt ≤ 576460752303423488 := hb
    have e := oDn_i (x := m (160 * i + bx i)) (by omega) (by omega)
    have e2 : (2 : Int64).toInt = 2 := by decide
    rw [fm_upd hbi hq]
    by_cases y : p = i ∧ q = bx p
    · obtain ⟨rfl, rfl⟩ := y
      rw [if_pos ⟨rfl, rfl⟩, if_pos ⟨⟨rfl, rfl⟩, z'⟩, j_mul, e, e2]
      · rfl
      · rw [e, e2]; omega
      · rw [e, e2]; omega
    · rw [if_neg (fun w => y ⟨w.1, by rw [w.1, w.2]⟩), if_neg (fun w => y w.1)]
/-- no circle below 0: all sides' own made even -/
theorem oTi_at (hW : W ≤ 160) (hWc : W = 2 * c) (hb : fB 576460752303423488 W (fm m)) (hd : ∀ i, i < W → 0 ≤ fm m i i) : ∀ K, K ≤ W → ∃ m', oTi K m = some m' ∧ ∀ p q, p < W → q < W → fm m' p q = if (p < K ∧ q = bx p) ∧ fm m p q < 1125899906842624 then 2 * (fm m p q / 2) else fm m p q
  | 0, _ => ⟨m, rfl, fun p q _ _ => (if_neg (fun w => absurd w.1.1 (Nat.not_lt_zero _))).symm⟩
  | K + 1, hK => by
    obtain ⟨m', i1, i2⟩ := oTi_at hW hWc hb hd K (by omega)
    have hbK : bx K < W := by rw [hWc] at hK ⊢; exact bx_lt (by omega)
    have d0 : fm m' K K = fm m K K := by
      rw [i2 K K (by omega) (by omega), if_neg (fun w => absurd w.1.1 (Nat.lt_irrefl _))]
    have d1 : fm m' K (bx K) = fm m K (bx K) := by
      rw [i2 K _ (by omega) hbK, if_neg (fun w => absurd w.1.1 (Nat.lt_irrefl _))]
    have nn : 0 ≤ lg_cmp (m' (160 * K + K)) 0 := by
      rw [l_ge]
      have := hd K (by omega)
      rw [← d0] at this
      exact this
    refine ⟨oEv1 K m', ?_, fun p q hp hq => ?_⟩
    · show (oTi K m).bind _ = _
      rw [i1]
      show (if 0 ≤ lg_cmp (m' (160 * K + K)) 0 then some (oEv1 K m') else none) = _
      rw [if_pos nn]
    · rw [oEv1_at (by omega) (by rw [d1]; exact hb K _ (by omega) hbK) (by omega)]
      by_cases z : p = K
      · subst z
        have e : fm m' p q = fm m p q := by
          rw [i2 p q hp hq, if_neg (fun w => absurd w.1.1 (Nat.lt_irrefl _))]
        rw [e]
        by_cases y : q = bx p ∧ fm m p q < 1125899906842624
        · rw [if_pos ⟨⟨rfl, y.1⟩, y.2⟩, if_pos ⟨⟨Nat.lt_succ_self _, y.1⟩, y.2⟩]
        · rw [if_neg (fun w => y ⟨w.1.2, w.2⟩), if_neg (fun w => y ⟨w.1.2, w.2⟩)]
      · rw [if_neg (fun w => z w.1.1), i2 p q hp hq]
        by_cases y : (p < K ∧ q = bx p) ∧ fm m p q < 1125899906842624
        · rw [if_pos y, if_pos ⟨⟨by omega, y.1.2⟩, y.2⟩]
        · rw [if_neg y, if_neg (fun w => y ⟨⟨by omega, w.1.2⟩, w.2⟩)]
/-- a circle below 0 is seen -/
theorem oTi_some (m : Nat → Int64) : ∀ K, K ≤ 160 → ∀ m', oTi K m = some m' → (∀ i, i < K → 0 ≤ fm m i i) ∧ ∀ i, i < 160 → fm m' i i = fm m i i
  | 0, _, m', h => by
    have : m = m' := Option.some.inj h
    subst this
    exact ⟨fun i hi => absurd hi (Nat.not_lt_zero _), fun i _ => rfl⟩
  | K + 1, hK, m', h => by
    have h' : (oTi K m).bind (fun m => if 0 ≤ lg_cmp (m (160 * K + K)) 0 then some (oEv1 K m) else none) = some m' := h
    cases e : oTi K m with
    | none => rw [e] at h'; cases h'
    | some m1 =>
      rw [e] at h'
      have h' : (if 0 ≤ lg_cmp (m1 (160 * K + K)) 0 then some (oEv1 K m1) else none) = some m' := h'
      obtain ⟨i1, i2⟩ := oTi_some m K (by omega) m1 e
      by_cases z : 0 ≤ lg_cmp (m1 (160 * K + K)) 0
      · rw [if_pos z] at h'
        have h' : oEv1 K m1 = m' := Option.some.inj h'
        have z' : 0 ≤ fm m1 K K := (l_ge _ _).mp z
        rw [i2 K (by omega)] at z'
        refine ⟨fun i hi => ?_, fun i hi => ?_⟩
        · by_cases y : i = K
          · rw [y]; exact z'
          · exact i1 i (by omega)
        · rw [← i2 i hi, ← h']
          unfold oEv1
          split
          · rfl
          · show fm (vp_updL m1 (160 * K + bx K) _) i i = _
            rw [fm_upd (bx_lt (c := 80) (by omega)) hi, if_neg]
            rintro ⟨rfl, w⟩
            exact bx_ne _ w.symm
      · rw [if_neg z] at h'
        cases h'
theorem oBad_iff {i : Nat} (hb1 : -576460752303423488 ≤ fm m i (bx i) ∧ fm m i (bx i) ≤ 576460752303423488) (hb2 : -576460752303423488 ≤ fm m (bx i) i ∧ fm m (bx i) i ≤ 576460752303423488) : oBad m i = true ↔ fm m i (bx i) < 1125899906842624 ∧ fm m (bx i) i < 1125899906842624 ∧ fm m i (bx i) + fm m (bx i) i < 0 := by
  unfold oBad
  show (decide (¬ 0 ≤ lg_cmp (m (160 * i + bx i)) _) && (decide (¬ 0 ≤ lg_cmp (m (160 * bx i + i)) _) && decide (¬ 0 ≤ lg_cmp (m (160 * i + bx i) + m (160 * bx i + i)) 0))) = true ↔ _
  have q1 : -576460752303423488 ≤ (m (160 * i + bx i)).toInt ∧ (m (160 * i + bx i)).toInt ≤ 576460752303423488 := hb1
  have q2 : -576460752303423488 ≤ (m (160 * bx i + i)).toInt ∧ (m (160 * bx i + i)).toInt ≤ 576460752303423488 := hb2
  have e0 : (0 : Int64).toInt = 0 := by decide
  rw [Bool.and_eq_true, Bool.and_eq_true, decide_eq_true_eq, decide_eq_true_eq, decide_eq_true_eq, l_ge, l_ge, l_ge, j_add (by omega) (by omega), e50, e0]
  unfold fm
  omega
/-- the value of a cell behind the halves -/
def fHv (f : Nat → Nat → Int) (i j : Nat) : Int := if f i (bx i) < 1125899906842624 ∧ f (bx j) j < 1125899906842624 ∧ (f i (bx i) + f (bx j) j).tdiv 2 < f i j then (f i (bx i) + f (bx j) j).tdiv 2 else f i j
theorem fHv_own (f : Nat → Nat → Int) (i : Nat) : fHv f i (bx i) = f i (bx i) := by
  unfold fHv
  rw [bx_bx, show (f i (bx i) + f i (bx i)).tdiv 2 = f i (bx i) by rw [t_hf]; split <;> omega, if_neg (by omega)]
theorem oHf_at {i j : Nat} (hj : j < 160) (hb1 : -576460752303423488 ≤ fm m i (bx i) ∧ fm m i (bx i) ≤ 576460752303423488) (hb2 : -576460752303423488 ≤ fm m (bx j) j ∧ fm m (bx j) j ≤ 576460752303423488) {p q : Nat} (hq : q < 160) : fm (oHf i j m) p q = if p = i ∧ q = j then fHv (fm m) p q else fm m p q := by
  have q1 : -576460752303423488 ≤ (m (160 * i + bx i)).toInt ∧ (m (160 * i + bx i)).toInt ≤ 576460752303423488 := hb1
  have q2 : -576460752303423488 ≤ (m (160 * bx j + j)).toInt ∧ (m (160 * bx j + j)).toInt ≤ 576460752303423488 := hb2
  unfold oHf
  show fm (if 0 ≤ lg_cmp (m (160 * i + bx i)) 1125899906842624 then m else if 0 ≤ lg_cmp (m (160 * bx j + j)) 1125899906842624 then m else oLow m (160 * i + j) ((m (160 * i + bx i) + m (160 * bx j + j)) / 2)) p q = _
  by_cases z1 : 0 ≤ lg_cmp (m (160 * i + bx i)) 1125899906842624
  · rw [if_pos z1]
    have := (l_ge _ _).mp z1
    rw [e50] at this
    split
    · rename_i y
      obtain ⟨rfl, rfl⟩ := y
      unfold fHv
      rw [if_neg (fun w => absurd w.1 (by show ¬ (m (160 * p + bx p)).toInt < _; omega))]
    · rfl
  · rw [if_neg z1]
    have z1' := l_gn z1
    rw [e50] at z1'
    by_cases z2 : 0 ≤ lg_cmp (m (160 * bx j + j)) 1125899906842624
    · rw [if_pos z2]
      have := (l_ge _ _).mp z2
      rw [e50] at this
      split
      · rename_i y
        obtain ⟨rfl, rfl⟩ := y
        unfold fHv
        rw [if_neg (fun w => absurd w.2.1 (by show ¬ (m (160 * bx q + q)).toInt < _; omega))]
      · rfl
    · rw [if_neg z2]
      have z2' := l_gn z2
      rw [e50] at z2'
      have ea : (m (160 * i + bx i) + m (160 * bx j + j)).toInt = fm m i (bx i) + fm m (bx j) j := j_add (by omega) (by omega)
      have ev : ((m (160 * i + bx i) + m (160 * bx j + j)) / 2).toInt = (fm m i (bx i) + fm m (bx j) j).tdiv 2 := by
        rw [l_hf, ea]
        · rw [ea]; unfold fm; omega
        · rw [ea]; unfold fm; omega
      unfold oLow
      by_cases z3 : 0 ≤ lg_cmp ((m (160 * i + bx i) + m (160 * bx j + j)) / 2) (m (160 * i + j))
      · rw [if_pos z3]
        have z3' := (l_ge _ _).mp z3
        rw [ev] at z3'
        split
        · rename_i y
          obtain ⟨rfl, rfl⟩ := y
          unfold fHv
          rw [if_neg (fun w => absurd w.2.2 (by show ¬ _ < (m (160 * p + q)).toInt; omega))]
        · rfl
      · rw [if_neg z3]
        have z3' := l_gn z3
        rw [ev] at z3'
        rw [fm_upd hj hq]
        split
        · rename_i y
          obtain ⟨rfl, rfl⟩ := y
          unfold fHv
          rw [ev, if_pos ⟨z1', z2', z3'⟩]
        · rfl
theorem oHr_at {i : Nat} (hW : W ≤ 160) (hWc : W = 2 * c) (hi : i < W) (hb : fB 576460752303423488 W (fm m)) : ∀ K, K ≤ W → ∀ p q, p < W → q < W → fm (oHr i K m) p q = if p = i ∧ q < K then fHv (fm m) p q else fm m p q
  | 0, _, p, q, _, _ => (if_neg (fun w => absurd w.2 (Nat.not_lt_zero _))).symm
  | K + 1, hK, p, q, hp, hq => by
    have ih := oHr_at hW hWc hi hb K (by omega)
    have blt : ∀ {x}, x < W → bx x < W := fun {x} hx => by rw [hWc] at hx ⊢; exact bx_lt hx
    have own : ∀ x, x < W → fm (oHr i K m) x (bx x) = fm m x (bx x) := fun x hx => by
      rw [ih x _ hx (blt hx)]
      split
      · exact fHv_own _ _
      · rfl
    have own' : ∀ x, x < W → fm (oHr i K m) (bx x) x = fm m (bx x) x := fun x hx => by
      have := own (bx x) (blt hx)
      rw [bx_bx] at this
      exact this
    have hKW : K < W := by omega
    show fm (oHf i K (oHr i K m)) p q = _
    rw [oHf_at (by omega) (by rw [own i hi]; exact hb _ _ hi (blt hi)) (by rw [own' K hKW]; exact hb _ _ (blt hKW) hKW) (by omega)]
    by_cases z : p = i ∧ q = K
    · obtain ⟨rfl, rfl⟩ := z
      rw [if_pos ⟨rfl, rfl⟩, if_pos ⟨rfl, Nat.lt_succ_self _⟩]
      have eo : fm (oHr p q m) p q = fm m p q := by rw [ih p q hp hq, if_neg (fun w => absurd w.2 (Nat.lt_irrefl _))]
      unfold fHv
      rw [own p hp, own' q hq, eo]
    · rw [if_neg z, ih p q hp hq]
      by_cases y : p = i ∧ q < K
      · rw [if_pos y, if_pos ⟨y.1, by omega⟩]
      · rw [if_neg y, if_neg (fun w => y ⟨w.1, by omega⟩)]
theorem oHa_at (hW : W ≤ 160) (hWc : W = 2 * c) (hb : fB 576460752303423488 W (fm m)) : ∀ K, K ≤ W → ∀ p q, p < W → q < W → fm (oHa W K m) p q = if p < K then fHv (fm m) p q else fm m p q
  | 0, _, p, q, _, _ => (if_neg (Nat.not_lt_zero _)).symm
  | K + 1, hK, p, q, hp, hq => by
    have ih := oHa_at hW hWc hb K (by omega)
    have blt : ∀ {x}, x < W → bx x < W := fun {x} hx => by rw [hWc] at hx ⊢; exact bx_lt hx
    have own : ∀ x, x < W → fm (oHa W K m) x (bx x) = fm m x (bx x) := fun x hx => by
      rw [ih x _ hx (blt hx)]
      split
      · exact fHv_own _ _
      · rfl
    have own' : ∀ x, x < W → fm (oHa W K m) (bx x) x = fm m (bx x) x := fun x hx => by
      have := own (bx x) (blt hx)
      rw [bx_bx] at this
      exact this
    have hb' : fB 576460752303423488 W (fm (oHa W K m)) := fun p q hp hq => by
      have b0 := hb p q hp hq
      have b1 := hb p _ hp (blt hp)
      have b2 := hb _ q (blt hq) hq
      rw [ih p q hp hq]
      split
      · unfold fHv
        have e := t_hf (fm m p (bx p) + fm m (bx q) q)
        generalize (fm m p (bx p) + fm m (bx q) q).tdiv 2 = v at e ⊢
        split
        · split at e <;> omega
        · exact b0
      · exact b0
    show fm (oHr K W (oHa W K m)) p q = _
    rw [oHr_at hW hWc (by omega) hb' W (Nat.le_refl _) p q hp hq]
    by_cases z : p = K
    · subst z
      rw [if_pos ⟨rfl, hq⟩, if_pos (Nat.lt_succ_self _)]
      have eo : fm (oHa W p m) p q = fm m p q := by rw [ih p q hp hq, if_neg (Nat.lt_irrefl _)]
      unfold fHv
      rw [own p hp, own' q hq, eo]
    · rw [if_neg (fun w => z w.1), ih p q hp hq]
      by_cases y : p < K
      · rw [if_pos y, if_pos (by omega)]
      · rw [if_neg y, if_neg (by omega)]
/-- no limits contradict one another -/
def xOk (C : Nat → Nat → Int → Prop) : Prop := ∀ i c, xDv bx C i i c → 0 ≤ c
/-- **closes() of the reference tells all that follows** -/
theorem oct_ref {C : Nat → Nat → Int → Prop} (hW : W ≤ 160) (hWc : W = 2 * c) (hB : 0 ≤ B) (hBW : (W : Int) * B + B < 1125899906842624) (hd : fZ W (fm m)) (hc : fC B W (fm m)) (hco : xCoh bx (tbA 1125899906842624 W (fm m))) (h1 : ∀ p q e, C p q e → tbA 1125899906842624 W (fm m) p q e) (h2 : ∀ p q e, tbA 1125899906842624 W (fm m) p q e → xDv bx C p q e) : (oCls W m = none → ¬ xOk C) ∧ ∀ m', oCls W m = some m' → xOk C ∧ ∀ i j, i < W → j < W → ∀ e, (xDv bx C i j e ↔ fm m' i j < 1125899906842624 ∧ fm m' i j ≤ e) := by
  have hN : (0 : Int) < 1125899906842624 := by decide
  have blt : ∀ {x}, x < W → bx x < W := fun {x} hx => by rw [hWc] at hx ⊢; exact bx_lt hx
  rcases oFw_at hW hB hBW hd hc W (Nat.le_refl _) with ⟨a1, a2, a3, a4⟩ | ⟨⟨i, hi, hi'⟩, v, e, he, hv⟩
  · have hb : fB 576460752303423488 W (fm (oFw W W m)) := fun i j hi hj => by
      rcases a3 i j hi hj with h | h
      · omega
      · omega
    obtain ⟨m1, t1, t2⟩ := oTi_at hW hWc hb a1 W (Nat.le_refl _)
    have t2 : ∀ p q, p < W → q < W → fm m1 p q = if q = bx p ∧ fm (oFw W W m) p q < 1125899906842624 then 2 * (fm (oFw W W m) p q / 2) else fm (oFw W W m) p q := fun p q hp hq => by
      rw [t2 p q hp hq]
      by_cases y : q = bx p ∧ fm (oFw W W m) p q < 1125899906842624
      · rw [if_pos y, if_pos ⟨⟨hp, y.1⟩, y.2⟩]
      · rw [if_neg y, if_neg (fun w => y ⟨w.1.2, w.2⟩)]
    have hb1 : fB 1125899906842626 W (fm m1) := fun i j hi hj => by
      rw [t2 i j hi hj]
      rcases a3 i j hi hj with h | h
      · split <;> omega
      · split <;> omega
    have hb1' : fB 576460752303423488 W (fm m1) := fun i j hi hj => by
      have := hb1 i j hi hj
      omega
    have d1 : fZ W (fm m1) := fun i hi => by
      rw [t2 i i hi hi, if_neg (fun w => bx_ne i w.1.symm)]
      exact a2 i hi
    -- the abstract ones
    have eA : tbA 1125899906842624 W (fm (oFw W W m)) = xFW (tbA 1125899906842624 W (fm m)) W := funext fun i => funext fun j => funext fun e => propext (a4 i j e)
    have e1 : tbA 1125899906842624 W (fm m1) = x1 bx (xFW (tbA 1125899906842624 W (fm m)) W) := by
      rw [← eA]
      exact funext fun i => funext fun j => funext fun e => propext (tbA.x1 hN hWc a2 t2 i j e)
    have hn : ∀ k, k < W → ∀ c, xFW (tbA 1125899906842624 W (fm m)) k k k c → 0 ≤ c := fun k hk e h => by
      have := xFW.ge k (W - k) k k e h
      rw [show k + (W - k) = W by omega, ← eA] at this
      have := (tbA.at hN a2 hk hk).mp this
      have := a1 k hk
      omega
    have hu := xFW.up (A := tbA 1125899906842624 W (fm m)) tbA.up W
    have hz : ∀ p, xFW (tbA 1125899906842624 W (fm m)) W p p 0 := fun p => xFW.le W p p 0 (tbA.z p)
    have ht := xFW.tri (A := tbA 1125899906842624 W (fm m)) tbA.up tbA.n0 hn
    have hch := xFW.coh bx_bx (A := tbA 1125899906842624 W (fm m)) tbA.up hco ht
    have hC : ∀ p q e, C p q e → xFW (tbA 1125899906842624 W (fm m)) W p q e := fun p q e h => xFW.le W p q e (h1 p q e h)
    have hD : ∀ p q e, xFW (tbA 1125899906842624 W (fm m)) W p q e → xDv bx C p q e := fun p q e h => xFW.dv h2 W p q e h
    have own : ∀ i, i < W → ∀ e, x1 bx (xFW (tbA 1125899906842624 W (fm m)) W) i (bx i) e ↔ fm m1 i (bx i) < 1125899906842624 ∧ fm m1 i (bx i) ≤ e := fun i hi e => by
      rw [← e1]
      exact tbA.at hN d1 hi (blt hi)
    have own' : ∀ i, i < W → ∀ e, x1 bx (xFW (tbA 1125899906842624 W (fm m)) W) (bx i) i e ↔ fm m1 (bx i) i < 1125899906842624 ∧ fm m1 (bx i) i ≤ e := fun i hi e => by
      rw [← e1]
      exact tbA.at hN d1 (blt hi) hi
    have eO : oCls W m = if (List.range' 0 W).any (oBad m1) = true then none else some (oHa W W m1) := by
      unfold oCls
      rw [t1]
      rfl
    rw [eO]
    by_cases z : (List.range' 0 W).any (oBad m1) = true
    · rw [if_pos z]
      refine ⟨fun _ hO => ?_, fun m' h => by cases h⟩
      obtain ⟨i, hi, hb'⟩ := List.any_eq_true.mp z
      have hi : i < W := by
        have := List.mem_range'_1.mp hi
        omega
      obtain ⟨y1, y2, y3⟩ := (oBad_iff (hb1' _ _ hi (blt hi)) (hb1' _ _ (blt hi) hi)).mp hb'
      obtain ⟨e, q1, q2⟩ := x1_bad (br := bx) hu hD ((own i hi _).mpr ⟨y1, Int.le_refl _⟩) ((own' i hi _).mpr ⟨y2, Int.le_refl _⟩) y3
      have := hO i e q2
      omega
    · rw [if_neg z]
      have ho : ∀ i a b, x1 bx (xFW (tbA 1125899906842624 W (fm m)) W) i (bx i) a → x1 bx (xFW (tbA 1125899906842624 W (fm m)) W) (bx i) i b → 0 ≤ a + b := fun i a b p1 p2 => by
        by_cases hi : i < W
        · have r1 := (own i hi a).mp p1
          have r2 := (own' i hi b).mp p2
          have nb : ¬ oBad m1 i = true := fun w => z (List.any_eq_true.mpr ⟨i, List.mem_range'_1.mpr ⟨by omega, by omega⟩, w⟩)
          rw [oBad_iff (hb1' _ _ hi (blt hi)) (hb1' _ _ (blt hi) hi)] at nb
          have : ¬ fm m1 i (bx i) + fm m1 (bx i) i < 0 := fun w => nb ⟨r1.1, r2.1, w⟩
          omega
        · rw [← e1] at p1
          rcases p1 with ⟨w, -⟩ | ⟨w, -⟩
          · exact absurd w hi
          · exact absurd w.symm (bx_ne i)
      refine ⟨fun h => (by cases h), fun m' h => ?_⟩
      have h : oHa W W m1 = m' := Option.some.inj h
      have dv := x2_dv (br := bx) bx_bx hu hz ht hch ho hC hD
      have ev : ∀ i, i < W → fm m1 i (bx i) < 1125899906842624 → fm m1 i (bx i) % 2 = 0 := fun i hi w => by
        rw [t2 i _ hi (blt hi)] at w ⊢
        by_cases y : bx i = bx i ∧ fm (oFw W W m) i (bx i) < 1125899906842624
        · rw [if_pos y]; omega
        · rw [if_neg y] at w ⊢
          exact absurd ⟨rfl, w⟩ y
      have ev' : ∀ i, i < W → fm m1 (bx i) i < 1125899906842624 → fm m1 (bx i) i % 2 = 0 := fun i hi w => by
        have := ev (bx i) (blt hi)
        rw [bx_bx] at this
        exact this w
      have hg : ∀ i j, i < W → j < W → fm m' i j = if fm m1 i (bx i) < 1125899906842624 ∧ fm m1 (bx j) j < 1125899906842624 ∧ fm m1 i (bx i) / 2 + fm m1 (bx j) j / 2 < fm m1 i j then fm m1 i (bx i) / 2 + fm m1 (bx j) j / 2 else fm m1 i j := fun i j hi hj => by
        rw [← h, oHa_at hW hWc hb1' W (Nat.le_refl _) i j hi hj, if_pos hi]
        unfold fHv
        by_cases y : fm m1 i (bx i) < 1125899906842624 ∧ fm m1 (bx j) j < 1125899906842624
        · have v1 := ev i hi y.1
          have v2 := ev' j hj y.2
          have e : (fm m1 i (bx i) + fm m1 (bx j) j).tdiv 2 = fm m1 i (bx i) / 2 + fm m1 (bx j) j / 2 := by
            rw [t_hf]; split <;> omega
          rw [e]
        · rw [if_neg (fun w => y ⟨w.1, w.2.1⟩), if_neg (fun w => y ⟨w.1, w.2.1⟩)]
      have e2 : ∀ i j e, tbA 1125899906842624 W (fm m') i j e ↔ xDv bx C i j e := fun i j e => by
        rw [tbA.x2 hN hWc d1 hg i j e, e1]
        exact dv i j e
      have d2 : fZ W (fm m') := fun i hi => by
        rw [hg i i hi hi]
        have := d1 i hi
        split <;> omega
      refine ⟨fun i e w => ?_, fun i j hi hj e => ?_⟩
      · have w := (dv i i e).mpr w
        rcases w with w | ⟨a, b, w1, w2, w3⟩
        · rw [← e1] at w
          rcases w with ⟨p1, p2, p3, p4⟩ | ⟨p1, p2⟩
          · rw [t2 i i p1 p1, if_neg (fun w => bx_ne i w.1.symm)] at p4
            have := a1 i p1
            omega
          · exact p2
        · have ha := x1.even hu w1
          have w2' : x1 bx (xFW (tbA 1125899906842624 W (fm m)) W) (bx i) (bx (bx i)) b := by rw [bx_bx]; exact w2
          have hb' := x1.even hu w2'
          rw [bx_bx] at hb'
          have := ho i _ _ ha hb'
          omega
      · rw [← e2, tbA.at hN d2 hi hj]
  · refine ⟨fun _ hO => ?_, fun m' h => ?_⟩
    · have := hO v e (xFW.dv h2 W v v e hv)
      omega
    · exfalso
      unfold oCls at h
      cases e : oTi W (oFw W W m) with
      | none => rw [e] at h; cases h
      | some m1 =>
        have := (oTi_some (oFw W W m) W hW m1 e).1 i hi
        omega
end RTI
