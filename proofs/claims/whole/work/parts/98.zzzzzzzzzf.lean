/-! closes() of the reference: all that follows of its table -/
theorem l_ge (x y : Int64) : 0 ≤ lg_cmp x y ↔ y.toInt ≤ x.toInt := by
  unfold lg_cmp
  by_cases h : x > y
  · rw [if_pos h]
    have : y.toInt < x.toInt := Int64.lt_iff_toInt_lt.mp h
    exact ⟨fun _ => by omega, fun _ => by decide⟩
  · rw [if_neg h]
    by_cases e : x = y
    · rw [if_pos e, e]
      exact ⟨fun _ => Int.le_refl _, fun _ => by decide⟩
    · rw [if_neg e]
      have h1 : ¬ y.toInt < x.toInt := fun w => h (Int64.lt_iff_toInt_lt.mpr w)
      have h2 : x.toInt ≠ y.toInt := fun w => e (Int64.toInt_inj.mp w)
      exact ⟨fun w => absurd w (by decide), fun w => by omega⟩
theorem l_lt (x y : Int64) : lg_cmp x y < 0 ↔ x.toInt < y.toInt := by
  unfold lg_cmp
  by_cases h : x > y
  · rw [if_pos h]
    have : y.toInt < x.toInt := Int64.lt_iff_toInt_lt.mp h
    exact ⟨fun w => absurd w (by decide), fun w => by omega⟩
  · rw [if_neg h]
    by_cases e : x = y
    · rw [if_pos e, e]
      exact ⟨fun w => absurd w (by decide), fun w => by omega⟩
    · rw [if_neg e]
      have h1 : ¬ y.toInt < x.toInt := fun w => h (Int64.lt_iff_toInt_lt.mpr w)
      have h2 : x.toInt ≠ y.toInt := fun w => e (Int64.toInt_inj.mp w)
      exact ⟨fun w => by omega, fun w => by decide⟩
theorem l_gn {x y : Int64} (h : ¬ 0 ≤ lg_cmp x y) : x.toInt < y.toInt := by
  have : ¬ y.toInt ≤ x.toInt := fun w => h ((l_ge x y).mpr w)
  omega
theorem l_ln {x y : Int64} (h : ¬ lg_cmp x y < 0) : y.toInt ≤ x.toInt := by
  have : ¬ x.toInt < y.toInt := fun w => h ((l_lt x y).mpr w)
  omega
theorem j_add {x y : Int64} (h1 : -4611686018427387904 ≤ x.toInt + y.toInt) (h2 : x.toInt + y.toInt ≤ 4611686018427387904) : (x + y).toInt = x.toInt + y.toInt := by
  rw [Int64.toInt_add, Int.bmod_eq_of_le (by omega) (by omega)]
theorem j_mul {x y : Int64} (h1 : -4611686018427387904 ≤ x.toInt * y.toInt) (h2 : x.toInt * y.toInt ≤ 4611686018427387904) : (x * y).toInt = x.toInt * y.toInt := by
  rw [Int64.toInt_mul, Int.bmod_eq_of_le (by omega) (by omega)]
theorem j_sub {x y : Int64} (h1 : -4611686018427387904 ≤ x.toInt - y.toInt) (h2 : x.toInt - y.toInt ≤ 4611686018427387904) : (x - y).toInt = x.toInt - y.toInt := by
  rw [Int64.toInt_sub, Int.bmod_eq_of_le (by omega) (by omega)]
theorem l_hf {x : Int64} (h1 : -4611686018427387904 ≤ x.toInt) (h2 : x.toInt ≤ 4611686018427387904) : (x / 2).toInt = x.toInt.tdiv 2 := by
  have e2 : (2 : Int64).toInt = 2 := by decide
  have q : -4611686018427387904 ≤ x.toInt.tdiv 2 ∧ x.toInt.tdiv 2 ≤ 4611686018427387904 := by
    rcases Int.le_total 0 x.toInt with z | z
    · rw [Int.tdiv_eq_ediv_of_nonneg z]; omega
    · obtain ⟨y, e⟩ : ∃ y, x.toInt = -y := ⟨-x.toInt, by omega⟩
      rw [e, Int.neg_tdiv, Int.tdiv_eq_ediv_of_nonneg (by omega)]; omega
  rw [Int64.toInt_div, e2, Int.bmod_eq_of_le (by omega) (by omega)]
theorem t_hf (x : Int) : x.tdiv 2 = if 0 ≤ x then x / 2 else -((-x) / 2) := by
  by_cases z : 0 ≤ x
  · rw [if_pos z, Int.tdiv_eq_ediv_of_nonneg z]
  · rw [if_neg z]
    obtain ⟨y, e⟩ : ∃ y, x = -y := ⟨-x, by omega⟩
    rw [e, Int.neg_tdiv, Int.tdiv_eq_ediv_of_nonneg (by omega), Int.neg_neg]
theorem oDn_i {x : Int64} (h1 : -4611686018427387904 ≤ x.toInt) (h2 : x.toInt ≤ 4611686018427387904) : (oDn x).toInt = x.toInt / 2 := by
  have e0 : (0 : Int64).toInt = 0 := by decide
  have e1 : (1 : Int64).toInt = 1 := by decide
  have e2 : (2 : Int64).toInt = 2 := by decide
  have h := l_hf h1 h2
  rw [t_hf] at h
  have hm : (x / 2 * 2).toInt = (x / 2).toInt * 2 := by
    rw [j_mul, e2] <;> rw [e2] <;> split at h <;> omega
  have hs : (x - x / 2 * 2).toInt = x.toInt - (x / 2).toInt * 2 := by
    rw [j_sub, hm] <;> rw [hm] <;> split at h <;> omega
  have hc : lg_cmp (x - x / 2 * 2) 0 = 0 ↔ (x - x / 2 * 2).toInt = 0 := by
    unfold lg_cmp
    by_cases q : x - x / 2 * 2 > 0
    · rw [if_pos q]
      have := Int64.lt_iff_toInt_lt.mp q
      rw [e0] at this
      exact ⟨fun w => absurd w (by decide), fun w => by omega⟩
    · rw [if_neg q]
      by_cases e : x - x / 2 * 2 = 0
      · rw [if_pos e, e, e0]
        exact ⟨fun _ => rfl, fun _ => rfl⟩
      · rw [if_neg e]
        exact ⟨fun w => absurd w (by decide), fun w => absurd (Int64.toInt_inj.mp (w.trans e0.symm)) e⟩
  unfold oDn
  by_cases c1 : lg_cmp (x - x / 2 * 2) 0 = 0
  · rw [if_pos c1]
    have := hc.mp c1
    rw [hs] at this
    split at h <;> omega
  · rw [if_neg c1]
    have c1' : ¬ (x - x / 2 * 2).toInt = 0 := fun w => c1 (hc.mpr w)
    rw [hs] at c1'
    by_cases c2 : 0 ≤ lg_cmp x 0
    · rw [if_pos c2]
      have := (l_ge x 0).mp c2
      rw [e0] at this
      rw [if_pos this] at h
      exact h
    · rw [if_neg c2]
      have : ¬ (0 : Int64).toInt ≤ x.toInt := fun w => c2 ((l_ge x 0).mpr w)
      rw [e0] at this
      rw [if_neg this] at h
      rw [j_sub] <;> rw [e1] <;> omega
/-- the table as whole numbers -/
def fm (m : Nat → Int64) (i j : Nat) : Int := (m (160 * i + j)).toInt
theorem e50 : (1125899906842624 : Int64).toInt = 1125899906842624 := by decide
theorem oSt1_i {x a b : Int64} (h1 : -4611686018427387904 ≤ x.toInt + a.toInt) (h2 : x.toInt + a.toInt ≤ 4611686018427387904) : (oSt1 x a b).toInt = if a.toInt < 1125899906842624 ∧ x.toInt + a.toInt < b.toInt then x.toInt + a.toInt else b.toInt := by
  unfold oSt1
  have e := j_add h1 h2
  by_cases c1 : 0 ≤ lg_cmp (x + a) b
  · rw [if_pos c1]
    have := (l_ge _ _).mp c1
    rw [if_neg (by omega)]
  · rw [if_neg c1]
    have c1' := l_gn c1
    by_cases c2 : 0 ≤ lg_cmp a 1125899906842624
    · rw [if_pos c2]
      have := (l_ge _ _).mp c2
      rw [e50] at this
      rw [if_neg (by omega)]
    · rw [if_neg c2]
      have c2' := l_gn c2
      rw [e50] at c2'
      rw [if_pos (by omega), e]
theorem oSt1_le (x a b : Int64) : (oSt1 x a b).toInt ≤ b.toInt := by
  unfold oSt1
  by_cases c1 : 0 ≤ lg_cmp (x + a) b
  · rw [if_pos c1]; exact Int.le_refl _
  · rw [if_neg c1]
    have c1' := l_gn c1
    by_cases c2 : 0 ≤ lg_cmp a 1125899906842624
    · rw [if_pos c2]; exact Int.le_refl _
    · rw [if_neg c2]; omega
/-- cells are lowered alone -/
theorem oRow_le (W k i : Nat) (m : Nat → Int64) (e : Nat) : (oRow W k i m e).toInt ≤ (m e).toInt := by
  unfold oRow
  split
  · show (if _ then _ else _ : Int64).toInt ≤ _
    split
    · exact oSt1_le _ _ _
    · exact Int.le_refl _
  · exact Int.le_refl _
theorem oRws_le (W k : Nat) : ∀ (i : Nat) (m : Nat → Int64) (e : Nat), (oRws W k i m e).toInt ≤ (m e).toInt
  | 0, m, e => Int.le_refl _
  | i + 1, m, e => Int.le_trans (oRow_le W k i _ e) (oRws_le W k i m e)
section ROW
variable {W k : Nat} {m : Nat → Int64}
/-- bounds of a table -/
def fB (D : Int) (W : Nat) (f : Nat → Nat → Int) : Prop := ∀ i j, i < W → j < W → -D ≤ f i j ∧ f i j ≤ D
/-- one row; row k and column k stay where k's own circle is 0 -/
theorem oRow_at {i : Nat} (hW : W ≤ 160) (hk : k < W) (hi : i < W) (hb : fB 1152921504606846976 W (fm m)) {p q : Nat} (hp : p < W) (hq : q < W) : fm (oRow W k i m) p q = if p = i then fSt 1125899906842624 k (fm m) p q else fm m p q := by
  unfold fm oRow
  have b1 := hb i k hi hk
  unfold fm at b1
  by_cases c : lg_cmp (m (160 * i + k)) 1125899906842624 < 0
  · rw [if_pos c]
    have c' := (l_lt _ _).mp c
    rw [e50] at c'
    by_cases z : p = i
    · subst z
      rw [if_pos rfl]
      have b2 := hb k q hk hq
      unfold fm at b2
      show (if _ then _ else _ : Int64).toInt = _
      rw [if_pos (by omega), show 160 * p + q - 160 * p = q by omega, oSt1_i (by omega) (by omega)]
      show _ = if _ then _ else _
      by_cases y : (m (160 * k + q)).toInt < 1125899906842624 ∧ (m (160 * p + k)).toInt + (m (160 * k + q)).toInt < (m (160 * p + q)).toInt
      · rw [if_pos y, if_pos ⟨c', y.1, y.2⟩]
      · rw [if_neg y, if_neg (fun w => y w.2)]
    · rw [if_neg z]
      show (if _ then _ else _ : Int64).toInt = _
      rw [if_neg (by omega)]
  · rw [if_neg c]
    have c' := l_ln c
    rw [e50] at c'
    by_cases z : p = i
    · subst z
      rw [if_pos rfl]
      show _ = if _ then _ else _
      rw [if_neg (fun w => absurd w.1 (by show ¬ (m (160 * p + k)).toInt < _; omega))]
    · rw [if_neg z]
/-- **through k**: all rows -/
theorem oRws_at (hW : W ≤ 160) (hk : k < W) (hb : fB 576460752303423488 W (fm m)) (h0 : fm m k k = 0) : ∀ i, i ≤ W → ∀ p q, p < W → q < W → fm (oRws W k i m) p q = if p < i then fSt 1125899906842624 k (fm m) p q else fm m p q
  | 0, _, p, q, _, _ => (if_neg (Nat.not_lt_zero _)).symm
  | i + 1, hi, p, q, hp, hq => by
    have ih := oRws_at hW hk hb h0 i (by omega)
    -- row k and column k are as before
    have rk : ∀ q, q < W → fm (oRws W k i m) k q = fm m k q := fun q hq => by
      rw [ih k q hk hq]
      split
      · unfold fSt
        rw [h0, if_neg (by omega)]
      · rfl
    have ck : ∀ p, p < W → fm (oRws W k i m) p k = fm m p k := fun p hp => by
      rw [ih p k hp hk]
      split
      · unfold fSt
        rw [h0, if_neg (by omega)]
      · rfl
    have hb' : fB 1152921504606846976 W (fm (oRws W k i m)) := fun p q hp hq => by
      rw [ih p q hp hq]
      have b1 := hb p q hp hq
      have b2 := hb p k hp hk
      have b3 := hb k q hk hq
      split
      · unfold fSt; split <;> omega
      · omega
    show fm (oRow W k i (oRws W k i m)) p q = _
    rw [oRow_at hW hk (by omega) hb' hp hq]
    by_cases z : p = i
    · subst z
      rw [if_pos rfl, if_pos (Nat.lt_succ_self _)]
      unfold fSt
      rw [ck p hp, rk q hq, ih p q hp hq, if_neg (Nat.lt_irrefl _)]
    · rw [if_neg z, ih p q hp hq]
      by_cases y : p < i
      · rw [if_pos y, if_pos (by omega)]
      · rw [if_neg y, if_neg (by omega)]
end ROW
