/-! type(): numbers, the class -/
/-- what the drafts cost -/
def cPy (σ : oSt) (cap : Nat) (u : oSt) (cap' : Nat) : Prop := u.2.2.2 + tPh cap ≤ σ.2.2.2 + tPh cap' ∧ u.2.2.1 + cap ≤ σ.2.2.1 + cap'
section TSD
variable {κ : oKv} {T n x da0 cap cap' cap2 : Nat} {fs0 : List Value} {σ0 σ u w : oSt} {L : List Int32} {c : Int32}
theorem cPy.rf (σ : oSt) (cap : Nat) : cPy σ cap σ cap := ⟨Nat.le_refl _, Nat.le_refl _⟩
theorem cPy.tr (h : cPy σ cap u cap') (k : cPy u cap' w cap2) : cPy σ cap w cap2 := by
  obtain ⟨h1, h2⟩ := h
  obtain ⟨k1, k2⟩ := k
  exact ⟨by omega, by omega⟩
theorem cSy.ob (h : cSy x da0 fs0 σ0 L cap σ) : oob σ (some x) 14 = some x := by
  obtain ⟨fs, da, g, ⟨h1, -⟩, -⟩ := h
  exact oob_at h1
/-- from here on -/
theorem cSy.rb (h : cSy x da0 fs0 σ0 L cap σ) : ∃ fs da, cSy x da fs σ L cap σ := by
  obtain ⟨fs, da, g, h1, h2, -, -, h5, h6, -, h8⟩ := h
  exact ⟨fs, da, fs, da, g, h1, h2, fun _ _ _ => rfl, fun _ _ _ _ => rfl, h5, Nat.le_refl _, Or.inl rfl, by omega⟩
theorem t_ch {d : Nat} (h : d < 10) : (((nI (48 + d)).toUInt32 % 65536).toInt32) = nI (48 + d) := by
  match d, h with
  | 0, _ => decide
  | 1, _ => decide
  | 2, _ => decide
  | 3, _ => decide
  | 4, _ => decide
  | 5, _ => decide
  | 6, _ => decide
  | 7, _ => decide
  | 8, _ => decide
  | 9, _ => decide
theorem c_tn55 {x0 : Nat} {X : Int64} (hX : X.toInt = (x0 : Int)) (hx : x0 ≤ 1000000000000000000) : ∀ (k F : Nat) (P : Int64) (L : List Int32) (cap : Nat) (σ : oSt), P.toInt = ((10 ^ k : Nat) : Int) → k ≤ 18 → k + 1 < F → L.length + k < 900000000 → cSy x da0 fs0 σ0 L cap σ → ∃ σ' cap', ol_X12_tellNumber_55 T (oF κ T (n + 2)) κ F (some x) X P σ = some (none, σ') ∧ cSy x da0 fs0 σ0 (L ++ tDg x0 k) cap' σ' ∧ cPy σ cap σ' cap'
  | 0, F, P, L, cap, σ, hP, hk, hF, hl, h => by
    obtain ⟨F, rfl⟩ : ∃ u, F = u + 1 + 1 := ⟨F - 2, by omega⟩
    have p0 : P.toInt = 1 := hP
    have P0 : (0 : Int64).toInt = 0 := rfl
    obtain ⟨σ1, c1, r1, r2, r3⟩ := c_put (κ := κ) (T := T) (n := n) (c := nI (48 + x0 / 10 ^ 0 % 10)) h (by omega)
    have nz : ¬ P = 0 := fun w => by rw [w, P0] at p0; omega
    have q10 : P / 10 = 0 := by
      rw [← Int64.toInt_inj, x_div (by omega), p0]
      decide
    rw [ol_X12_tellNumber_55, if_neg (fun w => by rw [lg_le, Int64.le_iff_toInt_le, p0, P0] at w; omega), ogd_at (decide_eq_true nz), ogd_at (by decide), h.ob, obn_at, (t_dg hX hx hP (by omega)).1, t_ch (Nat.mod_lt _ (by decide)), r1, ocv_at, ogd_at (by decide), q10, ol_X12_tellNumber_55, if_pos (by rw [lg_le]; exact Int64.le_refl _)]
    exact ⟨σ1, c1, rfl, r2, r3⟩
  | k + 1, F, P, L, cap, σ, hP, hk, hF, hl, h => by
    obtain ⟨F, rfl⟩ : ∃ u, F = u + 1 := ⟨F - 1, by omega⟩
    have P0 : (0 : Int64).toInt = 0 := rfl
    have pp : 0 < 10 ^ (k + 1) := Nat.pow_pos (by decide)
    have nz : ¬ P = 0 := fun w => by rw [w, P0] at hP; omega
    obtain ⟨σ1, c1, r1, r2, r3⟩ := c_put (κ := κ) (T := T) (n := n) (c := nI (48 + x0 / 10 ^ (k + 1) % 10)) h (by omega)
    obtain ⟨σ2, c2, s1, s2, s3⟩ := c_tn55 hX hx k F (P / 10) (L ++ [nI (48 + x0 / 10 ^ (k + 1) % 10)]) c1 σ1 (t_p10 hP (by omega)) (by omega) (by omega) (by rw [List.length_append]; show L.length + 1 + k < _; omega) r2
    rw [ol_X12_tellNumber_55, if_neg (fun w => by rw [lg_le, Int64.le_iff_toInt_le, hP, P0] at w; omega), ogd_at (decide_eq_true nz), ogd_at (by decide), h.ob, obn_at, (t_dg hX hx hP (by omega)).1, t_ch (Nat.mod_lt _ (by decide)), r1, ocv_at, ogd_at (by decide), s1]
    rw [List.append_assoc] at s2
    exact ⟨σ2, c2, rfl, s2, cPy.tr r3 s3⟩
theorem c_tn23 {x0 : Nat} {X : Int64} (hX : X.toInt = (x0 : Int)) (hx : x0 ≤ 1000000000000000000) (hT : 100 ≤ T) : ∀ (g j F : Nat) (P : Int64), P.toInt = ((10 ^ j : Nat) : Int) → j + g = 18 → g < F → ∀ (L : List Int32) (cap : Nat) (σ : oSt), L.length < 880000000 → cSy x da0 fs0 σ0 L cap σ → ∃ σ' cap', ol_X12_tellNumber_23 T (oF κ T (n + 2)) κ F (some x) X P (nI j) σ = some (none, σ') ∧ cSy x da0 fs0 σ0 (L ++ tDg x0 (tKd x0 g j)) cap' σ' ∧ cPy σ cap σ' cap'
  | 0, j, F, P, hP, hj, hF, L, cap, σ, hl, h => by
    obtain ⟨F, rfl⟩ : ∃ u, F = u + 1 := ⟨F - 1, by omega⟩
    have ej : j = 18 := by omega
    obtain ⟨σ2, c2, s1, s2⟩ := c_tn55 (n := n) (κ := κ) (T := T) hX hx j T P L cap σ hP (by omega) (by omega) (by omega) h
    rw [ol_X12_tellNumber_23, if_pos (by rw [ej]; decide), s1]
    exact ⟨σ2, c2, rfl, s2⟩
  | g + 1, j, F, P, hP, hj, hF, L, cap, σ, hl, h => by
    obtain ⟨F, rfl⟩ : ∃ u, F = u + 1 := ⟨F - 1, by omega⟩
    have P0 : (0 : Int64).toInt = 0 := rfl
    have t10 : (10 : Int64).toInt = 10 := by decide
    have pp : 0 < 10 ^ j := Nat.pow_pos (by decide)
    have p18 : 10 ^ j ≤ 10 ^ 17 := Nat.pow_le_pow_right (by decide) (by omega)
    have nz : ¬ P = 0 := fun w => by rw [w, P0] at hP; omega
    have nj : ¬ (18 : Int32) ≤ nI j := nI_ge (b := 18) (by omega) (by omega)
    unfold tKd
    by_cases q9 : x0 / 10 ^ j ≤ 9
    · obtain ⟨σ2, c2, s1, s2⟩ := c_tn55 (n := n) (κ := κ) (T := T) hX hx j T P L cap σ hP (by omega) (by omega) (by omega) h
      rw [ol_X12_tellNumber_23, if_neg nj, ogd_at (decide_eq_true nz), if_pos (by rw [lg_lt, Int64.lt_iff_toInt_lt, (t_dg hX hx hP (by omega)).2, t10]; omega), s1, if_pos q9]
      exact ⟨σ2, c2, rfl, s2⟩
    · rw [ol_X12_tellNumber_23, if_neg nj, ogd_at (decide_eq_true nz), if_neg (fun w => by rw [lg_lt, Int64.lt_iff_toInt_lt, (t_dg hX hx hP (by omega)).2, t10] at w; omega), if_neg q9, nI_p1]
      have p17 : (10 ^ 17 : Nat) = 100000000000000000 := by decide
      refine c_tn23 hX hx hT g (j + 1) F (P * 10) ?_ (by omega) (by omega) L cap σ hl h
      rw [j_mul (by rw [hP, t10]; omega) (by rw [hP, t10]; omega), hP, t10, Nat.pow_succ]
      omega
theorem c_tn12 {v : Int64} (hv : v.toInt.natAbs ≤ 1000000000000000000) (hT : 100 ≤ T) (hl : L.length < 880000000) (h : cSy x da0 fs0 σ0 L cap σ) : ∃ σ' cap', oj_X12_tellNumber_12 T (oF κ T (n + 2)) κ (some x) v σ = some (none, σ') ∧ cSy x da0 fs0 σ0 (L ++ tDg v.toInt.natAbs (tKd v.toInt.natAbs 18 0)) cap' σ' ∧ cPy σ cap σ' cap' := by
  have z0 : (0 : Int64).toInt = 0 := rfl
  have o1 : (1 : Int64).toInt = ((10 ^ 0 : Nat) : Int) := by decide
  unfold oj_X12_tellNumber_12
  have e : (if 0 < v then v else -v).toInt = ((v.toInt.natAbs : Nat) : Int) := by
    by_cases c : 0 < v
    · rw [if_pos c]
      rw [Int64.lt_iff_toInt_lt, z0] at c
      omega
    · rw [if_neg c]
      rw [Int64.lt_iff_toInt_lt, z0] at c
      rw [j_neg (by omega)]
      omega
  exact c_tn23 e hv hT 18 0 T 1 o1 (by omega) (by omega) L cap σ hl h
/-- **tellNumber() (183)** -/
theorem c_tellN {v : Int64} (hv : v.toInt.natAbs ≤ 1000000000000000000) (hT : 100 ≤ T) (hl : L.length < 870000000) (h : cSy x da0 fs0 σ0 L cap σ) : ∃ σ' cap', oF κ T (n + 3) 183 [va_rf (some x), .long v] σ = some (none, σ') ∧ cSy x da0 fs0 σ0 (L ++ tNu v) cap' σ' ∧ cPy σ cap σ' cap' := by
  have z0 : (0 : Int64).toInt = 0 := rfl
  rw [oE_X12_tellNumber]
  unfold ob_X12_tellNumber tNu
  by_cases c : v.toInt < 0
  · have nc : ¬ 0 ≤ lg_cmp v 0 := fun w => by rw [lg_ge, Int64.le_iff_toInt_le, z0] at w; omega
    obtain ⟨σ1, c1, r1, r2, r3⟩ := c_put (κ := κ) (T := T) (n := n) (c := 45) h (by omega)
    obtain ⟨σ2, c2, s1, s2, s3⟩ := c_tn12 (κ := κ) (n := n) hv hT (by rw [List.length_append]; show L.length + 1 < _; omega) r2
    rw [if_neg nc, h.ob, obn_at, r1, ocv_at, s1, if_pos c]
    rw [List.append_assoc] at s2
    exact ⟨σ2, c2, rfl, s2, cPy.tr r3 s3⟩
  · have nc : 0 ≤ lg_cmp v 0 := by rw [lg_ge, Int64.le_iff_toInt_le, z0]; omega
    obtain ⟨σ2, c2, s1, s2⟩ := c_tn12 (κ := κ) (n := n) hv hT (by omega) h
    rw [if_pos nc, s1, if_neg c, List.nil_append]
    exact ⟨σ2, c2, rfl, s2⟩
end TSD
