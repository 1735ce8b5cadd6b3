/-! type(): letters and numbers, the reference -/
/-- a letter as it is put -/
def tBt (c : Int32) : Int32 := vp_nar .byte c.toInt8.toInt32
/-- the digits of x from 10^k on -/
def tDg (x : Nat) : Nat → List Int32
  | 0 => [nI (48 + x / 10 ^ 0 % 10)]
  | k + 1 => nI (48 + x / 10 ^ (k + 1) % 10) :: tDg x k
/-- where they begin -/
def tKd (x : Nat) : Nat → Nat → Nat
  | 0, j => j
  | f + 1, j => if x / 10 ^ j ≤ 9 then j else tKd x f (j + 1)
/-- a number -/
def tNu (v : Int64) : List Int32 := (if v.toInt < 0 then [45] else []) ++ tDg v.toInt.natAbs (tKd v.toInt.natAbs 18 0)
/-- what the reference said so far, and nothing else changed -/
def rSy (τ0 : zSt) (L : List Int32) (τ : zSt) : Prop := τ.1 158 = nI L.length ∧ (∀ i c, L[i]? = some c → i < 16000 → τ.2.2.1 101 i = tBt c) ∧ (∀ k, k ≠ 158 → τ.1 k = τ0.1 k) ∧ τ.2.1 = τ0.2.1 ∧ (∀ k, k ≠ 101 → τ.2.2.1 k = τ0.2.2.1 k) ∧ τ.2.2.2 = τ0.2.2.2
section TSR
variable {ks : Nat → Nat} {qs : List Nat} {T n h0 : Nat} {τ0 τ : zSt} {L : List Int32} {c : Int32}
theorem r_say (h : rSy τ0 L τ) (hl : L.length < 1000000000) : ∃ τ', zF h0 qs ks T (n + 1) 112 [.ref h0, .int c] τ = some (none, τ') ∧ rSy τ0 (L ++ [c]) τ' := by
  obtain ⟨h1, h2, h3, h4, h5, h6⟩ := h
  have ln : (L ++ [c]).length = L.length + 1 := by rw [List.length_append]; rfl
  rw [zE_say]
  unfold b_say j_say_21
  by_cases f : 16000 ≤ L.length
  · rw [h1, if_pos (show (16000 : Int32) ≤ nI L.length from nI_le (a := 16000) f (by omega)), zlet, nI_p1]
    refine ⟨_, rfl, by rw [zI_eq, ln], fun i d e hi => ?_, fun k hk => (zI_ne hk).trans (h3 k hk), h4, fun k hk => h5 k hk, h6⟩
    rcases ap_last e with q | ⟨q, -⟩
    · exact h2 i d q hi
    · omega
  · have zi : zin (nI L.length) 16000 = true := zin_n (by omega) (by decide)
    rw [h1, if_neg (show ¬ (16000 : Int32) ≤ nI L.length from nI_ge (b := 16000) (by omega) (by omega)), zgd_at zi, zlet, nI_clamp (by omega)]
    have e158 : (zA τ 101 (upd (τ.2.2.1 101) L.length (vp_nar .byte c.toInt8.toInt32))).1 158 = nI L.length := h1
    rw [zlet, e158, nI_p1]
    refine ⟨_, rfl, by rw [zI_eq, ln], fun i d e hi => ?_, fun k hk => (zI_ne hk).trans (h3 k hk), h4, fun k hk => ?_, h6⟩
    · show (upd (τ.2.2.1 101) L.length (vp_nar .byte c.toInt8.toInt32)) i = _
      unfold upd
      rcases ap_last e with q | ⟨q, q'⟩
      · have := xget_lt q
        rw [if_neg (by omega)]
        exact h2 i d q hi
      · rw [if_pos q, q']
        rfl
    · show (if k = 101 then _ else τ.2.2.1 k) = _
      rw [if_neg hk]
      exact h5 k hk
/-- a digit -/
theorem t_dg {X P : Int64} {x k : Nat} (hX : X.toInt = (x : Int)) (hx : x ≤ 1000000000000000000) (hP : P.toInt = ((10 ^ k : Nat) : Int)) (hk : k ≤ 18) : (48 + (X / P - X / P / 10 * 10)).toInt32 = nI (48 + x / 10 ^ k % 10) ∧ (X / P).toInt = ((x / 10 ^ k : Nat) : Int) := by
  have t10 : (10 : Int64).toInt = 10 := by decide
  have t48 : (48 : Int64).toInt = 48 := by decide
  have d1 : (X / P).toInt = ((x / 10 ^ k : Nat) : Int) := by
    rw [x_div (by omega), hX, hP, Int.tdiv_eq_ediv_of_nonneg (by omega)]
    exact (Int.natCast_ediv _ _).symm
  have le : x / 10 ^ k ≤ x := Nat.div_le_self _ _
  generalize x / 10 ^ k = q at d1 le ⊢
  have d2 : (X / P / 10).toInt = ((q / 10 : Nat) : Int) := by
    rw [x_div (by omega), d1, t10, Int.tdiv_eq_ediv_of_nonneg (by omega)]
    exact (Int.natCast_ediv _ _).symm
  have d3 : (X / P / 10 * 10).toInt = ((q / 10 * 10 : Nat) : Int) := by
    rw [j_mul (by rw [d2, t10]; omega) (by rw [d2, t10]; omega), d2, t10]
    omega
  have d4 : (X / P - X / P / 10 * 10).toInt = ((q % 10 : Nat) : Int) := by
    rw [j_sub (by rw [d1, d3]; omega) (by rw [d1, d3]; omega), d1, d3]
    omega
  have d5 : (48 + (X / P - X / P / 10 * 10)).toInt = ((48 + q % 10 : Nat) : Int) := by
    rw [j_add (by rw [d4, t48]; omega) (by rw [d4, t48]; omega), d4, t48]
    omega
  refine ⟨?_, d1⟩
  have e : 48 + (X / P - X / P / 10 * 10) = xmNi (48 + q % 10) := by
    rw [← Int64.toInt_inj, d5, xmNi_int (by omega)]
  rw [e, xmNi_32]
theorem t_p10 {P : Int64} {k : Nat} (hP : P.toInt = ((10 ^ (k + 1) : Nat) : Int)) (hk : k ≤ 18) : (P / 10).toInt = ((10 ^ k : Nat) : Int) := by
  have t10 : (10 : Int64).toInt = 10 := by decide
  have p := Nat.pow_le_pow_right (show 0 < 10 by decide) (show 0 ≤ k + 1 by omega)
  rw [x_div (by omega), hP, t10, Int.tdiv_eq_ediv_of_nonneg (by omega), Nat.pow_succ]
  omega
theorem r_sn50 {x : Nat} {X : Int64} (hX : X.toInt = (x : Int)) (hx : x ≤ 1000000000000000000) : ∀ (k F : Nat) (P : Int64) (L : List Int32) (τ : zSt), P.toInt = ((10 ^ k : Nat) : Int) → k ≤ 18 → k + 1 < F → L.length + k < 900000000 → rSy τ0 L τ → ∃ τ', l_sayNumber_50 T (zF h0 qs ks T (n + 1)) h0 qs ks F X P τ = some (none, τ') ∧ rSy τ0 (L ++ tDg x k) τ'
  | 0, F, P, L, τ, hP, hk, hF, hl, h => by
    obtain ⟨F, rfl⟩ : ∃ u, F = u + 1 + 1 := ⟨F - 2, by omega⟩
    have p0 : P.toInt = 1 := hP
    have P0 : (0 : Int64).toInt = 0 := rfl
    obtain ⟨τ1, r1, r2⟩ := r_say (h0 := h0) (qs := qs) (ks := ks) (T := T) (n := n) (c := nI (48 + x / 10 ^ 0 % 10)) h (by omega)
    have nz : ¬ P = 0 := fun w => by rw [w, P0] at p0; omega
    have q10 : P / 10 = 0 := by
      rw [← Int64.toInt_inj, x_div (by omega), p0]
      decide
    rw [l_sayNumber_50, if_neg (fun w => by rw [lg_le, Int64.le_iff_toInt_le, p0, P0] at w; omega), zgd_at (decide_eq_true nz), zgd_at (by decide), (t_dg hX hx hP (by omega)).1, r1, zcv_at, zgd_at (by decide), q10, l_sayNumber_50, if_pos (by rw [lg_le]; exact Int64.le_refl _)]
    exact ⟨τ1, rfl, r2⟩
  | k + 1, F, P, L, τ, hP, hk, hF, hl, h => by
    obtain ⟨F, rfl⟩ : ∃ u, F = u + 1 := ⟨F - 1, by omega⟩
    have P0 : (0 : Int64).toInt = 0 := rfl
    have pp : 0 < 10 ^ (k + 1) := Nat.pow_pos (by decide)
    have nz : ¬ P = 0 := fun w => by rw [w, P0] at hP; omega
    obtain ⟨τ1, r1, r2⟩ := r_say (h0 := h0) (qs := qs) (ks := ks) (T := T) (n := n) (c := nI (48 + x / 10 ^ (k + 1) % 10)) h (by omega)
    obtain ⟨τ2, s1, s2⟩ := r_sn50 hX hx k F (P / 10) (L ++ [nI (48 + x / 10 ^ (k + 1) % 10)]) τ1 (t_p10 hP (by omega)) (by omega) (by omega) (by rw [List.length_append]; show L.length + 1 + k < _; omega) r2
    rw [l_sayNumber_50, if_neg (fun w => by rw [lg_le, Int64.le_iff_toInt_le, hP, P0] at w; omega), zgd_at (decide_eq_true nz), zgd_at (by decide), (t_dg hX hx hP (by omega)).1, r1, zcv_at, zgd_at (by decide), s1]
    rw [List.append_assoc] at s2
    exact ⟨τ2, rfl, s2⟩
theorem r_sn28 {x : Nat} {X : Int64} (hX : X.toInt = (x : Int)) (hx : x ≤ 1000000000000000000) (hT : 100 ≤ T) : ∀ (g j F : Nat) (P : Int64), P.toInt = ((10 ^ j : Nat) : Int) → j + g = 18 → g < F → ∀ (L : List Int32) (τ : zSt), L.length < 880000000 → rSy τ0 L τ → ∃ τ', l_sayNumber_28 T (zF h0 qs ks T (n + 1)) h0 qs ks F X P τ = some (none, τ') ∧ rSy τ0 (L ++ tDg x (tKd x g j)) τ'
  | 0, j, F, P, hP, hj, hF, L, τ, hl, h => by
    obtain ⟨F, rfl⟩ : ∃ u, F = u + 1 := ⟨F - 1, by omega⟩
    have P0 : (0 : Int64).toInt = 0 := rfl
    have t9 : (9 : Int64).toInt = 9 := by decide
    have ej : j = 18 := by omega
    have pp : 0 < 10 ^ j := Nat.pow_pos (by decide)
    have nz : ¬ P = 0 := fun w => by rw [w, P0] at hP; omega
    obtain ⟨τ2, s1, s2⟩ := r_sn50 (n := n) (h0 := h0) (qs := qs) (ks := ks) (T := T) hX hx j T P L τ hP (by omega) (by omega) (by omega) h
    have q9 : x / 10 ^ j ≤ 9 := by
      rw [ej]
      exact Nat.le_trans (Nat.div_le_div_right hx) (by decide)
    rw [l_sayNumber_28, zgd_at (decide_eq_true nz), if_pos (by rw [lg_le, Int64.le_iff_toInt_le, (t_dg hX hx hP (by omega)).2, t9]; omega), s1]
    exact ⟨τ2, rfl, s2⟩
  | g + 1, j, F, P, hP, hj, hF, L, τ, hl, h => by
    obtain ⟨F, rfl⟩ : ∃ u, F = u + 1 := ⟨F - 1, by omega⟩
    have P0 : (0 : Int64).toInt = 0 := rfl
    have t9 : (9 : Int64).toInt = 9 := by decide
    have t10 : (10 : Int64).toInt = 10 := by decide
    have pp : 0 < 10 ^ j := Nat.pow_pos (by decide)
    have p18 : 10 ^ j ≤ 10 ^ 17 := Nat.pow_le_pow_right (by decide) (by omega)
    have nz : ¬ P = 0 := fun w => by rw [w, P0] at hP; omega
    unfold tKd
    by_cases q9 : x / 10 ^ j ≤ 9
    · obtain ⟨τ2, s1, s2⟩ := r_sn50 (n := n) (h0 := h0) (qs := qs) (ks := ks) (T := T) hX hx j T P L τ hP (by omega) (by omega) (by omega) h
      rw [l_sayNumber_28, zgd_at (decide_eq_true nz), if_pos (by rw [lg_le, Int64.le_iff_toInt_le, (t_dg hX hx hP (by omega)).2, t9]; omega), s1, if_pos q9]
      exact ⟨τ2, rfl, s2⟩
    · rw [l_sayNumber_28, zgd_at (decide_eq_true nz), if_neg (fun w => by rw [lg_le, Int64.le_iff_toInt_le, (t_dg hX hx hP (by omega)).2, t9] at w; omega), if_neg q9]
      have p17 : (10 ^ 17 : Nat) = 100000000000000000 := by decide
      refine r_sn28 hX hx hT g (j + 1) F (P * 10) ?_ (by omega) (by omega) L τ hl h
      rw [j_mul (by rw [hP, t10]; omega) (by rw [hP, t10]; omega), hP, t10, Nat.pow_succ]
      omega
/-- **sayNumber() (114)** -/
theorem r_sayN {v : Int64} (hv : v.toInt.natAbs ≤ 1000000000000000000) (hT : 100 ≤ T) (hl : L.length < 870000000) (h : rSy τ0 L τ) : ∃ τ', zF h0 qs ks T (n + 2) 114 [.ref h0, .long v] τ = some (none, τ') ∧ rSy τ0 (L ++ tNu v) τ' := by
  have z0 : (0 : Int64).toInt = 0 := rfl
  have o1 : (1 : Int64).toInt = ((10 ^ 0 : Nat) : Int) := by decide
  rw [zE_sayNumber]
  unfold b_sayNumber j_sayNumber_12 j_sayNumber_24 tNu
  by_cases c : v.toInt < 0
  · have nc : ¬ 0 ≤ lg_cmp v 0 := fun w => by rw [lg_ge, Int64.le_iff_toInt_le, z0] at w; omega
    obtain ⟨τ1, r1, r2⟩ := r_say (h0 := h0) (qs := qs) (ks := ks) (T := T) (n := n) (c := 45) h (by omega)
    obtain ⟨τ2, s1, s2⟩ := r_sn28 (n := n) (h0 := h0) (qs := qs) (ks := ks) (T := T) (x := v.toInt.natAbs) (X := -v) (by rw [j_neg (by omega)]; omega) hv hT 18 0 T 1 o1 (by omega) (by omega) (L ++ [45]) τ1 (by rw [List.length_append]; show L.length + 1 < _; omega) r2
    rw [if_neg nc, r1, zcv_at, if_neg nc, s1, if_pos c]
    rw [List.append_assoc] at s2
    exact ⟨τ2, rfl, s2⟩
  · have nc : 0 ≤ lg_cmp v 0 := by rw [lg_ge, Int64.le_iff_toInt_le, z0]; omega
    obtain ⟨τ2, s1, s2⟩ := r_sn28 (n := n) (h0 := h0) (qs := qs) (ks := ks) (T := T) (x := v.toInt.natAbs) (X := v) (by omega) hv hT 18 0 T 1 o1 (by omega) (by omega) L τ (by omega) h
    rw [if_pos nc, if_pos nc, s1, if_neg c, List.nil_append]
    exact ⟨τ2, rfl, s2⟩
end TSR
