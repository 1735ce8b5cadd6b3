/-! run(), the class: products -/
section HPR
variable {κ : oKv} {T n : Nat} {σ : oSt} {ma ha hl top : Nat} {fm : List Value} {hp : Nat → Int64} {G : hG} {Ar : Nat → Prop} {nb : tT → List Nat → Nat → Prop} {h : xmHp} {vs : List xmV} {a : Nat} {f pp ee : Nat → Int32} {env : List Nat}
/-- a value, or an end -/
def hLo (ma : Nat) (fm : List Value) (σ : oSt) (o : Nat ⊕ Int64) (r : oRs) : Prop := match o with
  | .inr x => r = some (some (.long x), σ)
  | .inl e => ∃ x, r = some (some (.long x), oput σ ma (.inr (5, fm.set 12 (.int (nI e)))))
/-- an absolute value -/
theorem ab_int {x : Int64} (hx : -9223372036854775807 ≤ x.toInt) : (if 0 < x then x else -x).toInt = x.toInt.natAbs := by
  have z : (0 : Int64).toInt = 0 := rfl
  have u := Int64.toInt_lt x
  by_cases c : 0 < x
  · rw [if_pos c]
    rw [Int64.lt_iff_toInt_lt, z] at c
    omega
  · rw [if_neg c, Int64.toInt_neg, Int.bmod_eq_of_le (by omega) (by omega)]
    rw [Int64.lt_iff_toInt_lt, z] at c
    omega
/-- the test of product() -/
theorem pr_t {x y : Int64} (hx : xmB x = true) (hy : -9223372036854775807 ≤ y.toInt) (x0 : x ≠ 0) : (lg_cmp (if 0 < y then y else -y) (1099511627776 / (if 0 < x then x else -x)) ≤ 0) ↔ (x.toInt * y.toInt).natAbs ≤ 1099511627776 := by
  have bx := xmB_iff.mp hx
  have ax := ab_int (x := x) (by omega)
  have ay := ab_int (x := y) hy
  have x0' : x.toInt ≠ 0 := fun w => x0 (Int64.toInt_inj.mp w)
  have e : (1099511627776 : Int64).toInt = 1099511627776 := by decide
  have dv : (1099511627776 / (if 0 < x then x else -x)).toInt = (1099511627776 : Int).tdiv (x.toInt.natAbs : Int) := by
    rw [x_div (by rw [e]; omega), e, ax]
  rw [lg_le, Int64.le_iff_toInt_le, ay, dv, Int.natAbs_mul]
  have ed : (1099511627776 : Int).tdiv (x.toInt.natAbs : Int) = ((1099511627776 / x.toInt.natAbs : Nat) : Int) := by
    rw [Int.tdiv_eq_ediv_of_nonneg (by omega)]
    rfl
  rw [ed, Int.ofNat_le, Nat.le_div_iff_mul_le (by omega), Nat.mul_comm]
/-- **product() (96)** behind a left side that was not too much -/
theorem h_prod {e : Nat} {ps : List tP} {x : Int64} (M : hMa ma fm ha hl hp top σ) (H : hHp nb G top hp h) (hsc : fm[10]? = some (.int (nI a))) (hen : fm[12]? = some (.int 0)) (hs : hSc G Ar top hp vs.reverse a) (N : hSn T f pp ee h env vs σ e ps) (hT : vs.length < T) (hT' : 5000 ≤ T) (hl' : vs.length < 2 ^ 31) (hx : xmB x = true) : hLo ma fm σ (if xmB (xmSm T f pp ee h env vs ps) = true then (if (x.toInt * (xmSm T f pp ee h env vs ps).toInt).natAbs ≤ 1099511627776 then .inr (x * xmSm T f pp ee h env vs ps) else .inl 2) else .inl 2) (oF κ T (n + 3) 96 [va_rf (some ma), .long x, va_rf (some e)] σ) := by
  have bd := N
  obtain ⟨-, -, -, -, -, -, -, -, -, -, -, -, -, -, bd⟩ := bd
  rw [oE_X3_product]
  unfold ob_X3_product
  rw [ofd_at M.1.1, hen, ovi_in, obn_at, if_pos rfl, oob_at M.1.1, obn_at, h_sn M H hsc hen hs N hT hT' hl']
  unfold oln'
  simp only
  generalize xmSm T f pp ee h env vs ps = y at bd ⊢
  have E0 : oput σ ma (.inr (5, fm.set 12 (.int 2))) = oput σ ma (.inr (5, fm.set 12 (.int (nI 2)))) := rfl
  unfold oj_X3_product_16 oj_X3_product_62 oj_X3_product_57
  by_cases x0 : x = 0
  · have z0 : (lg_cmp x 0) = 0 := (lg_eq _ _).mpr x0
    rw [if_pos z0]
    by_cases cy : xmB y = true
    · have es : hSe σ ma fm 0 y = σ := by unfold hSe; rw [if_pos cy]
      rw [if_pos cy, es, if_pos (by rw [x0]; show (0 * y.toInt).natAbs ≤ _; rw [Int.zero_mul]; decide)]
      rfl
    · have es : hSe σ ma fm 0 y = oput σ ma (.inr (5, fm.set 12 (.int 2))) := by unfold hSe; rw [if_neg cy, if_pos rfl]
      rw [if_neg cy, es]
      exact ⟨_, rfl⟩
  · have n0 : ¬ (lg_cmp x 0) = 0 := fun w => x0 ((lg_eq _ _).mp w)
    have bx := xmB_iff.mp hx
    have ax := ab_int (x := x) (by omega)
    have x0' : x.toInt ≠ 0 := fun w => x0 (Int64.toInt_inj.mp w)
    have g0 : decide (¬ (if 0 < x then x else -x) = 0) = true := decide_eq_true (fun w => by
      rw [w] at ax
      have z : (0 : Int64).toInt = 0 := rfl
      omega)
    rw [if_neg n0, ogd_at g0]
    by_cases cy : xmB y = true
    · have es : hSe σ ma fm 0 y = σ := by unfold hSe; rw [if_pos cy]
      rw [if_pos cy, es]
      by_cases cp : (x.toInt * y.toInt).natAbs ≤ 1099511627776
      · rw [if_pos ((pr_t hx bd x0).mpr cp), if_pos cp]
        rfl
      · rw [if_neg (fun w => cp ((pr_t hx bd x0).mp w)), if_neg cp, ofd_at M.1.1, hen, ovi_in, obn_at, if_pos rfl, opf_at M.1.1 (by rw [M.1.2]; decide), obn_at]
        exact ⟨_, rfl⟩
    · have es : hSe σ ma fm 0 y = oput σ ma (.inr (5, fm.set 12 (.int 2))) := by unfold hSe; rw [if_neg cy, if_pos rfl]
      have ma' : (oput σ ma (.inr (5, fm.set 12 (.int 2)))).1 ma = some (.inr (5, fm.set 12 (.int 2))) := oput_eq _ _ _
      have cp : ¬ (x.toInt * y.toInt).natAbs ≤ 1099511627776 := fun w => by
        rw [Int.natAbs_mul] at w
        have h1 : 1 ≤ x.toInt.natAbs := by omega
        have h2 : y.toInt.natAbs ≤ x.toInt.natAbs * y.toInt.natAbs := Nat.le_mul_of_pos_left _ (by omega)
        exact cy (xmB_iff.mpr (by omega))
      rw [if_neg cy, es, if_neg (fun w => cp ((pr_t hx bd x0).mp w)), ofd_at ma', List.getElem?_set_self (by rw [M.1.2]; decide), ovi_in, obn_at, if_neg (by decide), obn_at, opf_at ma' (by rw [List.length_set, M.1.2]; decide), obn_at, oput_oput, List.set_set]
      exact ⟨_, rfl⟩
/-- behind one that was -/
theorem h_prod' {e : Nat} {x : Int64} (hm : σ.1 ma = some (.inr (5, fm))) (hen : fm[12]? = some (.int 2)) (hx : ¬ xmB x = true) (hb : -9223372036854775807 ≤ x.toInt) : oF κ T (n + 1) 96 [va_rf (some ma), .long x, va_rf (some e)] σ = some (some (.long 0), σ) := by
  have x0 : x ≠ 0 := fun w => hx (by rw [w]; decide)
  have n0 : ¬ (lg_cmp x 0) = 0 := fun w => x0 ((lg_eq _ _).mp w)
  have ax := ab_int (x := x) hb
  have x0' : x.toInt ≠ 0 := fun w => x0 (Int64.toInt_inj.mp w)
  have g0 : decide (¬ (if 0 < x then x else -x) = 0) = true := decide_eq_true (fun w => by
    rw [w] at ax
    have z : (0 : Int64).toInt = 0 := rfl
    omega)
  have e : (1099511627776 : Int64).toInt = 1099511627776 := by decide
  have dv : (1099511627776 / (if 0 < x then x else -x)).toInt = (1099511627776 : Int).tdiv (x.toInt.natAbs : Int) := by
    rw [x_div (by rw [e]; omega), e, ax]
  have t0 : lg_cmp (if (0 : Int64) < 0 then 0 else -0) (1099511627776 / (if 0 < x then x else -x)) ≤ 0 := by
    rw [lg_le, Int64.le_iff_toInt_le, dv]
    show (0 : Int) ≤ _
    exact Int.tdiv_nonneg (by omega) (by omega)
  rw [oE_X3_product]
  unfold ob_X3_product oj_X3_product_16 oj_X3_product_62
  rw [ofd_at hm, hen, ovi_in, obn_at, if_neg (by decide), if_neg n0, ogd_at g0, if_pos t0, Int64.mul_zero]
end HPR
