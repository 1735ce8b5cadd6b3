/-! NUMBERS are small -/
section NBD
variable {f kk pp ee : Nat → Int32} {T len cnt : Nat}
theorem sB_rg {b : Int32} (h : sB b) : -128 ≤ b.toInt ∧ b.toInt ≤ 127 := by
  obtain ⟨k, hk, e1, e2⟩ := sB_k h
  have d : ∀ k, k < 256 → -128 ≤ ((nI k).toInt8.toInt32).toInt ∧ ((nI k).toInt8.toInt32).toInt ≤ 127 := by decide +kernel
  rw [e2]
  exact d k hk
theorem nVal_bd {e : Nat} (hb : ∀ j, j < e → sB (f j)) : ∀ (r m i : Nat) (v : Int32) (K : Int), e ≤ i + r → -K ≤ v.toInt → v.toInt ≤ K → 0 ≤ K → 10 ^ r * (K + 20) ≤ 1000000000 → -(10 ^ r * (K + 20)) ≤ (nVal f e m i v).toInt ∧ (nVal f e m i v).toInt ≤ 10 ^ r * (K + 20)
  | r, 0, i, v, K, he, h1, h2, h0, hl => by
    have p : (1 : Int) ≤ 10 ^ r := by
      have := Nat.one_le_pow r 10 (by decide)
      exact_mod_cast this
    have q : 1 * (K + 20) ≤ 10 ^ r * (K + 20) := Int.mul_le_mul_of_nonneg_right p (by omega)
    show -(10 ^ r * (K + 20)) ≤ v.toInt ∧ v.toInt ≤ 10 ^ r * (K + 20)
    omega
  | 0, m + 1, i, v, K, he, h1, h2, h0, hl => by
    show _ ≤ (if i < e then _ else v).toInt ∧ (if i < e then _ else v).toInt ≤ _
    rw [if_neg (by omega)]
    omega
  | r + 1, m + 1, i, v, K, he, h1, h2, h0, hl => by
    have p : (1 : Int) ≤ 10 ^ r := by
      have := Nat.one_le_pow r 10 (by decide)
      exact_mod_cast this
    have ep : (10 : Int) ^ (r + 1) = 10 ^ r * 10 := Int.pow_succ ..
    rw [ep] at hl ⊢
    obtain ⟨t, ht⟩ : ∃ t : Int, t = 10 ^ r := ⟨_, rfl⟩
    rw [← ht] at p hl ⊢
    have s1 : t * 10 * (K + 20) = t * (10 * K + 176 + 20) + t * 4 := by
      rw [Int.mul_assoc, ← Int.mul_add]
      congr 1
      omega
    have kb : 1 * (10 * K + 176 + 20) ≤ t * (10 * K + 176 + 20) := Int.mul_le_mul_of_nonneg_right p (by omega)
    show _ ≤ (if i < e then nVal f e m (i + 1) (10 * v + f i - 48) else v).toInt ∧ (if i < e then nVal f e m (i + 1) (10 * v + f i - 48) else v).toInt ≤ _
    by_cases c : i < e
    · rw [if_pos c]
      obtain ⟨b1, b2⟩ := sB_rg (hb i c)
      have ev : (10 * v + f i - 48).toInt = 10 * v.toInt + (f i).toInt - 48 := by
        rw [Int32.toInt_sub, Int32.toInt_add, Int32.toInt_mul, show (10 : Int32).toInt = 10 from rfl, show (48 : Int32).toInt = 48 from rfl, Int.bmod_eq_of_le (n := 10 * v.toInt) (by omega) (by omega), Int.bmod_eq_of_le (n := 10 * v.toInt + (f i).toInt) (by omega) (by omega), Int.bmod_eq_of_le (by omega) (by omega)]
      have I := nVal_bd hb r m (i + 1) (10 * v + f i - 48) (10 * K + 176) (by omega) (by omega) (by omega) (by omega) (by rw [← ht]; omega)
      rw [← ht] at I
      omega
    · rw [if_neg c]
      omega
/-- where a NUMBER ends -/
theorem wW_4 {w : Nat} (hT : 2010 ≤ T) (hlen : len ≤ 2000) (h : wWell T len (fun j => f j &&& 255) kk pp ee cnt) (hw : w < cnt) (hk : kk w = nI 2) : ∃ a e, pp w = nI a ∧ ee w = nI e ∧ e ≤ a + 4 ∧ e ≤ len ∧ a < 2000 := by
  obtain ⟨a, b1, b2, b3, b4, b5, b6⟩ := h w hw
  refine ⟨a, _, b4, b5, ?_, b3, by omega⟩
  rw [b6] at hk
  rcases w_cases (T := T) b2 with ⟨e1, e⟩ | ⟨e1, e2, e⟩ | ⟨-, -, -, e3, -, e⟩ | ⟨-, -, h0, -, e⟩
  · rw [e] at hk
    rcases kKind_val (g := fun j => f j &&& 255) (a := a) (l := wEnd len (fun j => f j &&& 255) a - a) hT with z | ⟨j, hj, z⟩
    · rw [z] at hk; exact absurd hk (by decide)
    · rw [z] at hk
      have := nI_inj' (by omega) (by decide) hk
      omega
  · unfold wEnd at b2 ⊢
    rw [e1, if_neg (by decide), e2, if_pos rfl] at b2 ⊢
    split at b2
    · rename_i q
      rw [if_pos q]
      omega
    · omega
  · rw [e] at hk
    have e3 : bS (f a &&& 255) = true := e3
    rw [hk] at e3
    exact absurd e3 (by decide)
  · rw [e] at hk
    have d : ∀ v : Int32, v = 302 ∨ v = 304 ∨ v = 300 ∨ v = 301 ∨ v = 303 ∨ v = 0 → ¬ v = nI 2 := by
      rintro v (rfl | rfl | rfl | rfl | rfl | rfl) <;> decide
    refine absurd hk (d _ ?_)
    unfold dSg
    repeat' split
    all_goals simp
/-- the last of what uH wants -/
theorem sNw_of {V : zSt} (hT : 2010 ≤ T) (h : rW V T len cnt kk pp ee f) (ps : List tP) (hg : sGd cnt ps) (hk : sKn kk ps) : sNw T f pp ee ps := fun p hp h0 => by
  obtain ⟨h1, h2, h3, h4, h5, h6, h7, h8⟩ := h
  obtain ⟨a, e, a1, a2, a3, a4, a5⟩ := wW_4 hT h8 h5 (hg.1 p hp) (hk p hp h0)
  unfold nW
  rw [a1, a2, nI_clamp (by omega), nI_clamp (by omega)]
  have := nVal_bd (f := f) (e := e) (fun j hj => h2 j (by omega)) 4 T a 0 0 a3 (by decide) (by decide) (by decide) (by decide)
  have z : (10 : Int) ^ 4 * (0 + 20) = 200000 := by decide
  rw [z] at this
  omega
end NBD
