/-! a NUMBER is at most 2000 for each of its letters and one more -/
section NWB
variable {f kk pp ee : Nat → Int32} {T len cnt : Nat}
theorem wRun_in {g : Nat → Int32} {nm : Bool} : ∀ (m i j : Nat), i ≤ j → j < wRun len g nm m i → bC (g j) nm = true
  | 0, i, j, h1, h2 => by
    have h2 : j < i := h2
    omega
  | m + 1, i, j, h1, h2 => by
    unfold wRun at h2
    split at h2
    · split at h2
      · rename_i c
        by_cases z : j = i
        · rw [z]; exact c
        · exact wRun_in m (i + 1) j (by omega) h2
      · omega
    · omega
theorem bD_rg {b : Int32} (h : sB b) (hd : bD (b &&& 255) = true) : 48 ≤ b.toInt ∧ b.toInt ≤ 57 := by
  obtain ⟨k, hk, e1, e2⟩ := sB_k h
  have d : ∀ k, k < 256 → bD (nI k) = true → 48 ≤ ((nI k).toInt8.toInt32).toInt ∧ ((nI k).toInt8.toInt32).toInt ≤ 57 := by decide +kernel
  rw [e1] at hd
  rw [e2]
  exact d k hk hd
theorem nVal_dg {e : Nat} : ∀ (r m i : Nat) (v : Int32) (K : Int), (∀ j, i ≤ j → j < e → 48 ≤ (f j).toInt ∧ (f j).toInt ≤ 57) → e ≤ i + r → 0 ≤ v.toInt → v.toInt + 1 ≤ K → 10 ^ r * K ≤ 1000000000 → 0 ≤ (nVal f e m i v).toInt ∧ (nVal f e m i v).toInt + 1 ≤ 10 ^ r * K
  | r, 0, i, v, K, hd, he, h1, h2, hl => by
    have p : (1 : Int) ≤ 10 ^ r := by
      have := Nat.one_le_pow r 10 (by decide)
      exact_mod_cast this
    have q : 1 * K ≤ 10 ^ r * K := Int.mul_le_mul_of_nonneg_right p (by omega)
    show 0 ≤ v.toInt ∧ v.toInt + 1 ≤ 10 ^ r * K
    omega
  | 0, m + 1, i, v, K, hd, he, h1, h2, hl => by
    show 0 ≤ (if i < e then _ else v).toInt ∧ (if i < e then _ else v).toInt + 1 ≤ _
    rw [if_neg (by omega)]
    omega
  | r + 1, m + 1, i, v, K, hd, he, h1, h2, hl => by
    have p : (1 : Int) ≤ 10 ^ r := by
      have := Nat.one_le_pow r 10 (by decide)
      exact_mod_cast this
    have ep : (10 : Int) ^ (r + 1) * K = 10 ^ r * (10 * K) := by rw [Int.pow_succ, Int.mul_assoc]
    rw [ep] at hl ⊢
    have q : 1 * (10 * K) ≤ 10 ^ r * (10 * K) := Int.mul_le_mul_of_nonneg_right p (by omega)
    show 0 ≤ (if i < e then nVal f e m (i + 1) (10 * v + f i - 48) else v).toInt ∧ (if i < e then nVal f e m (i + 1) (10 * v + f i - 48) else v).toInt + 1 ≤ _
    by_cases c : i < e
    · rw [if_pos c]
      obtain ⟨b1, b2⟩ := hd i (Nat.le_refl _) c
      have ev : (10 * v + f i - 48).toInt = 10 * v.toInt + (f i).toInt - 48 := by
        rw [Int32.toInt_sub, Int32.toInt_add, Int32.toInt_mul, show (10 : Int32).toInt = 10 from rfl, show (48 : Int32).toInt = 48 from rfl, Int.bmod_eq_of_le (n := 10 * v.toInt) (by omega) (by omega), Int.bmod_eq_of_le (n := 10 * v.toInt + (f i).toInt) (by omega) (by omega), Int.bmod_eq_of_le (by omega) (by omega)]
      exact nVal_dg r m (i + 1) (10 * v + f i - 48) (10 * K) (fun j hj => hd j (by omega)) (by omega) (by rw [ev]; omega) (by rw [ev]; omega) hl
    · rw [if_neg c]
      omega
/-- letters of a word, and one -/
def wtL (pp ee : Nat → Int32) (w : Nat) : Nat := (ee w).toNatClampNeg - (pp w).toNatClampNeg + 1
theorem nW_bd {V : zSt} {w : Nat} (hT : 2010 ≤ T) (h : rW V T len cnt kk pp ee f) (hw : w < cnt) (hk : kk w = nI 2) : 0 ≤ (nW T f pp ee w).toInt ∧ (nW T f pp ee w).toInt ≤ 2000 * (wtL pp ee w : Int) := by
  obtain ⟨h1, h2, h3, h4, h5, h6, h7, h8⟩ := h
  obtain ⟨a', e', c1, c2, c3, c4, c5⟩ := wW_4 hT h8 h5 hw hk
  obtain ⟨a, b1, b2, b3, b4, b5, b6⟩ := h5 w hw
  have ea : a' = a := nI_inj' (by omega) (by omega) (c1.symm.trans b4)
  have e5 : nI e' = nI (wEnd len (fun j => f j &&& 255) a) := c2.symm.trans b5
  have ee' : e' = wEnd len (fun j => f j &&& 255) a := nI_inj' (by omega) (by omega) e5
  have dg : ∀ j, a ≤ j → j < e' → bD (f j &&& 255) = true := by
    rw [b6] at hk
    rcases w_cases (T := T) b2 with ⟨e1, e⟩ | ⟨e1, e2, e⟩ | ⟨-, -, -, e3, -, e⟩ | ⟨-, -, h0, -, e⟩
    · rw [e] at hk
      rcases kKind_val (g := fun j => f j &&& 255) (a := a) (l := wEnd len (fun j => f j &&& 255) a - a) hT with z | ⟨j, hj, z⟩
      · rw [z] at hk; exact absurd hk (by decide)
      · rw [z] at hk
        have := nI_inj' (by omega) (by decide) hk
        omega
    · intro j hj1 hj2
      rw [ee'] at hj2
      unfold wEnd at hj2
      rw [e1, if_neg (by decide), e2, if_pos rfl] at hj2
      split at hj2
      · by_cases z : j = a
        · rw [z]; exact e2
        · have := wRun_in (g := fun j => f j &&& 255) (nm := false) len (a + 1) j (by omega) hj2
          unfold bC at this
          rw [Bool.false_and, Bool.or_false] at this
          exact this
      · omega
    · rw [e] at hk
      have e3 : bS (f a &&& 255) = true := e3
      rw [hk] at e3
      exact absurd e3 (by decide)
    · rw [e] at hk
      have d : ∀ v : Int32, v = 302 ∨ v = 304 ∨ v = 300 ∨ v = 301 ∨ v = 303 ∨ v = 0 → ¬ v = nI 2 := by
        rintro v (rfl | rfl | rfl | rfl | rfl | rfl) <;> decide
      refine absurd hk (d _ ?_)
      unfold dSg
      repeat' split
      all_goals simp
  have lt : a < e' := by rw [ee']; exact b2
  unfold nW wtL
  rw [c1, c2, nI_clamp (show a' < 2 ^ 31 by omega), nI_clamp (show e' < 2 ^ 31 by omega), ea]
  obtain ⟨r, hr⟩ : ∃ r, e' = a + r := ⟨e' - a, by omega⟩
  have r4 : r = 1 ∨ r = 2 ∨ r = 3 ∨ r = 4 := by omega
  have pw : (10 : Int) ^ r * 1 ≤ 2000 * ((r + 1 : Nat) : Int) ∧ (10 : Int) ^ r * 1 ≤ 1000000000 := by
    rcases r4 with rfl | rfl | rfl | rfl <;> decide
  have := nVal_dg (f := f) (e := e') r T a 0 1 (fun j hj1 hj2 => bD_rg (h2 j (by omega)) (dg j hj1 hj2)) (by omega) (by decide) (by decide) pw.2
  rw [show e' - a + 1 = r + 1 by omega]
  omega
end NWB
