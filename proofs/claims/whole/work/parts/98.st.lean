/-! Strings and lists: what their methods answer, on any state in which they stand -/
/-- at r stands a String of len letters f (bytes) -/
def oTx (κ : oKv) (σ : oSt) (r : Option Nat) (len : Nat) (f : Nat → Int32) : Prop := ∃ (a v : Nat), oSt' κ σ r = some a ∧ ofk κ σ r 0 = some (.ref v) ∧ ofk κ σ r 1 = some (.int 0) ∧ oln2 κ σ (some v) = some (nI len) ∧ len < 2 ^ 31 ∧ ∀ j, j < len → oai8 κ σ (some v) (nI j) = some (f j)
theorem char_ok (b : Int32) : ((b &&& 255).toUInt32 % 65536).toInt32 = b &&& 255 := sc_c2 b
theorem onar_c (b : Int32) : onar .char (b &&& 255) = true := decide_eq_true (sc_nar b)
section OST
variable {κ : oKv} {T n len : Nat} {σ : oSt} {r : Option Nat} {f : Nat → Int32}
theorem s_coder (h : oTx κ σ r len f) : oF κ T (n + 1) 208 [va_rf r] σ = some (some (.int 0), σ) := by
  obtain ⟨a, v, h1, h2, h3, h4, h5, h6⟩ := h
  rw [oE_J0_coder_7d493]
  have e1 : ¬ (1 : Int32) = 0 := by decide
  have e2 : onar .byte 0 = true := by decide
  simp only [ob_J0_coder_7d493, if_neg e1, h3, ovi, obn, ogd, e2, if_true]
theorem s_latin (h : oTx κ σ r len f) : oF κ T (n + 1) 202 [va_rf r] σ = some (some (.int 1), σ) := by
  obtain ⟨a, v, h1, h2, h3, h4, h5, h6⟩ := h
  rw [oE_J0_isLatin1_aae02]
  have e1 : ¬ (1 : Int32) = 0 := by decide
  simp only [ob_J0_isLatin1_aae02, if_neg e1, h3, ovi, obn, if_true]
theorem s_len (h : oTx κ σ r len f) : oF κ T (n + 2) 207 [va_rf r] σ = some (some (.int (nI len)), σ) := by
  have hc := s_coder (T := T) (n := n) h
  obtain ⟨a, v, h1, h2, h3, h4, h5, h6⟩ := h
  rw [oE_J0_length_8abf5]
  have e9 : nI len >>> ((0 : Int32) &&& 31) = nI len := sc_shr0 h5
  simp only [ob_J0_length_8abf5, h2, ovr, obn, h4, h1, hc, oin, e9]
theorem s_check {i m : Nat} (hi : i < m) (hm : m < 2 ^ 31) (x2 : Option Nat) : oF κ T (n + 1) 206 [.int (nI i), .int (nI m), va_rf x2] σ = some (some (.int (nI i)), σ) := by
  rw [oE_J3_checkIndex_8e157]
  have c1 : ¬ nI i < 0 := nI_pos (by omega)
  have c2 : nI i < nI m := nI_lt hi hm
  simp only [ob_J3_checkIndex_8e157, if_neg c1, if_pos c2]
theorem s_chr {j : Nat} (h : oTx κ σ r len f) (hj : j < len) : oF κ T (n + 4) 201 [va_rf r, .int (nI j)] σ = some (some (.int (f j &&& 255)), σ) := by
  have hl := s_latin (T := T) (n := n + 2) h
  obtain ⟨a, v, h1, h2, h3, h4, h5, h6⟩ := h
  have k1 : oF κ T (n + 2) 204 [.int (nI j), .int (nI len)] σ = some (none, σ) := by
    rw [oE_J0_checkIndex_df160]
    simp only [ob_J0_checkIndex_df160, s_check hj h5, oin]
  have k2 : oF κ T (n + 3) 203 [va_rf (some v), .int (nI j)] σ = some (some (.int (f j &&& 255)), σ) := by
    rw [oE_J1_charAt_3b067]
    simp only [ob_J1_charAt_3b067, h4, obn, k1, ocv, h6 j hj, char_ok, onar_c, ogd, if_true]
  rw [oE_J0_charAt_5068e]
  have e1 : ¬ (1 : Int32) = 0 := by decide
  simp only [ob_J0_charAt_5068e, h1, obn, hl, oin, if_neg e1, h2, ovr, k2, onar_c, ogd, if_true]
/-- the first place from i on where the letter c stands, or -1 -/
def sFirst (f : Nat → Int32) (len : Nat) (c : Int32) : Nat → Nat → Int32
  | 0, _ => -1
  | m + 1, i => if i < len then (if f i = c then nI i else sFirst f len c m (i + 1)) else -1
theorem s_first {v : Nat} {c : Int32} (h5 : len < 2 ^ 31) (h6 : ∀ j, j < len → oai8 κ σ (some v) (nI j) = some (f j)) : ∀ (t i : Nat), i ≤ len → len < i + t → ∀ call, ol_J1_indexOfChar_4cfef_7 T call κ t (some v) (nI len) c (nI i) σ = some (some (.int (sFirst f len c t i)), σ)
  | 0, i, hi, ht, _ => by omega
  | t + 1, i, hi, ht, call => by
    rw [ol_J1_indexOfChar_4cfef_7, sFirst]
    by_cases c1 : i < len
    · have e1 : ¬ nI len ≤ nI i := nI_ge c1 h5
      rw [if_neg e1, if_pos c1, h6 i c1]
      simp only [obn]
      by_cases c2 : f i = c
      · rw [if_pos c2, if_pos c2]
      · rw [if_neg c2, if_neg c2, nI_1]
        exact s_first h5 h6 t (i + 1) (by omega) (by omega) call
    · have e1 : nI len ≤ nI i := nI_le (by omega) (by omega)
      rw [if_pos e1, if_neg c1]
theorem s_idx {c : Int32} (h : oTx κ σ r len f) (hT : len < T) (c0 : ¬ c < 0) (c1 : ¬ 255 < c) : oF κ T (n + 5) 219 [va_rf r, .int c] σ = some (some (.int (sFirst f len c.toInt8.toInt32 T 0)), σ) := by
  have hl := s_latin (T := T) (n := n + 3) h
  have hn := s_len (T := T) (n := n + 1 + 1) h
  obtain ⟨a, v, h1, h2, h3, h4, h5, h6⟩ := h
  have e1 : ¬ (1 : Int32) = 0 := by decide
  have k1 : oF κ T (n + 2) 222 [.int c] σ = some (some (.int 1), σ) := by
    rw [oE_J1_canEncode_9a6ad]
    simp only [ob_J1_canEncode_9a6ad, if_neg c0, if_neg c1]
  have k2 : oF κ T (n + 2) 223 [va_rf (some v), .int c, .int 0, .int (nI len)] σ = some (some (.int (sFirst f len c.toInt8.toInt32 T 0)), σ) := by
    rw [oE_J1_indexOfChar_4cfef]
    unfold ob_J1_indexOfChar_4cfef
    exact s_first h5 h6 T 0 (Nat.zero_le _) (by omega) _
  have k3 : oF κ T (n + 3) 221 [va_rf (some v), .int c, .int 0, .int (nI len)] σ = some (some (.int (sFirst f len c.toInt8.toInt32 T 0)), σ) := by
    rw [oE_J1_indexOf_4cfef]
    have e2 : (if (0 : Int32) < 0 then (0 : Int32) else 0) = 0 := by decide
    have e3 : (if nI len < nI len then nI len else nI len) = nI len := by split <;> rfl
    unfold ob_J1_indexOf_4cfef
    simp only [k1, oin, if_neg e1, h4, obn, e2, e3]
    by_cases c2 : len = 0
    · have e4 : ¬ (0 : Int32) < nI len := by rw [c2]; decide
      rw [if_neg e4, c2]
      cases T with
      | zero => omega
      | succ t => simp only [sFirst, Nat.lt_irrefl, if_false]
    · have e4 : (0 : Int32) < nI len := nI_lt (a := 0) (by omega) h5
      rw [if_pos e4, k2]
  have k4 : oF κ T (n + 4) 220 [va_rf r, .int c, .int 0] σ = some (some (.int (sFirst f len c.toInt8.toInt32 T 0)), σ) := by
    rw [oE_J0_indexOf_7cf53]
    have hn2 : oF κ T (n + 3) 207 [va_rf r] σ = some (some (.int (nI len)), σ) := s_len (n := n + 1) ⟨a, v, h1, h2, h3, h4, h5, h6⟩
    have hl2 : oF κ T (n + 3) 202 [va_rf r] σ = some (some (.int 1), σ) := s_latin (n := n + 2) ⟨a, v, h1, h2, h3, h4, h5, h6⟩
    simp only [ob_J0_indexOf_7cf53, h1, obn, hl2, oin, if_neg e1, h2, ovr, hn2, k3]
  rw [oE_J0_indexOf_0f7a4]
  simp only [ob_J0_indexOf_0f7a4, h1, obn, k4, oin]
/-- at r stands an ArrayList of len elements g -/
def oLs (σ : oSt) (r : Option Nat) (len : Nat) (g : Nat → Option Nat) : Prop := ∃ (a d : Nat), oob σ r 1 = some a ∧ ofd σ r 1 2 = some (.int (nI len)) ∧ ofd σ r 1 1 = some (.ref d) ∧ len < 2 ^ 31 ∧ ∀ j, j < len → oar σ (some d) (nI j) = some (g j)
theorem l_size {g : Nat → Option Nat} (h : oLs σ r len g) : oF κ T (n + 1) 236 [va_rf r] σ = some (some (.int (nI len)), σ) := by
  obtain ⟨a, d, h1, h2, h3, h4, h5⟩ := h
  rw [oE_Jx4a65c_size_8abf5]
  simp only [ob_Jx4a65c_size_8abf5, h2, ovi, obn]
theorem l_get {g : Nat → Option Nat} {j : Nat} (h : oLs σ r len g) (hj : j < len) : oF κ T (n + 3) 234 [va_rf r, .int (nI j)] σ = some (some (va_rf (g j)), σ) := by
  obtain ⟨a, d, h1, h2, h3, h4, h5⟩ := h
  have k1 : oF κ T (n + 2) 205 [.int (nI j), .int (nI len)] σ = some (some (.int (nI j)), σ) := by
    rw [oE_J15_checkIndex_7cf53]
    simp only [ob_J15_checkIndex_7cf53, s_check hj h4, oin]
  have k2 : oF κ T (n + 2) 235 [va_rf r, .int (nI j)] σ = some (some (va_rf (g j)), σ) := by
    rw [oE_Jx4a65c_elementData_915e3]
    simp only [ob_Jx4a65c_elementData_915e3, h3, ovr, obn, h5 j hj]
  rw [oE_Jx4a65c_get_915e3]
  simp only [ob_Jx4a65c_get_915e3, h2, ovi, obn, k1, oin, h1, k2]
  cases g j <;> rfl
end OST
