/-! the class's words: texts of the constants, letters, signs, where a word ends -/
theorem okA_some {κ : oKv} {i : Nat} (h : i < 17) : ∃ j, okA κ (κ.1 i) = some j ∧ j < 17 ∧ κ.1 j = κ.1 i := by
  cases e : okA κ (κ.1 i) with
  | none =>
    have h9 := List.find?_eq_none.mp e i (List.mem_range.mpr h)
    simp at h9
  | some j =>
    have h1 := okA_e e
    have h2 := List.mem_range.mp (List.mem_of_find?_eq_some e)
    exact ⟨j, rfl, h2, h1.1⟩
theorem okB_some {κ : oKv} {i : Nat} (h : i < 17) : ∃ j, okB κ (κ.2.1 i) = some j ∧ j < 17 ∧ κ.2.1 j = κ.2.1 i := by
  cases e : okB κ (κ.2.1 i) with
  | none =>
    have h9 := List.find?_eq_none.mp e i (List.mem_range.mpr h)
    simp at h9
  | some j =>
    have h1 := okB_e e
    have h2 := List.mem_range.mp (List.mem_of_find?_eq_some e)
    exact ⟨j, rfl, h2, h1.1⟩
theorem oktx_len : ∀ i, i < 17 → (oktx i).toList.length < 1000 := by decide +kernel
/-- a String constant is a String, wherever no cell of the class lies below sz -/
theorem oTx_const {κ : oKv} {ks : Nat → Nat} {sz i : Nat} {σ : oSt} (hf : lFacts κ ks sz) (hlow : ∀ a, a < sz → σ.1 a = none) (hi : i < 17) : oTx κ σ (some (κ.1 i)) (oktx i).toList.length (fun j => zch (oktx i) j) := by
  obtain ⟨f1, f2, f3, f4, f5, -⟩ := hf
  have n1 := hlow _ (f1 i hi).1
  have n2 := hlow _ (f1 i hi).2
  obtain ⟨j, hj1, hj2, hj3⟩ := okA_some (κ := κ) hi
  obtain ⟨k, hk1, hk2, hk3⟩ := okB_some (κ := κ) hi
  have ej : κ.2.1 j = κ.2.1 i := f3 j i hj2 hi hj3
  have ek : oktx k = oktx i := f4 k i hk2 hi hk3
  have hlen := oktx_len i hi
  have o1 : oob σ (some (κ.1 i)) 0 = none := by simp only [oob, n1]
  have o2 : ∀ q, ofd σ (some (κ.1 i)) 0 q = none := fun q => by simp only [ofd, n1]
  refine ⟨κ.1 i, κ.2.1 i, ?_, ?_, ?_, ?_, by omega, fun q hq => ?_⟩
  · simp only [oSt', o1, hj1]
  · simp only [ofk, o2, hj1, if_true, ej]
  · simp only [ofk, o2, hj1]
    rfl
  · simp only [oln2, n2, if_neg (f5 i hi), hk1, ek]
    rfl
  · have z1 : zin (nI q) (oktx i).toList.length = true := decide_eq_true ⟨by rw [nI_toInt (by omega)]; omega, by rw [nI_toInt (by omega)]; omega⟩
    have o3 : oai σ (some (κ.2.1 i)) .byte (nI q) = none := by simp only [oai, n2]
    simp only [oai8, o3, hk1, ek, z1, if_true, nI_clamp (show q < 2 ^ 31 by omega)]
def bL (c : Int32) : Bool := decide (¬ c < 97) && decide (¬ 122 < c)
def bD (c : Int32) : Bool := decide (¬ c < 48) && decide (¬ 57 < c)
def b01 (b : Bool) : Int32 := if b = true then 1 else 0
section OWD
variable {κ : oKv} {T n len : Nat} {σ : oSt} {w : Nat} {r : Option Nat} {f : Nat → Int32}
theorem w_isL (c : Int32) : oF κ T (n + 1) 163 [.int c] σ = some (some (.int (b01 (bL c))), σ) := by
  rw [oE_X11_isLetter]
  unfold ob_X11_isLetter bL b01
  by_cases h1 : c < 97
  · simp [h1]
  · by_cases h2 : 122 < c
    · simp [h1, h2]
    · simp [h1, h2]
theorem w_isD (c : Int32) : oF κ T (n + 1) 164 [.int c] σ = some (some (.int (b01 (bD c))), σ) := by
  rw [oE_X11_isDigit]
  unfold ob_X11_isDigit bD b01
  by_cases h1 : c < 48
  · simp [h1]
  · by_cases h2 : 57 < c
    · simp [h1, h2]
    · simp [h1, h2]
theorem b01_0 {b : Bool} : b01 b = 0 ↔ b = false := by cases b <;> decide
/-- does a word go on with c (nm: it is a NAME) -/
def bC (c : Int32) (nm : Bool) : Bool := bD c || (nm && (bL c || decide (c = 95)))
theorem w_cont (c : Int32) (nm : Bool) : oF κ T (n + 2) 165 [.int c, .int (b01 nm)] σ = some (some (.int (b01 (bC c nm))), σ) := by
  rw [oE_X11_continues]
  unfold ob_X11_continues oj_X11_continues_24
  rw [w_isD]
  simp only [oin]
  unfold bC
  cases h1 : bD c with
  | true => simp [b01]
  | false =>
    cases nm with
    | false => simp [b01]
    | true =>
      simp only [b01, if_false, if_true, Bool.false_eq_true, w_isL, oin]
      cases h2 : bL c with
      | true => simp [b01]
      | false =>
        by_cases h3 : c = 95
        · simp [b01, h3]
        · simp [b01, h3]
/-- the sign of two letters at i, or 0 -/
def dSg (len : Nat) (g : Nat → Int32) (i : Nat) : Int32 := if i + 1 < len then (if g i = 38 then (if g (i + 1) = 38 then 302 else 0) else if g i = 45 then (if g (i + 1) = 62 then 304 else 0) else if g i = 60 then (if g (i + 1) = 61 then 300 else 0) else if g i = 62 then (if g (i + 1) = 61 then 301 else 0) else if g i = 124 then (if g (i + 1) = 124 then 303 else 0) else 0) else 0
theorem w_dbl {i : Nat} (hw : ofd σ (some w) 13 0 = some (va_rf r)) (h : oTx κ σ r len f) (hi : i < len) : oF κ T (n + 5) 166 [va_rf (some w), .int (nI i)] σ = some (some (.int (dSg len (fun j => f j &&& 255) i)), σ) := by
  have h0 := h
  obtain ⟨a, v, h1, -, -, -, h5, -⟩ := h
  have hr : ovr (some (va_rf r)) = some r := by cases r <;> rfl
  rw [oE_X11_doubleSign]
  unfold ob_X11_doubleSign dSg
  rw [hw, hr]
  simp only [obn, h1, s_len (n := n + 2) h0, oin, nI_1]
  by_cases c1 : i + 1 < len
  · rw [if_pos (nI_lt c1 h5), if_pos c1, hw, hr]
    simp only [obn, h1, s_chr (n := n) h0 c1, oin, hw, hr, s_chr (n := n) h0 hi]
    repeat' split
    all_goals first | rfl | contradiction
  · rw [if_neg (nI_nlt (by omega) (by omega)), if_neg c1]
/-- where the run of letters that go on ends -/
def wRun (len : Nat) (g : Nat → Int32) (nm : Bool) : Nat → Nat → Nat
  | 0, i => i
  | m + 1, i => if i < len then (if bC (g i) nm = true then wRun len g nm m (i + 1) else i) else i
end OWD
