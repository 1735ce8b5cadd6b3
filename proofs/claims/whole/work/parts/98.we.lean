/-! where a word ends (class) -/
theorem sFirst_fuel {f : Nat → Int32} {len : Nat} {c : Int32} : ∀ (m m' i : Nat), len < i + m → len < i + m' → sFirst f len c m i = sFirst f len c m' i
  | 0, 0, _, _, _ => rfl
  | 0, m' + 1, i, h, _ => by rw [sFirst, sFirst, if_neg (by omega)]
  | m + 1, 0, i, _, h => by rw [sFirst, sFirst, if_neg (by omega)]
  | m + 1, m' + 1, i, h, h' => by
    rw [sFirst, sFirst, sFirst_fuel m m' (i + 1) (by omega) (by omega)]
/-- one of the signs of one letter -/
def bS (c : Int32) : Bool := decide (c ∈ ([40, 41, 91, 93, 44, 59, 58, 61, 35, 60, 62, 43, 45, 42, 47, 37] : List Int32))
theorem sg_ok : ∀ k, k < 256 → decide (sFirst (fun j => zch (oktx 1) j) 16 (nI k).toInt8.toInt32 17 0 < 0) = !bS (nI k) := by decide +kernel
theorem oktx_1 : (oktx 1).toList.length = 16 := by decide +kernel
/-- where the word that begins at i ends; i itself if none does -/
def wEnd (len : Nat) (g : Nat → Int32) (i : Nat) : Nat := if bL (g i) = true then (if wRun len g true len (i + 1) - i ≤ 10 then wRun len g true len (i + 1) else i) else if bD (g i) = true then (if wRun len g false len (i + 1) - i ≤ 4 then wRun len g false len (i + 1) else i) else if dSg len g i = 0 then (if bS (g i) = true then i + 1 else i) else i + 2
theorem wRun_ge (len : Nat) (g : Nat → Int32) (nm : Bool) : ∀ (m i : Nat), i ≤ wRun len g nm m i
  | 0, i => Nat.le_refl _
  | m + 1, i => by
    rw [wRun]
    split
    · split
      · exact Nat.le_trans (Nat.le_succ i) (wRun_ge len g nm m (i + 1))
      · exact Nat.le_refl _
    · exact Nat.le_refl _
theorem wRun_le (len : Nat) (g : Nat → Int32) (nm : Bool) : ∀ (m i : Nat), i ≤ len → wRun len g nm m i ≤ len
  | 0, i, h => h
  | m + 1, i, h => by
    rw [wRun]
    split
    · split
      · exact wRun_le len g nm m (i + 1) (by omega)
      · exact h
    · exact h
theorem wRun_fuel {len : Nat} {g : Nat → Int32} {nm : Bool} : ∀ (m m' i : Nat), len ≤ i + m → len ≤ i + m' → wRun len g nm m i = wRun len g nm m' i
  | 0, 0, _, _, _ => rfl
  | 0, m' + 1, i, h, _ => by rw [wRun, wRun, if_neg (by omega)]
  | m + 1, 0, i, _, h => by rw [wRun, wRun, if_neg (by omega)]
  | m + 1, m' + 1, i, h, h' => by
    rw [wRun, wRun, wRun_fuel m m' (i + 1) (by omega) (by omega)]
section OWE
variable {κ : oKv} {T n len : Nat} {σ : oSt} {w : Nat} {r : Option Nat} {f : Nat → Int32}
theorem w_loop {at0 : Nat} {nm : Bool} (hw : ofd σ (some w) 13 0 = some (va_rf r)) (h : oTx κ σ r len f) (hlen : len ≤ 2000) : ∀ (t i : Nat), at0 ≤ i → i ≤ len → len < i + t → ol_X11_endOfWord_30 T (oF κ T (n + 4)) κ t (some w) (nI at0) (b01 nm) (nI i) σ = some (some (.int (nI (if wRun len (fun j => f j &&& 255) nm t i - at0 ≤ (if nm = true then 10 else 4) then wRun len (fun j => f j &&& 255) nm t i else at0))), σ)
  | 0, i, _, _, ht => by omega
  | t + 1, i, h0, hi, ht => by
    obtain ⟨a, v, h1, -, -, -, h5, -⟩ := id h
    have hr : ovr (some (va_rf r)) = some r := by cases r <;> rfl
    have fin : ∀ e : Nat, at0 ≤ e → e ≤ len → oj_X11_endOfWord_64 T (oF κ T (n + 4)) κ (nI at0) (b01 nm) (nI e) σ = some (some (.int (nI (if e - at0 ≤ (if nm = true then 10 else 4) then e else at0))), σ) := fun e he he2 => by
      unfold oj_X11_endOfWord_64 oj_X11_endOfWord_78
      rw [pk_sub he]
      cases nm with
      | false =>
        rw [if_pos (by decide)]
        by_cases c : e - at0 ≤ 4
        · have c2 : ¬ (4 : Int32) < nI (e - at0) := nI_nlt (a := 4) c (by decide)
          rw [if_neg c2]; simp [c]
        · have c2 : (4 : Int32) < nI (e - at0) := nI_lt (a := 4) (by omega) (by omega)
          rw [if_pos c2]; simp [c]
      | true =>
        rw [if_neg (by decide)]
        by_cases c : e - at0 ≤ 10
        · have c2 : ¬ (10 : Int32) < nI (e - at0) := nI_nlt (a := 10) c (by decide)
          rw [if_neg c2]; simp [c]
        · have c2 : (10 : Int32) < nI (e - at0) := nI_lt (a := 10) (by omega) (by omega)
          rw [if_pos c2]; simp [c]
    rw [ol_X11_endOfWord_30, hw, hr]
    simp only [obn, h1, s_len (n := n + 2) h, oin]
    by_cases c1 : i < len
    · rw [if_neg (nI_ge c1 h5), hw, hr]
      simp only [obn, h1, s_chr (n := n) h c1, oin, w_cont (n := n + 2)]
      rw [wRun, if_pos c1]
      cases c2 : bC (f i &&& 255) nm with
      | true =>
        rw [if_neg (show ¬ b01 true = 0 by decide), nI_1, if_pos rfl]
        exact w_loop hw h hlen t (i + 1) (by omega) (by omega) (by omega)
      | false =>
        rw [if_pos (show b01 false = 0 by decide), fin i h0 hi]
        simp
    · rw [if_pos (nI_le (by omega) (by omega)), fin i h0 hi]
      rw [wRun, if_neg c1]
theorem w_end {ks : Nat → Nat} {sz i : Nat} (hf : lFacts κ ks sz) (hlow : ∀ a, a < sz → σ.1 a = none) (hob : oob σ (some w) 13 = some w) (hw : ofd σ (some w) 13 0 = some (va_rf r)) (h : oTx κ σ r len f) (hlen : len ≤ 2000) (hT : 2010 ≤ T) (hi : i < len) : oF κ T (n + 6) 167 [va_rf (some w), .int (nI i)] σ = some (some (.int (nI (wEnd len (fun j => f j &&& 255) i))), σ) := by
  obtain ⟨a, v, h1, -, -, -, h5, -⟩ := id h
  have hr : ovr (some (va_rf r)) = some r := by cases r <;> rfl
  have run : ∀ nm : Bool, oj_X11_endOfWord_25 T (oF κ T (n + 5)) κ (some w) (nI i) (b01 nm) σ = some (some (.int (nI (if wRun len (fun j => f j &&& 255) nm len (i + 1) - i ≤ (if nm = true then 10 else 4) then wRun len (fun j => f j &&& 255) nm len (i + 1) else i))), σ) := fun nm => by
    unfold oj_X11_endOfWord_25
    rw [nI_1, w_loop (n := n + 1) hw h hlen T (i + 1) (by omega) (by omega) (by omega), wRun_fuel T len (i + 1) (by omega) (by omega)]
  rw [oE_X11_endOfWord]
  unfold ob_X11_endOfWord wEnd
  rw [hw, hr]
  simp only [obn, h1, s_chr (n := n + 1) h hi, oin, w_isL (n := n + 4)]
  cases c1 : bL (f i &&& 255) with
  | true =>
    rw [if_neg (show ¬ b01 true = 0 by decide), if_pos rfl, run true]
    simp
  | false =>
    rw [if_pos (show b01 false = 0 by decide), w_isD (n := n + 4)]
    simp only [oin, Bool.false_eq_true, if_false]
    cases c2 : bD (f i &&& 255) with
    | true =>
      rw [if_neg (show ¬ b01 true = 0 by decide), if_pos rfl]
      have h9 := run false
      simp only [Bool.false_eq_true, if_false] at h9
      exact h9
    | false =>
      rw [if_pos (show b01 false = 0 by decide), hob]
      simp only [obn, w_dbl (n := n) hw h hi, oin, Bool.false_eq_true, if_false]
      by_cases c3 : dSg len (fun j => f j &&& 255) i = 0
      · rw [if_pos c3, if_pos c3]
        have hc := oTx_const hf hlow (show 1 < 17 by decide)
        obtain ⟨a2, v2, g1, -, -, -, -, -⟩ := id hc
        obtain ⟨k, hk, ek⟩ := pk_andE (f i) (m := 255) 8 (by decide)
        have hk : k < 256 := hk
        have q1 : ¬ (f i &&& 255) < 0 := by rw [ek]; exact nI_pos (by omega)
        have q2 : ¬ 255 < (f i &&& 255) := by rw [ek]; exact nI_nlt (a := 255) (b := k) (by omega) (by decide)
        rw [oktx_1] at hc
        rw [g1]
        simp only [obn, s_idx (n := n) hc (show 16 < T by omega) q1 q2, oin]
        rw [sFirst_fuel (len := 16) T 17 0 (by omega) (by omega)]
        have h9 := sg_ok k hk
        rw [← ek] at h9
        cases c4 : bS (f i &&& 255) with
        | true =>
          rw [c4] at h9
          have h8 := of_decide_eq_false h9
          rw [if_neg h8, nI_1]
          simp
        | false =>
          rw [c4] at h9
          have h8 := of_decide_eq_true h9
          rw [if_pos h8]
          simp
      · rw [if_neg c3, if_neg c3]
        have e2 : nI i + 2 = nI (i + 2) := nI_add i 2
        rw [e2]
end OWE
