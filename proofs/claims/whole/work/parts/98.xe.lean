/-! the class's words are made -/
theorem odef_13 : odef 13 = [.null, .null, .null, .null, .int 0, .int 0] := by decide +kernel
/-- three rows more -/
def w3 (σ : oSt) (k : Nat) : oSt := (σ.1, σ.2.1 + 1 + 1 + 1, σ.2.2.1 + 1 + 1 + 1, σ.2.2.2 + k + k + k)
section OWI
variable {κ : oKv} {ks : Nat → Nat} {T n len sz : Nat} {σ : oSt} {w r v : Nat} {f : Nat → Int32}
set_option maxHeartbeats 2000000 in
theorem w_init (hf : lFacts κ ks sz) (hlow : ∀ a, a < sz → σ.1 a = none) (hw : σ.1 w = some (.inr (13, odef 13))) (hwl : w < σ.2.1) (hwz : sz ≤ w) (h : oTv κ σ r v len f) (hrw : r ≠ w) (hvw : v ≠ w) (hrl : r < σ.2.1) (hvl : v < σ.2.1) (hlen : len ≤ 2000) (hT : 2010 ≤ T) : oF κ T (n + 9) 172 [va_rf (some w), va_rf (some r)] σ = some (none, wFin (w3 σ (len + 1)) w σ.2.1 (σ.2.1 + 1) (σ.2.1 + 1 + 1) r len (wLex T len (fun j => f j &&& 255) T 0 (fun _ => 0) (fun _ => 0) (fun _ => 0) 0)) := by
  rw [odef_13] at hw
  have on : onn (nI (len + 1)) = true := by
    unfold onn
    rw [decide_eq_true (nI_pos (show len + 1 < 2 ^ 31 by omega)), nI_clamp (by omega), decide_eq_true (show len + 1 ≤ 60000000 by omega)]
    rfl
  have sl : ∀ s : oSt, s.1 r = σ.1 r → s.1 v = σ.1 v → oF κ T (n + 8) 207 [va_rf (some r)] s = some (some (.int (nI len)), s) := fun s h1 h2 => s_len (n := n + 6) (h.keep h1 h2).tx
  have ss : ∀ s : oSt, s.1 r = σ.1 r → s.1 v = σ.1 v → oSt' κ s (some r) = some r := fun s h1 h2 => (h.keep h1 h2).1
  have hwn : w ≠ σ.2.1 := by omega
  rw [oE_X11_init]
  unfold ob_X11_init
  simp only [obn]
  rw [opf_at hw (show 5 < 6 by decide)]
  simp only [obn, List.set]
  rw [opf_at (oput_eq _ _ _) (show 0 < 6 by decide)]
  simp only [obn, List.set, oput_oput]
  rw [ss _ (oput_ne hrw) (oput_ne hvw)]
  simp only [obn]
  rw [sl _ (oput_ne hrw) (oput_ne hvw)]
  simp only [oin, nI_1, ogd, on, if_true, olet, nI_clamp (show len + 1 < 2 ^ 31 by omega)]
  -- the first row
  generalize e5 : oput σ w (.inr (13, [va_rf (some r), .null, .null, .null, .int 0, .int (-1)])) = s5
  have n5 : s5.2 = σ.2 := by rw [← e5]; rfl
  have w5 : s5.1 w = some (.inr (13, [va_rf (some r), .null, .null, .null, .int 0, .int (-1)])) := by rw [← e5]; exact oput_eq _ _ _
  have o5 : ∀ q, q ≠ w → s5.1 q = σ.1 q := fun q hq => by rw [← e5]; exact oput_ne hq
  have w12 : (onew s5 (.inl (.int, len + 1, .inl fun _ => 0)) (len + 1)).1 w = _ := (onew_ne (by rw [n5]; exact hwn)).trans w5
  rw [opf_at w12 (show 1 < 6 by decide)]
  simp only [obn, List.set]
  generalize e15 : oput (onew s5 (.inl (.int, len + 1, .inl fun _ => 0)) (len + 1)) w (.inr (13, [va_rf (some r), va_rf (some s5.2.1), .null, .null, .int 0, .int (-1)])) = s15
  have n15 : s15.2 = (σ.2.1 + 1, σ.2.2.1 + 1, σ.2.2.2 + (len + 1)) := by rw [← e15]; show (s5.2.1 + 1, s5.2.2.1 + 1, s5.2.2.2 + (len + 1)) = _; rw [n5]
  have w15 : s15.1 w = some (.inr (13, [va_rf (some r), va_rf (some s5.2.1), .null, .null, .int 0, .int (-1)])) := by rw [← e15]; exact oput_eq _ _ _
  have o15 : ∀ q, q ≠ w → q ≠ σ.2.1 → s15.1 q = σ.1 q := fun q hq hq2 => by rw [← e15, oput_ne hq, onew_ne (by rw [n5]; exact hq2)]; exact o5 q hq
  have k15 : s15.1 σ.2.1 = some (.inl (.int, len + 1, .inl fun _ => 0)) := by
    rw [← e15, oput_ne (Ne.symm hwn), show σ.2.1 = s5.2.1 by rw [n5]]
    exact onew_eq _ _ _
  rw [ss _ (o15 _ hrw (by omega)) (o15 _ hvw (by omega))]
  simp only [obn]
  rw [sl _ (o15 _ hrw (by omega)) (o15 _ hvw (by omega))]
  simp only [oin, nI_1, on, if_true, olet, nI_clamp (show len + 1 < 2 ^ 31 by omega)]
  -- the second row
  have w22 : (onew s15 (.inl (.int, len + 1, .inl fun _ => 0)) (len + 1)).1 w = _ := (onew_ne (by rw [n15]; show w ≠ σ.2.1 + 1; omega)).trans w15
  rw [opf_at w22 (show 2 < 6 by decide)]
  simp only [obn, List.set]
  generalize e25 : oput (onew s15 (.inl (.int, len + 1, .inl fun _ => 0)) (len + 1)) w (.inr (13, [va_rf (some r), va_rf (some s5.2.1), va_rf (some s15.2.1), .null, .int 0, .int (-1)])) = s25
  have n25 : s25.2 = (σ.2.1 + 1 + 1, σ.2.2.1 + 1 + 1, σ.2.2.2 + (len + 1) + (len + 1)) := by rw [← e25]; show (s15.2.1 + 1, s15.2.2.1 + 1, s15.2.2.2 + (len + 1)) = _; rw [n15]
  have w25 : s25.1 w = some (.inr (13, [va_rf (some r), va_rf (some s5.2.1), va_rf (some s15.2.1), .null, .int 0, .int (-1)])) := by rw [← e25]; exact oput_eq _ _ _
  have o25 : ∀ q, q ≠ w → q ≠ σ.2.1 + 1 → s25.1 q = s15.1 q := fun q hq hq2 => by rw [← e25, oput_ne hq, onew_ne (by rw [n15]; exact hq2)]
  have k25 : s25.1 (σ.2.1 + 1) = some (.inl (.int, len + 1, .inl fun _ => 0)) := by
    rw [← e25, oput_ne (by omega), show σ.2.1 + 1 = s15.2.1 by rw [n15]]
    exact onew_eq _ _ _
  have o25' : ∀ q, q ≠ w → q < σ.2.1 → s25.1 q = σ.1 q := fun q hq hq2 => (o25 q hq (by omega)).trans (o15 q hq (by omega))
  rw [ss _ (o25' _ hrw hrl) (o25' _ hvw hvl)]
  simp only [obn]
  rw [sl _ (o25' _ hrw hrl) (o25' _ hvw hvl)]
  simp only [oin, nI_1, on, if_true, olet, nI_clamp (show len + 1 < 2 ^ 31 by omega)]
  -- the third row
  have w32 : (onew s25 (.inl (.int, len + 1, .inl fun _ => 0)) (len + 1)).1 w = _ := (onew_ne (by rw [n25]; show w ≠ σ.2.1 + 1 + 1; omega)).trans w25
  rw [opf_at w32 (show 3 < 6 by decide)]
  simp only [obn, List.set]
  have fin : oput (onew s25 (.inl (.int, len + 1, .inl fun _ => 0)) (len + 1)) w (.inr (13, [va_rf (some r), va_rf (some s5.2.1), va_rf (some s15.2.1), va_rf (some s25.2.1), .int 0, .int (-1)])) = wSt (w3 σ (len + 1)) w σ.2.1 (σ.2.1 + 1) (σ.2.1 + 1 + 1) r (len + 1) (fun _ => 0) (fun _ => 0) (fun _ => 0) 0 (-1) := by
    refine oSt_ext (fun q => ?_) ?_
    · rw [n5, n15, n25]
      unfold wSt
      by_cases q1 : q = w
      · rw [q1, oput_eq, oput_eq]
        rfl
      · rw [oput_ne q1, oput_ne q1]
        by_cases q2 : q = σ.2.1 + 1 + 1
        · rw [q2, oput_eq, show σ.2.1 + 1 + 1 = s25.2.1 by rw [n25], onew_eq]
        · rw [oput_ne q2, onew_ne (by rw [n25]; exact q2)]
          by_cases q3 : q = σ.2.1 + 1
          · rw [q3, oput_eq, k25]
          · rw [oput_ne q3, o25 q q1 q3]
            by_cases q4 : q = σ.2.1
            · rw [q4, oput_eq, k15]
            · rw [oput_ne q4, o15 q q1 q4]
              rfl
    · show (s25.2.1 + 1, s25.2.2.1 + 1, s25.2.2.2 + (len + 1)) = _
      rw [n25]
      rfl
  rw [fin, oob_at wSt_w]
  simp only [obn]
  have h3 : oTv κ (w3 σ (len + 1)) r v len f := h.keep rfl rfl
  have hap : wAp w σ.2.1 (σ.2.1 + 1) (σ.2.1 + 1 + 1) r v := ⟨by omega, by omega, by omega, by omega, by omega, by omega, hrw, by omega, by omega, by omega, hvw, by omega, by omega, by omega⟩
  rw [w_split (n := n) (σ := w3 σ (len + 1)) hf hlow ⟨hwz, by omega, by omega, by omega⟩ hap h3 hlen hT]
  simp only [ocv]
end OWI
