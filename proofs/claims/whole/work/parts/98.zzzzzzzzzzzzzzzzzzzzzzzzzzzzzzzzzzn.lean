/-! type(): letters and numbers, the class -/
theorem tBt_fits (c : Int32) : fits .byte (.int (tBt c)) = true := by
  have e : tBt c = c.toInt8.toInt32.toInt8.toInt32 := rfl
  rw [e]
  generalize c.toInt8.toInt32.toInt8 = z
  have h1 := Int8.le_toInt z
  have h2 := Int8.toInt_lt z
  have t : z.toInt32.toInt = z.toInt := Int8.toInt_toInt32 z
  show (decide (-128 ≤ z.toInt32) && decide (z.toInt32 ≤ 127)) = true
  rw [Bool.and_eq_true, decide_eq_true_iff, decide_eq_true_iff, Int32.le_iff_toInt_le, Int32.le_iff_toInt_le, t]
  exact ⟨h1, by show z.toInt ≤ 127; omega⟩
/-- how long a draft may be: it begins with 128 and doubles -/
def tCk (c : Nat) : Prop := c = 16000 ∨ c = 128 ∨ c = 256 ∨ c = 512 ∨ c = 1024 ∨ c = 2048 ∨ c = 4096 ∨ c = 8192
/-- what the class said so far (cap: how long its draft is), and nothing else changed -/
def cSy (x da0 : Nat) (fs0 : List Value) (σ0 : oSt) (L : List Int32) (cap : Nat) (σ : oSt) : Prop := ∃ fs da g, (σ.1 x = some (.inr (14, fs)) ∧ fs.length = 13 ∧ fs[9]? = some (.int (nI L.length)) ∧ fs[7]? = some (.ref da)) ∧ (σ.1 da = some (.inl (.byte, cap, .inl g)) ∧ (tCk cap ∧ cap ≤ 16000) ∧ (L.length ≤ cap ∨ cap = 16000) ∧ ∀ i c, L[i]? = some c → i < cap → g i = tBt c) ∧ (∀ k, k ≠ 7 → k ≠ 9 → fs[k]? = fs0[k]?) ∧ (∀ q, q < σ0.2.1 → q ≠ x → q ≠ da0 → σ.1 q = σ0.1 q) ∧ (∀ q, σ.2.1 ≤ q → σ.1 q = none) ∧ σ0.2.1 ≤ σ.2.1 ∧ (da = da0 ∨ σ0.2.1 ≤ da) ∧ x < σ0.2.1
/-- slots of drafts up to this length -/
def tPh (cap : Nat) : Nat := if cap = 16000 then 32384 else 2 * cap
section TSC
variable {κ : oKv} {T n x da0 cap : Nat} {fs0 : List Value} {σ0 σ : oSt} {L : List Int32} {c : Int32}
/-- a letter where there is room, or where there is none any more -/
theorem c_pt45 {call : oCl} (h : cSy x da0 fs0 σ0 L cap σ) (hl : L.length < 1000000000) (hr : L.length < cap ∨ cap = 16000) : ∃ σ', oj_X12_put__45 T call κ (some x) c σ = some (none, σ') ∧ cSy x da0 fs0 σ0 (L ++ [c]) cap σ' ∧ σ'.2 = σ.2 := by
  obtain ⟨fs, da, g, ⟨h1, h2, h3, h4⟩, ⟨h5, ⟨h6, h6'⟩, h7, h8⟩, h9, h10, h11, h12, h13, h14⟩ := h
  have ln : (L ++ [c]).length = L.length + 1 := by rw [List.length_append]; rfl
  have e9 : ovi (ofd σ (some x) 14 9) = some (nI L.length) := by rw [ofd_at h1, h3]; rfl
  have e7 : ovr (ofd σ (some x) 14 7) = some (some da) := by rw [ofd_at h1, h4]; rfl
  have l0 : oln2 κ σ (some da) = some (nI cap) := by simp only [oln2, h5]; rfl
  have nx : x ≠ da := fun w => by rw [w, h5] at h1; cases h1
  have FX : ∀ k, k ≠ 7 → k ≠ 9 → (fs.set 9 (.int (nI (L.length + 1))))[k]? = fs0[k]? := fun k q1 q2 => by rw [List.getElem?_set_ne (fun w => q2 w.symm)]; exact h9 k q1 q2
  unfold oj_X12_put__45 oj_X12_put__68
  rw [e9, obn_at, e7, obn_at, l0, obn_at]
  by_cases f : cap ≤ L.length
  · rw [if_pos (nI_le f (by omega)), obn_at, nI_p1, opf_at h1 (by rw [h2]; decide), obn_at]
    refine ⟨_, rfl, ⟨_, da, g, ⟨oput_eq _ _ _, by rw [List.length_set]; exact h2, by rw [List.getElem?_set_self (by rw [h2]; decide), ln], by rw [List.getElem?_set_ne (by decide)]; exact h4⟩, ⟨(oput_ne nx.symm).trans h5, ⟨h6, h6'⟩, Or.inr (by omega), fun i d e hi => ?_⟩, FX, fun q q1 q2 q3 => (oput_ne q2).trans (h10 q q1 q2 q3), fun q hq => ?_, h12, h13, h14⟩, rfl⟩
    · rcases ap_last e with r | ⟨r, -⟩
      · exact h8 i d r hi
      · omega
    · have hq : σ.2.1 ≤ q := hq
      rw [oput_ne (by omega)]
      exact h11 q hq
  · have zi : zin (nI L.length) cap = true := zin_n (by omega) (by omega)
    generalize hσ : oput σ da (.inl (.byte, cap, .inl (upd g L.length (vp_nar .byte c.toInt8.toInt32)))) = σ1
    have s1 : osi σ (some da) .byte (nI L.length) (vp_nar .byte c.toInt8.toInt32) = some σ1 := by rw [osi_at h5 zi, nI_clamp (by omega), hσ]
    have x1 : σ1.1 x = some (.inr (14, fs)) := by rw [← hσ, oput_ne nx]; exact h1
    have d1 : σ1.1 da = some (.inl (.byte, cap, .inl (upd g L.length (vp_nar .byte c.toInt8.toInt32)))) := by rw [← hσ]; exact oput_eq _ _ _
    have e9' : ovi (ofd σ1 (some x) 14 9) = some (nI L.length) := by rw [ofd_at x1, h3]; rfl
    have dl : da < σ.2.1 := Nat.lt_of_not_le (fun w => by rw [h11 da w] at h5; cases h5)
    rw [if_neg (nI_ge (by omega) (by omega)), obn_at, obn_at, s1, obn_at, e9', obn_at, nI_p1, opf_at x1 (by rw [h2]; decide), obn_at]
    refine ⟨_, rfl, ⟨_, da, _, ⟨oput_eq _ _ _, by rw [List.length_set]; exact h2, by rw [List.getElem?_set_self (by rw [h2]; decide), ln], by rw [List.getElem?_set_ne (by decide)]; exact h4⟩, ⟨(oput_ne nx.symm).trans d1, ⟨h6, h6'⟩, Or.inl (by rw [ln]; omega), fun i d e hi => ?_⟩, FX, fun q q1 q2 q3 => ?_, fun q hq => ?_, by show σ0.2.1 ≤ σ1.2.1; rw [← hσ]; exact h12, h13, h14⟩, by show σ1.2 = σ.2; rw [← hσ]; rfl⟩
    · unfold upd
      rcases ap_last e with r | ⟨r, r'⟩
      · have := xget_lt r
        rw [if_neg (by omega)]
        exact h8 i d r hi
      · rw [if_pos r, r']
        rfl
    · have qd : q ≠ da := fun w => by
        rcases h13 with r | r
        · exact q3 (w.trans r)
        · omega
      rw [oput_ne q2, ← hσ, oput_ne qd]
      exact h10 q q1 q2 q3
    · have hq : σ1.2.1 ≤ q := hq
      have hq : σ.2.1 ≤ q := by rw [← hσ] at hq; exact hq
      rw [oput_ne (by omega), ← hσ, oput_ne (by omega)]
      exact h11 q hq
/-- **put() of a letter (181)** -/
theorem c_put (h : cSy x da0 fs0 σ0 L cap σ) (hl : L.length < 1000000000) : ∃ σ' cap', oF κ T (n + 2) 181 [va_rf (some x), .int c] σ = some (none, σ') ∧ cSy x da0 fs0 σ0 (L ++ [c]) cap' σ' ∧ (σ'.2.2.2 + tPh cap ≤ σ.2.2.2 + tPh cap' ∧ σ'.2.2.1 + cap ≤ σ.2.2.1 + cap') := by
  obtain ⟨fs, da, g, ⟨h1, h2, h3, h4⟩, ⟨h5, ⟨h6, h6'⟩, h7, h8⟩, h9, h10, h11, h12, h13, h14⟩ := id h
  have h61 : 1 ≤ cap := by unfold tCk at h6; omega
  have e9 : ovi (ofd σ (some x) 14 9) = some (nI L.length) := by rw [ofd_at h1, h3]; rfl
  have e7 : ovr (ofd σ (some x) 14 7) = some (some da) := by rw [ofd_at h1, h4]; rfl
  have l0 : oln2 κ σ (some da) = some (nI cap) := by simp only [oln2, h5]; rfl
  rw [oE_X12_put_]
  unfold ob_X12_put_
  rw [e9, obn_at, e7, obn_at, l0, obn_at]
  by_cases f : L.length = cap
  · rw [if_pos (by rw [f]), obn_at]
    by_cases g16 : 16000 ≤ L.length
    · obtain ⟨σ', r1, r2, r3⟩ := c_pt45 (κ := κ) (T := T) (call := oF κ T (n + 1)) (c := c) h hl (Or.inr (by omega))
      rw [if_pos (show (16000 : Int32) ≤ nI L.length from nI_le (a := 16000) g16 (by omega)), r1]
      exact ⟨σ', cap, rfl, r2, by rw [r3]; omega, by rw [r3]; omega⟩
    · have M2 : (if (16000 : Int32) < 2 * nI L.length then (16000 : Int32) else 2 * nI L.length) = nI (if 16000 < 2 * L.length then 16000 else 2 * L.length) := by
        rw [show (2 : Int32) * nI L.length = nI (2 * L.length) by rw [show (2 : Int32) = nI 2 from rfl, nI_mul]]
        by_cases q : 16000 < 2 * L.length
        · rw [if_pos (show (16000 : Int32) < nI (2 * L.length) from nI_lt (a := 16000) q (by omega)), if_pos q]; rfl
        · rw [if_neg (show ¬ (16000 : Int32) < nI (2 * L.length) from fun w => by rw [Int32.lt_iff_toInt_lt, nI_toInt (by omega)] at w; have w : (16000 : Int) < ((2 * L.length : Nat) : Int) := w; omega), if_neg q]
      rw [if_neg (show ¬ (16000 : Int32) ≤ nI L.length from nI_ge (b := 16000) (by omega) (by omega)), obn_at, obn_at, M2]
      generalize hM : (if 16000 < 2 * L.length then 16000 else 2 * L.length) = M
      have hm1 : L.length < M ∧ M ≤ 16000 := by rw [← hM]; split <;> omega
      have hm6 : tCk M := by
        rw [← hM]
        unfold tCk at h6 ⊢
        split <;> omega
      have o1 : onn (nI M) = true := by
        simp only [onn, nI_clamp (show M < 2 ^ 31 by omega), nI_neg1 (show M < 2 ^ 31 by omega), decide_eq_true (show M ≤ 60000000 by omega), not_false_eq_true, decide_true, Bool.and_self]
      have dl : da < σ.2.1 := Nat.lt_of_not_le (fun w => by rw [h11 da w] at h5; cases h5)
      have xl : x < σ.2.1 := by omega
      have r1 : (onew σ (.inl (.byte, M, .inl (fun _ => 0))) M).1 da = some (.inl (.byte, cap, .inl g)) := by rw [onew_ne (by omega)]; exact h5
      have r2 : (onew σ (.inl (.byte, M, .inl (fun _ => 0))) M).1 σ.2.1 = some (.inl (.byte, M, .inl (fun _ => 0))) := onew_eq _ _ _
      have l2 : oln2 κ (onew σ (.inl (.byte, M, .inl (fun _ => 0))) M) (some da) = some (nI cap) := by simp only [oln2, r1]; rfl
      have ix : oix 0 0 (nI cap) cap M = true := oix_0 (Nat.le_refl _) (by omega) (by omega)
      have fi : (List.range cap).all (fun i => fits .byte (.int (g (0 + i)))) = true := List.all_eq_true.mpr (fun j hj => by
        have hj := List.mem_range.mp hj
        rw [Nat.zero_add, h8 j _ (List.getElem?_eq_getElem (by omega)) hj]
        exact tBt_fits _)
      have CT : oF κ T (n + 1) 240 [va_rf (some da), .int (nI M)] σ = some (some (va_rf (some σ.2.1)), oput (onew σ (.inl (.byte, M, .inl (fun _ => 0))) M) σ.2.1 (.inl (.byte, M, .inl (va_cpy g (fun _ => 0) 0 0 cap)))) := by
        rw [oE_J7_copyOf_9075b]
        unfold ob_J7_copyOf_9075b
        rw [l0, obn_at, if_neg (fun e => by have := nI_inj' (by omega) (by omega) e; omega), ogd_at o1, olet_at, nI_clamp (show M < 2 ^ 31 by omega), l2, obn_at, if_neg (show ¬ nI M < nI cap from fun e => by rw [Int32.lt_iff_toInt_lt, nI_toInt (by omega), nI_toInt (by omega)] at e; omega)]
        have CY : ocy (onew σ (.inl (.byte, M, .inl (fun _ => 0))) M) (some da) 0 (some σ.2.1) 0 (nI cap) = some (oput (onew σ (.inl (.byte, M, .inl (fun _ => 0))) M) σ.2.1 (.inl (.byte, M, .inl (va_cpy g (fun _ => 0) 0 0 cap)))) := by
          simp only [ocy, r1, r2, nI_clamp (show cap < 2 ^ 31 by omega), show (0 : Int32).toNatClampNeg = 0 by decide]
          rw [if_pos ⟨ix, fi⟩]
        rw [CY, obn_at]
      rw [CT, orn_at]
      generalize hσ2 : oput (onew σ (.inl (.byte, M, .inl (fun _ => 0))) M) σ.2.1 (.inl (.byte, M, .inl (va_cpy g (fun _ => 0) 0 0 cap))) = σ2
      have b1 : σ2.1 x = some (.inr (14, fs)) := by rw [← hσ2, oput_ne (by omega), onew_ne (by omega)]; exact h1
      have b2 : σ2.1 σ.2.1 = some (.inl (.byte, M, .inl (va_cpy g (fun _ => 0) 0 0 cap))) := by rw [← hσ2]; exact oput_eq _ _ _
      have b3 : ∀ q, q ≠ σ.2.1 → σ2.1 q = σ.1 q := fun q hq => by rw [← hσ2, oput_ne hq, onew_ne hq]
      have b5 : σ2.2 = (σ.2.1 + 1, σ.2.2.1 + 1, σ.2.2.2 + M) := by rw [← hσ2]; rfl
      rw [show va_rf (some σ.2.1) = Value.ref σ.2.1 from rfl, opf_at b1 (by rw [h2]; decide), obn_at]
      have H' : cSy x da0 fs0 σ0 L M (oput σ2 x (.inr (14, fs.set 7 (.ref σ.2.1)))) := by
        refine ⟨_, σ.2.1, _, ⟨oput_eq _ _ _, by rw [List.length_set]; exact h2, by rw [List.getElem?_set_ne (by decide)]; exact h3, by rw [List.getElem?_set_self (by rw [h2]; decide)]⟩, ⟨(oput_ne (by omega)).trans b2, ⟨hm6, hm1.2⟩, Or.inl (by omega), fun i d e hi => ?_⟩, fun k q1 q2 => by rw [List.getElem?_set_ne (fun w => q1 w.symm)]; exact h9 k q1 q2, fun q q1 q2 q3 => ?_, fun q hq => ?_, ?_, Or.inr h12, h14⟩
        · have il := xget_lt e
          show (if 0 ≤ i ∧ i < 0 + cap then g (0 + (i - 0)) else 0) = _
          rw [if_pos (by omega), show 0 + (i - 0) = i by omega]
          exact h8 i d e (by omega)
        · rw [oput_ne q2, b3 q (by omega)]
          exact h10 q q1 q2 q3
        · have hq : σ2.2.1 ≤ q := hq
          rw [b5] at hq
          have hq : σ.2.1 + 1 ≤ q := hq
          rw [oput_ne (by omega), b3 q (by omega)]
          exact h11 q (by omega)
        · show σ0.2.1 ≤ σ2.2.1
          rw [b5]
          show σ0.2.1 ≤ σ.2.1 + 1
          omega
      obtain ⟨σ', t1, t2, t3⟩ := c_pt45 (κ := κ) (T := T) (call := oF κ T (n + 1)) (c := c) H' hl (Or.inl hm1.1)
      rw [t1]
      have e2 : σ'.2 = (σ.2.1 + 1, σ.2.2.1 + 1, σ.2.2.2 + M) := t3.trans b5
      refine ⟨σ', M, rfl, t2, ?_, ?_⟩
      · rw [e2]
        show σ.2.2.2 + M + tPh cap ≤ σ.2.2.2 + tPh M
        unfold tPh
        unfold tCk at h6
        rw [if_neg (show ¬ cap = 16000 by omega)]
        by_cases q : 16000 < 2 * L.length
        · rw [if_pos q] at hM
          rw [if_pos hM.symm]
          omega
        · rw [if_neg q] at hM
          split <;> omega
      · rw [e2]
        show σ.2.2.1 + 1 + cap ≤ σ.2.2.1 + M
        omega
  · rw [if_neg (fun e => f (nI_inj' (by omega) (by omega) e))]
    obtain ⟨σ', r1, r2, r3⟩ := c_pt45 (κ := κ) (T := T) (call := oF κ T (n + 1)) (c := c) h hl (by omega)
    rw [r1]
    exact ⟨σ', cap, rfl, r2, by rw [r3]; omega, by rw [r3]; omega⟩
end TSC
