/-! run(), the class: what waits -/
section HWA
variable {κ : oKv} {T n : Nat} {σ : oSt} {ma wn ws wa : Nat} {fm : List Value} {WN : Nat → Option Nat} {WS WA : Nat → Int32}
/-- the rows of what waits -/
def hWt (ma : Nat) (fm : List Value) (wn ws wa : Nat) (WN : Nat → Option Nat) (WS WA : Nat → Int32) (σ : oSt) : Prop := (fm[6]? = some (.ref wn) ∧ fm[7]? = some (.ref ws) ∧ fm[8]? = some (.ref wa)) ∧ (σ.1 wn = some (.inl (.object "LiquidTongue$Node", 1683, .inr (.inr (.inr (.inr WN))))) ∧ σ.1 ws = some (.inl (.int, 1683, .inl WS)) ∧ σ.1 wa = some (.inl (.int, 1683, .inl WA))) ∧ (ma ≠ wn ∧ ma ≠ ws ∧ ma ≠ wa ∧ wn ≠ ws ∧ wn ≠ wa ∧ ws ≠ wa)
/-- **await() (81)** -/
theorem h_await {wc : Nat} {x1 : Option Nat} {s a : Int32} (hm : σ.1 ma = some (.inr (5, fm))) (hl : fm.length = 18) (h9 : fm[9]? = some (.int (nI wc))) (hwc : wc < 1683) (W : hWt ma fm wn ws wa WN WS WA σ) (hx : ∀ b, x1 = some b → ∃ fs, σ.1 b = some (.inr (7, fs))) : ∃ σ', oF κ T (n + 1) 81 [va_rf (some ma), va_rf x1, .int s, .int a] σ = some (none, σ') ∧ σ'.1 ma = some (.inr (5, fm.set 9 (.int (nI (wc + 1))))) ∧ hWt ma (fm.set 9 (.int (nI (wc + 1)))) wn ws wa (va_up WN wc x1) (upd WS wc s) (upd WA wc a) σ' ∧ (∀ x, x ≠ ma → x ≠ wn → x ≠ ws → x ≠ wa → σ'.1 x = σ.1 x) ∧ σ'.2 = σ.2 := by
  obtain ⟨⟨w1, w2, w3⟩, ⟨c1, c2, c3⟩, d1, d2, d3, d4, d5, d6⟩ := W
  have zi : zin (nI wc) 1683 = true := zin_n hwc (by decide)
  have cl : (nI wc).toNatClampNeg = wc := nI_clamp (by omega)
  have n9 : ¬ nI wc = (1683 : Int32) := fun w => by have := nI_inj' (b := 1683) (by omega) (by omega) w; omega
  have S1 : osr σ (some wn) (nI wc) x1 = some (oput σ wn (.inl (.object "LiquidTongue$Node", 1683, .inr (.inr (.inr (.inr (va_up WN wc x1))))))) := by
    cases x1 with
    | none => simp only [osr, c1, zi, if_true, cl]
    | some b =>
      obtain ⟨fs, e⟩ := hx b rfl
      simp only [osr, c1, e, zi, if_true, cl, show ofits "LiquidTongue$Node" 7 = true from rfl]
  generalize h1 : oput σ wn (.inl (.object "LiquidTongue$Node", 1683, .inr (.inr (.inr (.inr (va_up WN wc x1)))))) = σ1 at S1
  have m1 : σ1.1 ma = some (.inr (5, fm)) := by rw [← h1, oput_ne d1]; exact hm
  have c2' : σ1.1 ws = some (.inl (.int, 1683, .inl WS)) := by rw [← h1, oput_ne d4.symm]; exact c2
  generalize h2 : oput σ1 ws (.inl (.int, 1683, .inl (upd WS wc s))) = σ2
  have S2 : osi σ1 (some ws) .int (nI wc) s = some σ2 := by rw [osi_at c2' zi, cl, h2]
  have m2 : σ2.1 ma = some (.inr (5, fm)) := by rw [← h2, oput_ne d2]; exact m1
  have c3' : σ2.1 wa = some (.inl (.int, 1683, .inl WA)) := by rw [← h2, oput_ne d6.symm, ← h1, oput_ne d5.symm]; exact c3
  generalize h3 : oput σ2 wa (.inl (.int, 1683, .inl (upd WA wc a))) = σ3
  have S3 : osi σ2 (some wa) .int (nI wc) a = some σ3 := by rw [osi_at c3' zi, cl, h3]
  have m3 : σ3.1 ma = some (.inr (5, fm)) := by rw [← h3, oput_ne d3]; exact m2
  rw [oE_X3_await]
  unfold ob_X3_await
  rw [ofd_at hm, h9, ovi_in, obn_at, if_neg n9, ofd_at hm, w1, ovr_rf, obn_at, obn_at, S1, obn_at, ofd_at m1, w2, ovr_rf, obn_at, ofd_at m1, h9, ovi_in, obn_at, S2, obn_at, ofd_at m2, w3, ovr_rf, obn_at, ofd_at m2, h9, ovi_in, obn_at, S3, obn_at, ofd_at m3, h9, ovi_in, obn_at, nI_p1, opf_at m3 (by rw [hl]; decide), obn_at]
  refine ⟨_, rfl, oput_eq _ _ _, ⟨⟨by rw [List.getElem?_set_ne (by decide)]; exact w1, by rw [List.getElem?_set_ne (by decide)]; exact w2, by rw [List.getElem?_set_ne (by decide)]; exact w3⟩, ⟨?_, ?_, ?_⟩, d1, d2, d3, d4, d5, d6⟩, fun x q1 q2 q3 q4 => ?_, ?_⟩
  · rw [oput_ne d1.symm, ← h3, oput_ne d5, ← h2, oput_ne d4, ← h1]; exact oput_eq _ _ _
  · rw [oput_ne d2.symm, ← h3, oput_ne d6, ← h2]; exact oput_eq _ _ _
  · rw [oput_ne d3.symm, ← h3]; exact oput_eq _ _ _
  · rw [oput_ne q1, ← h3, oput_ne q4, ← h2, oput_ne q3, ← h1, oput_ne q2]
  · show σ3.2 = σ.2
    rw [← h3, ← h2, ← h1]; rfl
end HWA
