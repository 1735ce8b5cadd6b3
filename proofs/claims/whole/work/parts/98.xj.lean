/-! the class's parser: the word it stands at -/
/-- the words at w: cnt of them, then the end -/
def pWd (σ : oSt) (w cap cnt : Nat) (kk pp ee : Nat → Int32) : Prop := ∃ (r ka pa ea : Nat), σ.1 w = some (.inr (13, [.ref r, .ref ka, .ref pa, .ref ea, .int (nI cnt), .int (-1)])) ∧ σ.1 ka = some (.inl (.int, cap, .inl kk)) ∧ σ.1 pa = some (.inl (.int, cap, .inl pp)) ∧ σ.1 ea = some (.inl (.int, cap, .inl ee)) ∧ cnt < cap ∧ cap ≤ 2001
/-- the parser at p stands at word i, its first fault of grammar is bd (or -1) -/
def pAt (σ : oSt) (p w : Nat) (ps : List Value) (i : Nat) (bd : Int32) : Prop := σ.1 p = some (.inr (9, ps)) ∧ ps.length = 18 ∧ ps[0]? = some (.ref w) ∧ ps[11]? = some (.int (nI i)) ∧ ps[15]? = some (.int bd)
theorem odef_9 : (odef 9).length = 18 := by decide +kernel
section OPK
variable {κ : oKv} {T n w cap cnt p i : Nat} {σ : oSt} {kk pp ee : Nat → Int32} {ps : List Value} {bd : Int32}
theorem p_in (hw : pWd σ w cap cnt kk pp ee) (hi : i ≤ cnt) : zin (nI i) cap = true := by
  obtain ⟨r, ka, pa, ea, -, -, -, -, h5, h6⟩ := hw
  exact decide_eq_true ⟨by rw [nI_toInt (by omega)]; omega, by rw [nI_toInt (by omega)]; omega⟩
theorem p_sm (hw : pWd σ w cap cnt kk pp ee) (hi : i ≤ cnt) : i < 2000 + 1 := by
  obtain ⟨r, ka, pa, ea, -, -, -, -, h5, h6⟩ := hw
  omega
theorem p_kind (hp : pAt σ p w ps i bd) (hw : pWd σ w cap cnt kk pp ee) (hi : i ≤ cnt) : oF κ T (n + 1) 104 [va_rf (some p)] σ = some (some (.int (if bd < 0 then kk i else 0)), σ) := by
  have z1 := p_in hw hi
  have hs := p_sm hw hi
  obtain ⟨p1, p2, p3, p4, p5⟩ := hp
  obtain ⟨r, ka, pa, ea, w1, w2, w3, w4, -, -⟩ := hw
  rw [oE_X7_kind]
  unfold ob_X7_kind
  rw [ofd_at p1, p5]
  simp only [ovi, obn]
  by_cases c : bd < 0
  · rw [if_pos c, if_pos c]
    simp only [ofd_at p1, p3, p4, ovr, ovi, obn, ofd_at w1, List.getElem?_cons_succ, List.getElem?_cons_zero, oai_at w2 z1, nI_clamp (show i < 2 ^ 31 by omega)]
  · rw [if_neg c, if_neg c]
theorem p_here (hp : pAt σ p w ps i bd) (hw : pWd σ w cap cnt kk pp ee) (hi : i ≤ cnt) : oF κ T (n + 1) 106 [va_rf (some p)] σ = some (some (.int (pp i)), σ) := by
  have z1 := p_in hw hi
  have hs := p_sm hw hi
  obtain ⟨p1, p2, p3, p4, p5⟩ := hp
  obtain ⟨r, ka, pa, ea, w1, w2, w3, w4, -, -⟩ := hw
  rw [oE_X7_here]
  unfold ob_X7_here
  simp only [ofd_at p1, p3, p4, ovr, ovi, obn, ofd_at w1, List.getElem?_cons_succ, List.getElem?_cons_zero, oai_at w3 z1, nI_clamp (show i < 2 ^ 31 by omega)]
theorem p_next (hp : pAt σ p w ps i bd) (hw : pWd σ w cap cnt kk pp ee) (hi : i ≤ cnt) : oF κ T (n + 1) 105 [va_rf (some p)] σ = some (none, if i < cnt then oput σ p (.inr (9, ps.set 11 (.int (nI (i + 1))))) else σ) := by
  have hs := p_sm hw hi
  have hc := p_sm hw (Nat.le_refl cnt)
  obtain ⟨p1, p2, p3, p4, p5⟩ := hp
  obtain ⟨r, ka, pa, ea, w1, w2, w3, w4, -, -⟩ := hw
  rw [oE_X7_next]
  unfold ob_X7_next
  simp only [ofd_at p1, p3, p4, ovr, ovi, obn, ofd_at w1, List.getElem?_cons_succ, List.getElem?_cons_zero]
  by_cases c : i < cnt
  · rw [if_neg (nI_ge c (by omega)), if_pos c, opf_at p1 (by omega), nI_1]
  · rw [if_pos (nI_le (by omega) (by omega)), if_neg c]
theorem p_fail (hp : pAt σ p w ps i bd) (hw : pWd σ w cap cnt kk pp ee) (hi : i ≤ cnt) : oF κ T (n + 2) 107 [va_rf (some p)] σ = some (none, if 0 ≤ bd then σ else oput σ p (.inr (9, ps.set 15 (.int (pp i))))) := by
  have hh := p_here (κ := κ) (T := T) (n := n) hp hw hi
  obtain ⟨p1, p2, p3, p4, p5⟩ := hp
  rw [oE_X7_fail]
  unfold ob_X7_fail
  rw [ofd_at p1, p5]
  simp only [ovi, obn]
  by_cases c : 0 ≤ bd
  · rw [if_pos c, if_pos c]
  · rw [if_neg c, if_neg c]
    simp only [oob_at p1, hh, oin, opf_at p1 (show 15 < ps.length by omega)]
/-- the state behind expect(k) -/
def pEx (σ : oSt) (p : Nat) (ps : List Value) (i cnt : Nat) (kk pp : Nat → Int32) (bd k : Int32) : oSt := if (if bd < 0 then kk i else 0) = k then (if i < cnt then oput σ p (.inr (9, ps.set 11 (.int (nI (i + 1))))) else σ) else (if 0 ≤ bd then σ else oput σ p (.inr (9, ps.set 15 (.int (pp i)))))
theorem p_expect {k : Int32} (hp : pAt σ p w ps i bd) (hw : pWd σ w cap cnt kk pp ee) (hi : i ≤ cnt) : oF κ T (n + 3) 108 [va_rf (some p), .int k] σ = some (none, pEx σ p ps i cnt kk pp bd k) := by
  have h1 := p_kind (κ := κ) (T := T) (n := n + 1) hp hw hi
  have h2 := p_next (κ := κ) (T := T) (n := n + 1) hp hw hi
  have h3 := p_fail (κ := κ) (T := T) (n := n) hp hw hi
  rw [oE_X7_expect]
  unfold ob_X7_expect pEx
  simp only [oob_at hp.1, obn, h1, oin]
  by_cases c : (if bd < 0 then kk i else 0) = k
  · rw [if_pos c, if_pos c]
    simp only [h2, ocv]
  · rw [if_neg c, if_neg c]
    simp only [h3, ocv]
end OPK
