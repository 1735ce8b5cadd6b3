/-! the class's parser: beginsArgument, compare -/
/-- an ARG begins with it -/
def cBg (v : Int32) : Bool := decide (v = 2) || (decide (v = 1) || (decide (v = 40) || (decide (v = 223) || decide (v = 205))))
theorem c_begin {κ : oKv} {T n : Nat} {v : Int32} {σ : oSt} : oF κ T (n + 1) 130 [.int v] σ = some (some (.int (if cBg v = true then 1 else 0)), σ) := by
  rw [oE_X7_beginsArgument]
  unfold ob_X7_beginsArgument oj_X7_beginsArgument_30 cBg
  by_cases c1 : v = 2
  · rw [if_pos c1, decide_eq_true c1]; rfl
  · rw [if_neg c1, decide_eq_false c1]
    by_cases c2 : v = 1
    · rw [if_pos c2, decide_eq_true c2]; rfl
    · rw [if_neg c2, decide_eq_false c2]
      by_cases c3 : v = 40
      · rw [if_pos c3, decide_eq_true c3]; rfl
      · rw [if_neg c3, decide_eq_false c3]
        by_cases c4 : v = 223
        · rw [if_pos c4, decide_eq_true c4]; rfl
        · rw [if_neg c4, decide_eq_false c4]
          by_cases c5 : v = 205
          · rw [if_pos c5, decide_eq_true c5]; rfl
          · rw [if_neg c5, decide_eq_false c5]; rfl
theorem aAr_cb {kk : Nat → Int32} {i : Nat} : aAr kk i = cBg (kk i) := by
  show (decide (kk i = 1) || decide (kk i = 2) || decide (kk i = 40) || decide (kk i = 223) || decide (kk i = 205)) = (decide (kk i = 2) || (decide (kk i = 1) || (decide (kk i = 40) || (decide (kk i = 223) || decide (kk i = 205)))))
  cases decide (kk i = 1) <;> cases decide (kk i = 2) <;> cases decide (kk i = 40) <;> cases decide (kk i = 223) <;> cases decide (kk i = 205) <;> rfl
/-- a comparison with 0 that must be SO -/
def cEf (pl cd rl : Int32) (su : Value) : List Value := [.int 403, .int pl, .int cd, .int pl, .int 0, .int rl, .int 0, .int 0, .int 0, .null, .null, .null, .null, .null, .null, .null, .null, .null, .null, su, .null]
section CQK
variable {κ : oKv} {sz T n m len cnt : Nat} {kk pp ee f : Nat → Int32} {A : Nat → Nat} {nq ni : Int32} {rt : Value} {σ σ' : oSt} {D : cDt} {at' cd : Nat} {cn am bd nf ff : Int32}
/-- compare(sum, rel) -/
theorem c_cpr {su : Option Nat} {rl : Int32} (h : cV κ sz len cnt kk pp ee f A nq ni rt σ D at' cd cn am bd nf ff) (hm : 2 ≤ m) : ∃ σ', oF κ T (m + 1) 123 [va_rf (some (A 0)), va_rf su, .int rl] σ = some (some (va_rf (some σ.2.1)), σ') ∧ cV κ sz len cnt kk pp ee f A nq ni rt σ' D at' cd cn am bd nf ff ∧ cFr A σ D σ' D ∧ σ'.1 σ.2.1 = some (.inr (7, cEf (pp at') (nI cd) rl (va_rf su))) ∧ (∀ a, a ≠ σ.2.1 → σ'.1 a = σ.1 a) ∧ σ'.2 = (σ.2.1 + 1, σ.2.2.1 + 1, σ.2.2.2 + 21) := by
  obtain ⟨g1, v1, r1⟩ := c_node (κ := κ) (T := T) (n := m) (k := 403) h hm
  rw [oE_X7_compare]
  unfold ob_X7_compare
  rw [oob_at h.2.1, obn_at, g1, orn_at]
  have e1 : (onew σ (.inr (7, cNd 403 (pp at') (nI cd))) 21).1 σ.2.1 = some (.inr (7, cNd 403 (pp at') (nI cd))) := onew_eq _ _ _
  have k1 : ∀ a, a ≠ σ.2.1 → (onew σ (.inr (7, cNd 403 (pp at') (nI cd))) 21).1 a = σ.1 a := fun a ha => onew_ne ha
  have z1 : (onew σ (.inr (7, cNd 403 (pp at') (nI cd))) 21).2 = (σ.2.1 + 1, σ.2.2.1 + 1, σ.2.2.2 + 21) := rfl
  generalize onew σ (.inr (7, cNd 403 (pp at') (nI cd))) 21 = σ1 at v1 r1 e1 k1 z1 ⊢
  rw [opf_at e1 (show 19 < 21 by decide), obn_at, opf_at (oput_eq _ _ _) (show 5 < 21 by decide), obn_at, oput_oput]
  have v2 := v1.fl (fs' := cEf (pp at') (nI cd) rl (va_rf su)) e1 (by omega)
  have z11 : σ1.2.1 = σ.2.1 + 1 := by rw [z1]
  refine ⟨oput σ1 σ.2.1 (.inr (7, cEf (pp at') (nI cd) rl (va_rf su))), rfl, v2, ⟨?_, fun a ha hmu => ?_, Or.inl rfl, Or.inl rfl⟩, oput_eq _ _ _, fun a ha => ?_, z1⟩
  · show σ.2.1 ≤ σ1.2.1; omega
  · rw [oput_ne (by omega), k1 a (by omega)]
  · rw [oput_ne ha, k1 a ha]
end CQK
