/-! what the words of wLex are -/
/-- word j goes from a to its end, its kind is that of these letters -/
def wWell (T len : Nat) (g : Nat → Int32) (kk pp ee : Nat → Int32) (cnt : Nat) : Prop := ∀ j, j < cnt → ∃ a, a < len ∧ a < wEnd len g a ∧ wEnd len g a ≤ len ∧ pp j = nI a ∧ ee j = nI (wEnd len g a) ∧ kk j = wKind T len g a (wEnd len g a)
theorem wLex_ok (T len : Nat) (g : Nat → Int32) : ∀ (m i : Nat) (kk pp ee : Nat → Int32) (cnt : Nat), cnt ≤ i → i ≤ len → wWell T len g kk pp ee cnt → wWell T len g (wLex T len g m i kk pp ee cnt).1 (wLex T len g m i kk pp ee cnt).2.1 (wLex T len g m i kk pp ee cnt).2.2.1 (wLex T len g m i kk pp ee cnt).2.2.2.1 ∧ (wLex T len g m i kk pp ee cnt).2.2.2.1 ≤ len
  | 0, i, kk, pp, ee, cnt, h1, h2, h => by
    rw [wLex]
    exact ⟨h, by show cnt ≤ len; omega⟩
  | m + 1, i, kk, pp, ee, cnt, h1, h2, h => by
    rw [wLex]
    split
    next c1 =>
      split
      · exact wLex_ok T len g m (i + 1) _ _ _ _ (by omega) (by omega) h
      · split
        · exact wLex_ok T len g m (i + 1) _ _ _ _ (by omega) (by omega) h
        · split
          · exact ⟨h, by show cnt ≤ len; omega⟩
          next c2 =>
            have hwe := wEnd_le (g := g) c1
            refine wLex_ok T len g m (wEnd len g i) _ _ _ _ (by omega) hwe (fun j hj => ?_)
            by_cases c3 : j = cnt
            · subst c3
              exact ⟨i, c1, by omega, hwe, upd_at _ _ _, upd_at _ _ _, upd_at _ _ _⟩
            · obtain ⟨a, b1, b2, b3, b4, b5, b6⟩ := h j (by omega)
              refine ⟨a, b1, b2, b3, ?_, ?_, ?_⟩ <;> simp only [upd, if_neg c3] <;> assumption
    next => exact ⟨h, by show cnt ≤ len; omega⟩
theorem wLex_words (T len : Nat) (g kk pp ee : Nat → Int32) : wWell T len g (wLex T len g T 0 kk pp ee 0).1 (wLex T len g T 0 kk pp ee 0).2.1 (wLex T len g T 0 kk pp ee 0).2.2.1 (wLex T len g T 0 kk pp ee 0).2.2.2.1 ∧ (wLex T len g T 0 kk pp ee 0).2.2.2.1 ≤ len := wLex_ok T len g T 0 kk pp ee 0 (Nat.le_refl _) (Nat.zero_le _) (fun j hj => by omega)
