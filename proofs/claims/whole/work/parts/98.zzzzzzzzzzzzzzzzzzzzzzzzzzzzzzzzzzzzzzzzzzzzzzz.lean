/-! ROOM: calls, E's that end a text, TEMPLATES and arrows of a PROGRAM -/
section TXN
variable {T len cnt j N S P A x0 : Nat} {kk pp ee f fc : Nat → Int32} {xs : List tQ} {is : List (Nat × Nat)} {e : tT} {α : Nat → tY} {τ : zSt} {g' : gG} {ρ' : Nat → tY}
theorem tx_cN (hT : 2010 ≤ T) (hp : pgT T len cnt j kk pp ee f fc xs is e α) (hR : pgR T len cnt kk pp ee f xs is e α N S P A x0 g' ρ' τ) : (cvC f pp ee (pTN f pp ee is e α) e (is.map Prod.fst)).length ≤ lfN e + 1 ∧ lfN e + rcN e ≤ (tLs (pTE f pp ee is e α) (pTN f pp ee is e α) e).length ∧ tlN (tLs (pTE f pp ee is e α) (pTN f pp ee is e α) e) + (tLs (pTE f pp ee is e α) (pTN f pp ee is e α) e).length ≤ 60 := by
  have h1 := tx_lv hp
  obtain ⟨⟨-, -, -, -, -, f3, -⟩, -⟩ := tx_1 hT hp hR.2.1
  obtain ⟨-, -, -, -, -, ⟨⟨g1, g2, ⟨i0, g3⟩, -⟩, -⟩, -⟩ := hp
  obtain ⟨⟨a1, a2⟩, -⟩ := cv_lf (f := f) (pp := pp) (ee := ee) (tE := pTE f pp ee is e α) (tN := pTN f pp ee is e α) e f3 0 g2 (is.map Prod.fst)
  rw [if_pos rfl] at a1
  exact ⟨a1, a2, Nat.le_trans (tlN_lv _) h1⟩
end TXN
