/-! ROOM: cells that all calls' ARGS take -/
/-- ARGS that are functions are within what is called -/
theorem kCa_A : ∀ (a : Nat) (y : tY), yG y ∨ y = .leaf → kCa a y ≤ 13 * (yAr y - 1)
  | 0, _, _ => Nat.zero_le _
  | a + 1, y, h => by
    show fCn (yL y) + kCa a (yR y) ≤ _
    rcases h with h | h
    · cases y with
      | leaf => cases h
      | inner k u v l r =>
        unfold yG at h
        by_cases c : k = 0
        · subst c
          rw [if_pos rfl] at h
          have I := kCa_A a r (Or.inl h.2)
          have F := fCn_A l
          rw [yAr_0]
          show fCn l + kCa a r ≤ _
          omega
        · rw [if_neg c] at h
          have I := kCa_A a r (Or.inr h.2)
          have e : l = .leaf := h.1
          have z : yAr r = 0 := by rw [h.2]; rfl
          show fCn l + kCa a r ≤ _
          rw [e]
          show 0 + kCa a r ≤ _
          omega
    · subst h
      have I := kCa_A a .leaf (Or.inr rfl)
      show 0 + kCa a .leaf ≤ _
      omega
section TXK
variable {T len cnt j N S P A x0 : Nat} {kk pp ee f fc : Nat → Int32} {xs : List tQ} {is : List (Nat × Nat)} {e : tT} {α : Nat → tY} {τ : zSt} {g' : gG} {ρ' : Nat → tY}
/-- **what is called has no more arrows than all TEMPLATES** -/
theorem tx_cA {wt : Nat} (hT : 2010 ≤ T) (hp : pgT T len cnt j kk pp ee f fc xs is e α) (hR : pgR T len cnt kk pp ee f xs is e α N S P A x0 g' ρ' τ) : ∀ c, c ∈ cvE f pp ee wt (pTN f pp ee is e α) e (is.map Prod.fst) (fun _ => 0) → 0 < c.2.1 → yAr c.1 ≤ tlN (tLs (pTE f pp ee is e α) (pTN f pp ee is e α) e) := fun c hc h0 => by
  obtain ⟨H, -, -⟩ := tx_ch (wt := wt) hT hp hR.2.1
  obtain ⟨-, -, -, t10, t11, t12⟩ := tx_1 hT hp hR.2.1
  have gu := tx_gu hT hp hR
  obtain ⟨hk, hch⟩ := H c hc h0
  obtain ⟨x, hx, U, -, hU⟩ := ch_ex H (su_me (fun c : tY × Nat × Nat × Nat => yZ c.1) _) ((((cvE f pp ee wt (pTN f pp ee is e α) e (is.map Prod.fst) (fun _ => 0))).map (fun c : tY × Nat × Nat × Nat => yZ c.1)).sum + 1) c.1 c.2.2.1 hk (by omega) hch
  obtain ⟨e1, -⟩ := chR_to U _ _ _ _ hU
  obtain ⟨-, -, -, -, -, ⟨⟨g1, g2, ⟨i0, g3⟩, -⟩, -⟩, -⟩ := hp
  have h2 := gUi_A e 0 g2 (is.map Prod.fst) _ t12 x hx
  rw [e1]
  exact Nat.le_trans (yAr_R _ _ (Or.inl (gu x hx).1)) h2
end TXK
