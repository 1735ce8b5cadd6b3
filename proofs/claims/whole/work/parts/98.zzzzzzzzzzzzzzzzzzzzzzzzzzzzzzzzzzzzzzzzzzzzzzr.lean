/-! ROOM: cells that all calls' ARGS take -/
theorem kCm_b {W : Nat} : ∀ l : List (tY × Nat), (∀ c, c ∈ l → 0 < c.2 → fCn c.1 ≤ W) → kCm l ≤ W * l.length
  | [], _ => Nat.zero_le _
  | c :: l, h => by
    have I := kCm_b l (fun x hx => h x (List.mem_cons_of_mem _ hx))
    rw [kCm_cn, List.length_cons, Nat.mul_add, Nat.mul_one]
    by_cases e : c.2 = 0
    · rw [if_pos e]; omega
    · rw [if_neg e]
      have := h c (List.mem_cons_self ..) (by omega)
      omega
section TXK
variable {T len cnt j N S P A x0 : Nat} {kk pp ee f fc : Nat → Int32} {xs : List tQ} {is : List (Nat × Nat)} {e : tT} {α : Nat → tY} {τ : zSt} {g' : gG} {ρ' : Nat → tY}
/-- **what is called has no more arrows than all TEMPLATES** -/
theorem tx_cA {wt : Nat} (hT : 2010 ≤ T) (hp : pgT T len cnt j kk pp ee f fc xs is e α) (hR : pgR T len cnt kk pp ee f xs is e α N S P A x0 g' ρ' τ) : ∀ c, c ∈ cvE f pp ee wt (pTN f pp ee is e α) e (is.map Prod.fst) (fun _ => 0) → 0 < c.2.1 → yAr c.1 ≤ tlN (tLs (pTE f pp ee is e α) (pTN f pp ee is e α) e) := fun c hc h0 => by
  obtain ⟨H, -, -⟩ := tx_ch (wt := wt) hT hp hR.2.1
  obtain ⟨-, -, -, t10, t11, t12⟩ := tx_1 hT hp hR.2.1
  have gu := tx_gu hT hp hR
  obtain ⟨hk, hch⟩ := H c hc h0
  obtain ⟨x, hx, U, -, hU⟩ := ch_ex H (su_me (fun c : tY × Nat × Nat × Nat => yZ c.1) _) ((((cvE f pp ee wt (pTN f pp ee is e α) e (is.map Prod.fst) (fun _ => 0))).map (fun c : tY × Nat × Nat × Nat => yZ c.1)).sum + 1) c.1 c.2.2.1 hk (by omega) hch
  obtain ⟨e1, -⟩ := chR_to U _ _ _ _ hU
  obtain ⟨-, -, -, -, -, ⟨⟨g1, g2, ⟨i0, g3⟩, -⟩, -⟩, -⟩ := hp
  have h2 := gUi_A e 0 g2 (is.map Prod.fst) _ t12 x hx
  rw [e1]
  exact Nat.le_trans (yAr_R _ _ (Or.inl (gu x hx).1)) h2
theorem tx_kC (hT : 2010 ≤ T) (hp : pgT T len cnt j kk pp ee f fc xs is e α) (hR : pgR T len cnt kk pp ee f xs is e α N S P A x0 g' ρ' τ) : kCm (cvC f pp ee (pTN f pp ee is e α) e (is.map Prod.fst)) ≤ 17 * tlN (tLs (pTE f pp ee is e α) (pTN f pp ee is e α) e) * (cvC f pp ee (pTN f pp ee is e α) e (is.map Prod.fst)).length := kCm_b _ (fun c hc h0 => by
  rw [← cvE_c (wt := 0) e (is.map Prod.fst) (fun _ => 0)] at hc
  obtain ⟨x, hx, rfl⟩ := List.mem_map.mp hc
  have := tx_cA hT hp hR x hx h0
  rw [fCn_A]
  dsimp only
  omega)
end TXK
