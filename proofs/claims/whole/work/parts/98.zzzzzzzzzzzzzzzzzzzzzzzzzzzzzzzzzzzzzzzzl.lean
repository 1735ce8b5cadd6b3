/-! CAPACITIES: well made types -/
/-- arrows and ends, nothing below an end -/
def yG : tY → Prop
  | .leaf => False
  | .inner k _ _ a b => if k = 0 then yG a ∧ yG b else a = .leaf ∧ b = .leaf
section YGG
theorem yG.b (k : Nat) : yG (yB k) := by
  unfold yG
  rw [if_neg (by omega)]
  exact ⟨rfl, rfl⟩
theorem gCo.yg {g : gG} {ρ : Nat → tY} (hK : gK g) (h : gCo g ρ) : ∀ (n c : Nat), c < g.n → yZ (ρ c) ≤ n → yG (ρ c)
  | 0, c, hc, hn => by
    rcases gCo.at hK h hc with ⟨-, e, -⟩ | ⟨-, e⟩
    · rw [e] at hn
      exact absurd hn (Nat.not_succ_le_zero _)
    · rw [e]; exact yG.b _
  | n + 1, c, hc, hn => by
    rcases gCo.at hK h hc with ⟨-, e, l1, l2⟩ | ⟨-, e⟩
    · rw [e] at hn ⊢
      have hn : yZ (ρ (g.L (gR g c))) + yZ (ρ (g.R (gR g c))) + 1 ≤ n + 1 := hn
      show (if (0 : Nat) = 0 then yG (ρ (g.L (gR g c))) ∧ yG (ρ (g.R (gR g c))) else _)
      rw [if_pos rfl]
      exact ⟨gCo.yg hK h n _ l1 (by omega), gCo.yg hK h n _ l2 (by omega)⟩
    · rw [e]; exact yG.b _
/-- right tails have no more leaves -/
theorem yG.r {y : tY} (h : yG y) : yLv (yR y) ≤ yLv y ∧ (yG (yR y) ∨ yR y = .leaf) := by
  cases y with
  | leaf => exact absurd h (fun z => z)
  | inner k u v a b =>
    by_cases h0 : k = 0
    · subst h0
      have h : yG a ∧ yG b := by
        unfold yG at h
        rw [if_pos rfl] at h
        exact h
      refine ⟨?_, Or.inl h.2⟩
      show yLv b ≤ yLv a + yLv b
      omega
    · unfold yG at h
      rw [if_neg h0] at h
      refine ⟨?_, Or.inr h.2⟩
      show yLv b ≤ yLv (.inner k u v a b)
      rw [h.2]
      exact yLv_pos _
theorem yRs_lf : ∀ q : Nat, yRs q (.leaf : tY) = .leaf
  | 0 => rfl
  | q + 1 => yRs_lf q
theorem yG.rs : ∀ (q : Nat) (y : tY), yG y → yLv (yRs q y) ≤ yLv y
  | 0, _, _ => Nat.le_refl _
  | q + 1, y, h => by
    obtain ⟨h1, h2⟩ := h.r
    rcases h2 with h2 | h2
    · exact Nat.le_trans (yG.rs q (yR y) h2) h1
    · show yLv (yRs q (yR y)) ≤ _
      rw [h2, yRs_lf]
      exact yLv_pos _
end YGG
section TXG
variable {T len cnt j N S P Q x0 : Nat} {kk pp ee f fc : Nat → Int32} {xs : List tQ} {is : List (Nat × Nat)} {e : tT} {α : Nat → tY} {g' : gG} {ρ' : Nat → tY} {τ : zSt}
/-- a PROGRAM's types are well made -/
theorem tx_yg (hp : pgT T len cnt j kk pp ee f fc xs is e α) (hR : pgR T len cnt kk pp ee f xs is e α N S P Q x0 g' ρ' τ) : (∀ u, u ∈ tTg e → yG (pTE f pp ee is e α u)) ∧ ∀ u, u ∈ is.map Prod.fst ++ tW e → yG (pTN f pp ee is e α u) := by
  obtain ⟨-, -, ⟨-, hK, hC, -⟩, r1, r2⟩ := hR
  obtain ⟨-, -, -, -, -, ⟨⟨-, wf, -⟩, gd, -⟩, -⟩ := hp
  refine ⟨fun u hu => ?_, fun u hu => ?_⟩
  · obtain ⟨p, p1, p2⟩ := nE_tg τ e 0 x0 0 wf gd u hu
    obtain ⟨c, -, c2, c3⟩ := r1 p p1 (by rw [p2]; exact hu)
    rw [p2] at c3
    have := gCo.yg hK hC _ c c2 (Nat.le_refl _)
    rw [c3] at this
    exact this
  · obtain ⟨i, hi⟩ := List.mem_iff_getElem?.mp hu
    obtain ⟨c, -, c2, c3⟩ := r2 i u hi
    have := gCo.yg hK hC _ c c2 (Nat.le_refl _)
    rw [c3] at this
    exact this
end TXG
