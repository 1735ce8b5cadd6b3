/-! ROOM: steps of what a call is told: few, or the TEMPLATES have its arrows twice -/
section RKP
variable {ρ : Nat → Nat × Nat} {tE tN : Nat → tY} {Un Ui : List ((Nat × Nat) × Nat)} {Ls W : List Nat} {l : List (Nat × tY × List Nat)} {L : List (tY × Nat × Nat × Nat)}
/-- **a left of a unit has at most 3 steps and as many as arrows are left when its own are taken twice** -/
theorem ch_rk {M : Nat} (h : tlH ρ tE tN Un Ls W l) (hU : ∀ x, x ∈ Ui → (∃ m, (x.1, m) ∈ Un) ∧ x.2 ≤ 3) (hc : ∀ c, c ∈ L → 0 < c.2.1 → yK c.1 = 1 ∧ chE tE tN Ui L c.1 c.2.2.1) (hM : ∀ c, c ∈ L → yZ c.1 ≤ M) {id0 : Nat × Nat} {m0 : Nat} (hu : (id0, m0) ∈ Un) {i : Nat} (hi : i < ySp (uY tE tN id0)) {y : tY} (ey : y = yL (yRs i (uY tE tN id0))) {r : Nat} (hk : yK y = 1) (hE : chE tE tN Ui L y r) : r ≤ 3 + (tlN l - 2 * yAr y) := by
  obtain ⟨x, hx, TT, -, ch⟩ := ch_ex hc hM (M + 1) y r hk (by omega) hE
  obtain ⟨eY, hr⟩ := chR_to _ _ _ _ _ ch
  obtain ⟨⟨m', hm'⟩, h3⟩ := hU x hx
  rcases Nat.eq_zero_or_pos (chN TT) with z | z
  · omega
  · have ya : yAr (yRs (chN TT) (uY tE tN x.1)) = yAr y := by rw [← eY]
    have la : yLa (uY tE tN id0) i = yAr y := by rw [ey]; rfl
    have C := (tl_cp h hu hm' (i := i) (b := chN TT) hi (by rw [← eY]; exact hk) (by rw [ya, la]; exact Nat.le_refl _) (fun x1 u hx1 e0 hu' e1 => by
      obtain ⟨x2, hx2, hid⟩ := h.wh hu
      have ux : uY tE tN id0 = x1.2.1 := by
        rcases hid with ⟨i1, i2⟩ | ⟨j0, u0, i1, i2⟩
        · rw [e0] at i1
          have i1 : x1.1 = x2.1 := by injection i1
          rw [tl_key h.2.1 hx1 hx2 i1]
          exact i2
        · rw [e0] at i2
          injection i2 with i2
          cases i2
      obtain ⟨n1, n2, -, -⟩ := h.nm (k := x1.1) (Y := x1.2.1) hx1 hu'
      have e2 : uY tE tN x.1 = y := by rw [e1, uY_p, ey, ux, n2]
      have lt := yZ_lt (Y := uY tE tN x.1) (k := chN TT) z (by rw [← eY]; exact hk)
      rw [← eY, e2] at lt
      exact Nat.lt_irrefl _ lt)).1
    rw [ya, la] at C
    omega
end RKP
section TXP
variable {T len cnt j N S P Q x0 : Nat} {kk pp ee f fc : Nat → Int32} {xs : List tQ} {is : List (Nat × Nat)} {e : tT} {α : Nat → tY} {g' : gG} {ρ' : Nat → tY} {τ : zSt}
theorem ySp_mx (tE tN : Nat → tY) (L : List ((Nat × Nat) × Nat)) : ∃ M, ∀ x, x ∈ L → ySp (uY tE tN x.1) ≤ M := by
  induction L with
  | nil => exact ⟨0, fun c h => by cases h⟩
  | cons c L ih =>
    obtain ⟨M, hM⟩ := ih
    refine ⟨max M (ySp (uY tE tN c.1)), fun d hd => ?_⟩
    rcases List.mem_cons.mp hd with e | e
    · rw [e]; omega
    · have := hM d e
      omega
/-- **calls' costs, by the steps that each of their ARGS' types can have** -/
theorem tx_pf {wt R : Nat} (hT : 2010 ≤ T) (hp : pgT T len cnt j kk pp ee f fc xs is e α) (hR : pgR T len cnt kk pp ee f xs is e α N S P Q x0 g' ρ' τ) (hS : ∀ x, x ∈ gUi e → ySp (uY (pTE f pp ee is e α) (pTN f pp ee is e α) x.1) ≤ R) : ∃ Pf : tY → Nat, (∀ id m i, (id, m) ∈ gUn (pTN f pp ee is e α) e (is.map Prod.fst) → i < ySp (uY (pTE f pp ee is e α) (pTN f pp ee is e α) id) → Pf (yL (yRs i (uY (pTE f pp ee is e α) (pTN f pp ee is e α) id))) ≤ 3 + (tlN (tLs (pTE f pp ee is e α) (pTN f pp ee is e α) e) - 2 * yLa (uY (pTE f pp ee is e α) (pTN f pp ee is e α) id) i)) ∧ (∀ y, Pf y ≤ R + 2) ∧ ∀ c, c ∈ cvE f pp ee wt (pTN f pp ee is e α) e (is.map Prod.fst) (fun _ => 0) → c.2.2.2 ≤ kB wt Pf c.2.1 c.1 c.2.2.1 := by
  obtain ⟨t1, -, t3⟩ := tx_ch (wt := wt) hT hp hR.2.1
  obtain ⟨-, K⟩ := tx_ck (wt := wt) hT hp hR hS
  have G := tx_gu hT hp hR
  obtain ⟨ρ, H⟩ := tx_tl hT hp hR
  have hU : ∀ x, x ∈ gUi e → ∃ m, (x.1, m) ∈ gUn (pTN f pp ee is e α) e (is.map Prod.fst) := fun x hx => gUi_n e (is.map Prod.fst) x hx
  revert t1 t3 K hU H G
  generalize cvE f pp ee wt (pTN f pp ee is e α) e (is.map Prod.fst) (fun _ => 0) = L
  generalize gUn (pTN f pp ee is e α) e (is.map Prod.fst) = Un
  generalize tLs (pTE f pp ee is e α) (pTN f pp ee is e α) e = l
  generalize pTE f pp ee is e α = tE
  generalize pTN f pp ee is e α = tN
  intro t1 t3 K G H hU
  obtain ⟨M, hM⟩ := cl_mx L
  refine ⟨fun y => if @decide (∃ id m i, (id, m) ∈ Un ∧ i < ySp (uY tE tN id) ∧ y = yL (yRs i (uY tE tN id))) (Classical.propDecidable _) = true then min (R + 2) (3 + (tlN l - 2 * yAr y)) else R + 2, fun id m i hu hi => ?_, fun y => ?_, t3 _ (fun y r hE hk => ?_)⟩
  · dsimp only
    rw [if_pos (@decide_eq_true _ (Classical.propDecidable _) ⟨id, m, i, hu, hi, rfl⟩)]
    exact Nat.min_le_right _ _
  · dsimp only
    split
    · exact Nat.min_le_left _ _
    · exact Nat.le_refl _
  · split
    · rename_i c
      obtain ⟨id, m, i, hu, hi, ey⟩ := @of_decide_eq_true _ (Classical.propDecidable _) c
      exact Nat.le_min.mpr ⟨K y r hE hk, ch_rk H (fun x hx => ⟨hU x hx, (G x hx).2⟩) t1 hM hu hi ey hk hE⟩
    · exact K y r hE hk
end TXP
