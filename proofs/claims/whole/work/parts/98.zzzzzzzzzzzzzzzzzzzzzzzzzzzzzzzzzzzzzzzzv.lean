/-! CAPACITIES: needs that are gone through (row 123) -/
section AEN
variable {kk : Nat → Int32} {T cnt : Nat} {f pp ee : Nat → Int32} {tE tM : Nat → tY} {xs : List tQ}
theorem aE_nd0 (hz : ∀ i, cnt ≤ i → kk i = 0) (k i : Nat) (t : tT) (j : Nat) (h : aEi kk T (aSi kk T k) i = .inr (t, j)) : i < j := (aEi_rd (aSi_rd hz k) _ _ _ h).1
set_option maxHeartbeats 1000000 in
/-- no more needs than words -/
theorem aE_nd (hz : ∀ i, cnt ≤ i → kk i = 0) (k i : Nat) (t : tT) (j : Nat) (h : aE kk T k i = .inr (t, j)) : i < j ∧ ∀ env y c, gTc f pp ee tE tM xs t env y c 123 ≤ j - i := by
  refine aE_ind (P := fun k i t j => i < j ∧ ∀ env y c, gTc f pp ee tE tM xs t env y c 123 ≤ j - i) (Q := fun k q i t j => i ≤ j ∧ ∀ env y c, gTc f pp ee tE tM xs t env y c 123 ≤ j - i) ?_ ?_ ?_ ?_ ?_ ?_ ?_ ?_ ?_ ?_ ?_ ?_ ?_ ?_ ?_ ?_ ?_ ?_ ?_ ?_ k i t j h
  · rintro k i a l b j - - ⟨a0, a1⟩ - ⟨b0, b1⟩
    refine ⟨by omega, fun env y c => ?_⟩
    have i1 := a1 env y c
    have i2 := b1 (env ++ [i + 1]) y (c + yM1 (tM (i + 1)))
    show 0 + gTc f pp ee tE tM xs a env y c 123 + 0 + gTc f pp ee tE tM xs b (env ++ [i + 1]) y (c + yM1 (tM (i + 1))) 123 + 0 ≤ _
    omega
  · rintro k i q a l b j - - - - - - ⟨a0, a1⟩ - ⟨b0, b1⟩
    refine ⟨by omega, fun env y c => ?_⟩
    have i1 := a1 (env ++ ([i + 2] ++ List.range' (i + 3) q)) y (c + yPm tM q (i + 3))
    have i2 := b1 (env ++ [i + 2]) y c
    show 0 + 0 + 0 + gTc f pp ee tE tM xs a (env ++ ([i + 2] ++ List.range' (i + 3) q)) y (c + yPm tM q (i + 3)) 123 + 0 + gTc f pp ee tE tM xs b (env ++ [i + 2]) y c 123 + 0 ≤ _
    omega
  · rintro k i a j - - - ⟨a0, a1⟩
    refine ⟨by omega, fun env y c => ?_⟩
    have i1 := a1 (env ++ [i + 1]) y (c + yM1 (tM (i + 1)))
    show 0 + 0 + gTc f pp ee tE tM xs a (env ++ [i + 1]) y (c + yM1 (tM (i + 1))) 123 + 0 ≤ _
    omega
  · rintro k i c l a m b j - hc' - ⟨a0, a1⟩ - ⟨b0, b1⟩
    have e0 := aE_nd0 hz _ _ _ _ hc'
    refine ⟨by omega, fun env y c => ?_⟩
    have i1 := a1 env (tE i) c
    have i2 := b1 env (tE i) c
    show 0 + 0 + (gTc f pp ee tE tM xs a env (tE i) c 123 + 0 + gTc f pp ee tE tM xs b env (tE i) c 123 + 0) ≤ _
    omega
  · rintro k i c l a j - hc' - ⟨a0, a1⟩
    have e0 := aE_nd0 hz _ _ _ _ hc'
    refine ⟨by omega, fun env y c => ?_⟩
    have i1 := a1 env y c
    show 1 + 0 + gTc f pp ee tE tM xs a env y c 123 ≤ _
    omega
  · rintro k i S l S' m a j - - - hS - - hS' - ⟨a0, a1⟩
    obtain ⟨⟨-, f1⟩, -⟩ := aSm_fx hS
    obtain ⟨⟨-, g1⟩, -⟩ := aSm_fx hS'
    refine ⟨by omega, fun env y c => ?_⟩
    have i1 := a1 env y c
    show 2 + gTc f pp ee tE tM xs a env y c 123 ≤ _
    omega
  · rintro k i S j - hS
    obtain ⟨⟨-, f1⟩, -⟩ := aSm_fx hS
    refine ⟨by omega, fun env y c => ?_⟩
    show 1 + 0 ≤ _
    omega
  · rintro k i g hg
    refine ⟨by omega, fun env y c => ?_⟩
    rcases hg with ⟨-, rfl⟩ | ⟨-, rfl⟩ | ⟨-, rfl⟩
    all_goals exact Nat.zero_le _
  · rintro k i S j - hS
    obtain ⟨⟨-, f1⟩, -⟩ := aSm_fx hS
    exact ⟨by omega, fun env y c => Nat.zero_le _⟩
  · rintro k i g S l S' j hg hS hS'
    obtain ⟨⟨-, f1⟩, -⟩ := aSm_fx hS
    obtain ⟨⟨-, g1⟩, -⟩ := aSm_fx hS'
    refine ⟨by omega, fun env y c => ?_⟩
    rcases hg with ⟨-, rfl⟩ | ⟨-, rfl⟩ | ⟨-, rfl⟩
    all_goals
      show 1 + 0 + 0 ≤ _
      omega
  · rintro k i S l - - hS -
    obtain ⟨⟨-, f1⟩, -⟩ := aSm_fx hS
    refine ⟨by omega, fun env y c => ?_⟩
    show 2 + 0 ≤ _
    omega
  · rintro k i as j - har ⟨a0, a1⟩
    refine ⟨by omega, fun env y c => ?_⟩
    have i1 := a1 env (tM (gNu f pp ee env i)) c
    show gTc f pp ee tE tM xs as env (tM (gNu f pp ee env i)) c 123 ≤ _
    omega
  · rintro k i a l - ⟨a0, a1⟩ -
    refine ⟨by omega, fun env y c => ?_⟩
    have i1 := a1 env y c
    show gTc f pp ee tE tM xs a env y c 123 ≤ _
    omega
  · rintro k i S l - hS -
    obtain ⟨⟨-, f1⟩, -⟩ := aSm_fx hS
    exact ⟨by omega, fun env y c => Nat.zero_le _⟩
  · rintro k i a l b j - - ⟨a0, a1⟩ - - - - ⟨b0, b1⟩
    refine ⟨by omega, fun env y c => ?_⟩
    have i1 := a1 env y c
    have i2 := b1 (env ++ [l + 1, l + 1 + 1]) y (c + 2)
    show 0 + 0 + gTc f pp ee tE tM xs a env y c 123 + 0 + 0 + 2 * 0 + gTc f pp ee tE tM xs b (env ++ [l + 1, l + 1 + 1]) y (c + 2) 123 + 0 ≤ _
    omega
  · intro k q i ha
    exact ⟨Nat.le_refl _, fun env y c => Nat.zero_le _⟩
  · rintro k q i b j - - - ⟨b0, b1⟩
    refine ⟨by omega, fun env y c => ?_⟩
    have i2 := b1 env (yR y) c
    show 0 + 0 + 0 + gTc f pp ee tE tM xs b env (yR y) c 123 ≤ _
    omega
  · rintro k q i S l b j - - hS - ⟨b0, b1⟩
    obtain ⟨⟨-, f1⟩, -⟩ := aSm_fx hS
    refine ⟨by omega, fun env y c => ?_⟩
    have i2 := b1 env (yR y) c
    show 0 + 0 + 0 + gTc f pp ee tE tM xs b env (yR y) c 123 ≤ _
    omega
  · rintro k q i e l b j - - ⟨a0, a1⟩ - ⟨b0, b1⟩
    refine ⟨by omega, fun env y c => ?_⟩
    have i1 := a1 env y c
    have i2 := b1 env (yR y) c
    show gTc f pp ee tE tM xs e env y c 123 + 0 + gTc f pp ee tE tM xs b env (yR y) c 123 ≤ _
    omega
  · rintro k q i v b j - ⟨b0, b1⟩
    refine ⟨by omega, fun env y c => ?_⟩
    have i2 := b1 env (yR y) c
    show 0 + gTc f pp ee tE tM xs b env (yR y) c 123 ≤ _
    omega
end AEN
section TXN
variable {T len cnt j : Nat} {kk pp ee f fc : Nat → Int32} {xs : List tQ} {is : List (Nat × Nat)} {e : tT} {α : Nat → tY}
/-- needs -/
theorem tx_rn3 (hp : pgT T len cnt j kk pp ee f fc xs is e α) (yc : tY) (c : Nat) : gTc f pp ee (pTE f pp ee is e α) (pTN f pp ee is e α) xs e (is.map Prod.fst) yc c 123 ≤ 2000 := by
  obtain ⟨⟨p1, p1', p1''⟩, p2, p3, p4, ⟨p5, p5'⟩, -, p7, p8, -⟩ := hp
  obtain ⟨-, j', q3⟩ := aPr_d p2
  have h1 := (aE_nd (f := f) (pp := pp) (ee := ee) (tE := pTE f pp ee is e α) (tM := pTN f pp ee is e α) (xs := xs) p8 _ _ _ _ q3).2 (is.map Prod.fst) yc c
  omega
end TXN
