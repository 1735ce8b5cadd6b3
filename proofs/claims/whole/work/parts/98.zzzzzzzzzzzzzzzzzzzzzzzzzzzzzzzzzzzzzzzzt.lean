/-! CAPACITIES: conditions that are gone through -/
section GTH
variable {f pp ee : Nat → Int32} {tE tN : Nat → tY} {xs : List tQ} {kk : Nat → Int32} {cnt : Nat}
set_option maxHeartbeats 1000000 in
theorem gTc_g : ∀ (t : tT) (l : Nat), tWf kk cnt t l → ∀ i j, tRg t i j → ∀ env y c, gTc f pp ee tE tN xs t env y c 110 ≤ 2 * (j - i)
  | .leaf, _, _, _, _, _, _, _, _ => Nat.zero_le _
  | .inner g d z a b, l, wf, i, j, hr, env, y, c => by
    have Ia := gTc_g a
    have Ib := gTc_g b
    rcases wf with ⟨rfl, rfl, _, wa, wb⟩ | ⟨rfl, _, wb, w⟩ | ⟨_, w⟩
    · obtain ⟨k, ra, rb⟩ : ∃ k, tRg a i k ∧ tRg b k j := hr
      have i1 := Ia 0 wa i k ra env y c
      have i2 := Ib 0 wb k j rb env y c
      have l1 := ra.le
      have l2 := rb.le
      show gTc f pp ee tE tN xs a env y c 110 + 0 + gTc f pp ee tE tN xs b env y c 110 + 0 ≤ _
      omega
    · rcases w with ⟨rfl, _, ha⟩ | ⟨rfl, _, wa⟩ | ⟨rfl, _, ha, _⟩
      · obtain ⟨⟨r1, r2, -⟩, k, ⟨r3, -⟩, ra, rb⟩ := hr
        have i2 := Ib 2 wb k j rb env (yR y) c
        have l2 := rb.le
        show 0 + 0 + 0 + gTc f pp ee tE tN xs b env (yR y) c 110 ≤ _
        omega
      · obtain ⟨⟨r1, r2, -⟩, k, ⟨r3, -⟩, ra, rb⟩ := hr
        have ra : tRg a (d.1 + 1) k := ra
        have i1 := Ia 0 wa _ k ra env y c
        have i2 := Ib 2 wb k j rb env (yR y) c
        have l1 := ra.le
        have l2 := rb.le
        show gTc f pp ee tE tN xs a env y c 110 + 0 + gTc f pp ee tE tN xs b env (yR y) c 110 ≤ _
        omega
      · obtain ⟨⟨r1, r2, -⟩, k, ⟨r3, -⟩, ra, rb⟩ := hr
        have i2 := Ib 2 wb k j rb env (yR y) c
        have l2 := rb.le
        show 0 + gTc f pp ee tE tN xs b env (yR y) c 110 ≤ _
        omega
    · rcases w with ⟨rfl, _, wa, wb⟩ | ⟨rfl, ⟨w1, w2, _⟩, wa, wb⟩ | ⟨rfl, _, wa⟩ | ⟨rfl, wc, wb⟩ | ⟨rfl, wc, wb⟩ | ⟨rfl, _, _, wa⟩ | ⟨h7, _, _, hab⟩ | ⟨h7, _, hab⟩ | ⟨h7, _, hab⟩ | ⟨rfl, _⟩ | ⟨rfl, _, wa⟩ | ⟨rfl, _, wa, hb⟩ | ⟨rfl, _⟩ | ⟨rfl, _, wa, wb⟩
      · obtain ⟨⟨r1, r2, -⟩, k, ⟨r3, -⟩, ra, rb⟩ := hr
        have ra : tRg a (d.1 + 1) k := ra
        have i1 := Ia 0 wa _ k ra env y c
        have i2 := Ib 0 wb k j rb (env ++ [d.1 + 1]) y (c + yM1 (tN (d.1 + 1)))
        have l1 := ra.le
        have l2 := rb.le
        show 0 + gTc f pp ee tE tN xs a env y c 110 + 0 + gTc f pp ee tE tN xs b (env ++ [d.1 + 1]) y (c + yM1 (tN (d.1 + 1))) 110 + 0 ≤ _
        omega
      · obtain ⟨⟨r1, r2, -⟩, k, ⟨r3, -⟩, ra, rb⟩ := hr
        have ra : tRg a (d.1 + 1) k := ra
        have i1 := Ia 0 wa _ k ra (env ++ ([d.1 + 2] ++ List.range' (d.1 + 3) d.2.1)) y (c + yPm tN d.2.1 (d.1 + 3))
        have i2 := Ib 0 wb k j rb (env ++ [d.1 + 2]) y c
        have l1 := ra.le
        have l2 := rb.le
        show 0 + 0 + 0 + gTc f pp ee tE tN xs a (env ++ ([d.1 + 2] ++ List.range' (d.1 + 3) d.2.1)) y (c + yPm tN d.2.1 (d.1 + 3)) 110 + 0 + gTc f pp ee tE tN xs b (env ++ [d.1 + 2]) y c 110 + 0 ≤ _
        omega
      · obtain ⟨⟨r1, r2, -⟩, k, ⟨r3, -⟩, ra, rb⟩ := hr
        have ra : tRg a (d.1 + 1) k := ra
        have i1 := Ia 0 wa _ k ra (env ++ [d.1 + 1]) y (c + yM1 (tN (d.1 + 1)))
        have l1 := ra.le
        have l2 := rb.le
        show 0 + 0 + gTc f pp ee tE tN xs a (env ++ [d.1 + 1]) y (c + yM1 (tN (d.1 + 1))) 110 + 0 ≤ _
        omega
      · obtain ⟨⟨r1, r2, -⟩, k, ⟨r3, -⟩, -, rb⟩ := hr
        have i2 := Ib 1 wb k j rb env (tE d.1) c
        have l2 := rb.le
        show 0 + 2 + gTc f pp ee tE tN xs b env (tE d.1) c 110 ≤ _
        omega
      · obtain ⟨⟨r1, r2, -⟩, k, ⟨r3, -⟩, -, rb⟩ := hr
        have i2 := Ib 0 wb k j rb env y c
        have l2 := rb.le
        show 0 + 1 + gTc f pp ee tE tN xs b env y c 110 ≤ _
        omega
      · obtain ⟨⟨r1, r2, -⟩, k, ⟨r3, -⟩, ra, rb⟩ := hr
        have ra : tRg a (d.1 + 1) k := ra
        have i1 := Ia 0 wa _ k ra env y c
        have l1 := ra.le
        have l2 := rb.le
        show 0 + gTc f pp ee tE tN xs a env y c 110 ≤ _
        omega
      · rcases h7 with rfl | rfl <;> exact Nat.zero_le _
      · rcases h7 with rfl | rfl | rfl <;> exact Nat.zero_le _
      · rcases h7 with rfl | rfl | rfl <;> exact Nat.zero_le _
      · exact Nat.zero_le _
      · obtain ⟨⟨r1, r2, -⟩, k, ⟨r3, -⟩, ra, rb⟩ := hr
        have ra : tRg a (d.1 + 1) k := ra
        have i1 := Ia 2 wa _ k ra env (tN (gNu f pp ee env d.1)) c
        have l1 := ra.le
        have l2 := rb.le
        show gTc f pp ee tE tN xs a env (tN (gNu f pp ee env d.1)) c 110 ≤ _
        omega
      · obtain ⟨⟨r1, r2, -⟩, k, ⟨r3, -⟩, ra, rb⟩ := hr
        have ra : tRg a (d.1 + 1) k := ra
        have i1 := Ia 0 wa _ k ra env y c
        have l1 := ra.le
        have l2 := rb.le
        show gTc f pp ee tE tN xs a env y c 110 ≤ _
        omega
      · exact Nat.zero_le _
      · obtain ⟨⟨r1, r2, -⟩, k, ⟨r3, -⟩, ra, rb⟩ := hr
        have ra : tRg a (d.1 + 1) k := ra
        have i1 := Ia 0 wa _ k ra env y c
        have i2 := Ib 0 wb k j rb (env ++ [d.2.1, d.2.1 + 1]) y (c + 2)
        have l1 := ra.le
        have l2 := rb.le
        show 0 + 2 + gTc f pp ee tE tN xs a env y c 110 + 0 + 0 + 2 * 0 + gTc f pp ee tE tN xs b (env ++ [d.2.1, d.2.1 + 1]) y (c + 2) 110 + 0 ≤ _
        omega
end GTH
section TXH
variable {T len cnt j : Nat} {kk pp ee f fc : Nat → Int32} {xs : List tQ} {is : List (Nat × Nat)} {e : tT} {α : Nat → tY}
/-- conditions -/
theorem tx_rg (hp : pgT T len cnt j kk pp ee f fc xs is e α) (yc : tY) (c : Nat) : gTc f pp ee (pTE f pp ee is e α) (pTN f pp ee is e α) xs e (is.map Prod.fst) yc c 110 ≤ 4000 := by
  obtain ⟨⟨p1, p2, -⟩, -, -, -, -, ⟨⟨-, wf, ⟨i0, rg⟩, -⟩, -⟩, -⟩ := hp
  have h1 := gTc_g (f := f) (pp := pp) (ee := ee) (tE := pTE f pp ee is e α) (tN := pTN f pp ee is e α) (xs := xs) e 0 wf i0 cnt rg (is.map Prod.fst) yc c
  omega
end TXH
