/-! CAPACITIES: CASES, NAMES that are made, conditions -/
/-- what TEMPLATES take of a row that they alone fill -/
def tSq (k : Nat) (l : List (Nat × tY × List Nat)) : Nat := (l.map (fun x => tpC [] x.2.1 0 x.2.2.length k)).sum
section GTQ
variable {f pp ee : Nat → Int32} {tE tN : Nat → tY} {xs : List tQ} {kk : Nat → Int32} {cnt k : Nat}
theorem tSq_c (x : Nat × tY × List Nat) (l : List (Nat × tY × List Nat)) : tSq k (x :: l) = tpC [] x.2.1 0 x.2.2.length k + tSq k l := by
  unfold tSq
  rw [List.map_cons, List.sum_cons]
theorem tSq_a (l l' : List (Nat × tY × List Nat)) : tSq k (l ++ l') = tSq k l + tSq k l' := by
  unfold tSq
  rw [List.map_append, List.sum_append]
set_option maxHeartbeats 1000000 in
theorem gTc_q (hk : k = 98 ∨ k = 100) : ∀ (t : tT) (l : Nat), tWf kk cnt t l → ∀ env y c, gTc f pp ee tE tN xs t env y c k ≤ tSq k (tLs tE tN t)
  | .leaf, _, _, _, _, _ => Nat.zero_le _
  | .inner g d z a b, l, wf, env, y, c => by
    have Ia := gTc_q hk a
    have Ib := gTc_q hk b
    have fz : ∀ y, fitC y k = 0 := fun y => by rcases hk with r | r <;> rw [r] <;> rfl
    have pz : ∀ y, ptC y k = 0 := fun y => by rcases hk with r | r <;> rw [r] <;> rfl
    have ez : cE1 k = 0 := by rcases hk with r | r <;> rw [r] <;> rfl
    have c109 : ∀ n, cAt 109 n k = 0 := fun n => cAt_ne (by omega)
    have c110 : ∀ n, cAt 110 n k = 0 := fun n => cAt_ne (by omega)
    have c123 : ∀ n, cAt 123 n k = 0 := fun n => cAt_ne (by omega)
    have c85 : ∀ n, cAt 85 n k = 0 := fun n => cAt_ne (by omega)
    have tq : ∀ y c q, tpC xs y c q k = tpC [] y 0 q k := fun y c q => by rcases hk with r | r <;> rw [r] <;> rfl
    rcases wf with ⟨rfl, rfl, _, wa, wb⟩ | ⟨rfl, _, wb, w⟩ | ⟨_, w⟩
    · have i1 := Ia 0 wa env y c
      have i2 := Ib 0 wb env y c
      show gTc f pp ee tE tN xs a env y c k + fitC y k + gTc f pp ee tE tN xs b env y c k + fitC y k ≤ tSq k (tLs tE tN a ++ tLs tE tN b)
      rw [tSq_a, fz]
      omega
    · rcases w with ⟨rfl, _, ha⟩ | ⟨rfl, _, wa⟩ | ⟨rfl, _, ha, _⟩
      · have i2 := Ib 2 wb env (yR y) c
        show cE1 k + fitC (yL y) k + ptC (yR y) k + gTc f pp ee tE tN xs b env (yR y) c k ≤ tSq k (tLs tE tN b)
        rw [fz, pz, ez]
        omega
      · have i1 := Ia 0 wa env y c
        have i2 := Ib 2 wb env (yR y) c
        show gTc f pp ee tE tN xs a env y c k + fitC (yL y) k + gTc f pp ee tE tN xs b env (yR y) c k ≤ tSq k (tLs tE tN a ++ tLs tE tN b)
        rw [tSq_a, fz]
        omega
      · have i2 := Ib 2 wb env (yR y) c
        show cE1 k + gTc f pp ee tE tN xs b env (yR y) c k ≤ tSq k (tLs tE tN b)
        rw [ez]
        omega
    · rcases w with ⟨rfl, _, wa, wb⟩ | ⟨rfl, ⟨w1, w2, _⟩, wa, wb⟩ | ⟨rfl, _, wa⟩ | ⟨rfl, wc, wb⟩ | ⟨rfl, wc, wb⟩ | ⟨rfl, _, _, wa⟩ | ⟨h7, _, _, hab⟩ | ⟨h7, _, hab⟩ | ⟨h7, _, hab⟩ | ⟨rfl, _⟩ | ⟨rfl, _, wa⟩ | ⟨rfl, _, wa, hb⟩ | ⟨rfl, _⟩ | ⟨rfl, _, wa, wb⟩
      · have i1 := Ia 0 wa env y c
        have i2 := Ib 0 wb (env ++ [d.1 + 1]) y (c + yM1 (tN (d.1 + 1)))
        show tpC xs (tE d.1) c 0 k + gTc f pp ee tE tN xs a env y c k + cAt 109 1 k + gTc f pp ee tE tN xs b (env ++ [d.1 + 1]) y (c + yM1 (tN (d.1 + 1))) k + fitC (tE d.1) k ≤ tSq k ((2 * d.1, tE d.1, []) :: (tLs tE tN a ++ tLs tE tN b))
        rw [tSq_c, tSq_a, fz, c109, tq]
        show _ ≤ tpC [] (tE d.1) 0 0 k + _
        omega
      · have i1 := Ia 0 wa (env ++ ([d.1 + 2] ++ List.range' (d.1 + 3) d.2.1)) y (c + yPm tN d.2.1 (d.1 + 3))
        have i2 := Ib 0 wb (env ++ [d.1 + 2]) y c
        show tpC xs (tE d.1) c 0 k + tpC xs (tN (d.1 + 2)) c d.2.1 k + cAt 109 (1 + d.2.1) k + gTc f pp ee tE tN xs a (env ++ ([d.1 + 2] ++ List.range' (d.1 + 3) d.2.1)) y (c + yPm tN d.2.1 (d.1 + 3)) k + fitC (yRs d.2.1 (tN (d.1 + 2))) k + gTc f pp ee tE tN xs b (env ++ [d.1 + 2]) y c k + fitC (tE d.1) k ≤ tSq k ((2 * d.1, tE d.1, []) :: (2 * d.1 + 1, tN (d.1 + 2), List.range' (d.1 + 3) d.2.1) :: (tLs tE tN a ++ tLs tE tN b))
        rw [tSq_c, tSq_c, tSq_a, fz, fz, c109, tq, tq (tN (d.1 + 2)) c d.2.1]
        show _ ≤ tpC [] (tE d.1) 0 0 k + (tpC [] (tN (d.1 + 2)) 0 (List.range' (d.1 + 3) d.2.1).length k + _)
        rw [List.length_range']
        omega
      · have i1 := Ia 0 wa (env ++ [d.1 + 1]) y (c + yM1 (tN (d.1 + 1)))
        show tpC xs (tE d.1) c 1 k + cAt 109 1 k + gTc f pp ee tE tN xs a (env ++ [d.1 + 1]) y (c + yM1 (tN (d.1 + 1))) k + fitC (yR (tE d.1)) k ≤ tSq k ((2 * d.1, tE d.1, [d.1 + 1]) :: tLs tE tN a)
        rw [tSq_c, fz, c109, tq]
        show _ ≤ tpC [] (tE d.1) 0 1 k + _
        omega
      · have i2 := Ib 1 wb env (tE d.1) c
        show tpC xs (tE d.1) c 0 k + cAt 110 2 k + gTc f pp ee tE tN xs b env (tE d.1) c k ≤ tSq k ((2 * d.1, tE d.1, []) :: tLs tE tN b)
        rw [tSq_c, c110, tq]
        show _ ≤ tpC [] (tE d.1) 0 0 k + _
        omega
      · have i2 := Ib 0 wb env y c
        show cAt 123 1 k + cAt 110 1 k + gTc f pp ee tE tN xs b env y c k ≤ tSq k (tLs tE tN b)
        rw [c110, c123]
        omega
      · have i2 := Ia 0 wa env y c
        show cAt 123 2 k + gTc f pp ee tE tN xs a env y c k ≤ tSq k (tLs tE tN a)
        rw [c123]
        omega
      · rcases h7 with rfl | rfl
        · show cAt 123 1 k + cE1 k ≤ _
          rw [c123, ez]
          exact Nat.zero_le _
        · show cE1 k ≤ _
          rw [ez]
          exact Nat.zero_le _
      · rcases h7 with rfl | rfl | rfl
        all_goals
          show cE1 k ≤ _
          rw [ez]
          exact Nat.zero_le _
      · rcases h7 with rfl | rfl | rfl
        all_goals
          show cAt 123 1 k + cE1 k + cAt 85 1 k ≤ _
          rw [c123, ez, c85]
          exact Nat.zero_le _
      · show cAt 123 2 k + cE1 k ≤ _
        rw [c123, ez]
        exact Nat.zero_le _
      · exact Ia 2 wa env (tN (gNu f pp ee env d.1)) c
      · exact Ia 0 wa env y c
      · show cE1 k ≤ _
        rw [ez]
        exact Nat.zero_le _
      · have i1 := Ia 0 wa env y c
        have i2 := Ib 0 wb (env ++ [d.2.1, d.2.1 + 1]) y (c + 2)
        show tpC xs (tE d.1) c 0 k + cAt 110 2 k + gTc f pp ee tE tN xs a env y c k + fitC (tE d.1) k + cAt 109 2 k + 2 * cE1 k + gTc f pp ee tE tN xs b (env ++ [d.2.1, d.2.1 + 1]) y (c + 2) k + fitC (tE d.1) k ≤ tSq k ((2 * d.1, tE d.1, []) :: (tLs tE tN a ++ tLs tE tN b))
        rw [tSq_c, tSq_a, c110, c109, ez, fz, tq]
        show _ ≤ tpC [] (tE d.1) 0 0 k + _
        omega
theorem yFz_lv : ∀ (y : tY) (q : Nat), yFz y q + 1 ≤ yLv y
  | .leaf, _ => Nat.le_refl _
  | .inner k u v a b, q => by
    have i1 := yFz_lv a 0
    have i2 := yFz_lv b (q - 1)
    unfold yFz yLv
    split
    · split <;> omega
    · omega
theorem tSq_lv (hk : k = 98 ∨ k = 100) : ∀ l : List (Nat × tY × List Nat), tSq k l ≤ tLv l
  | [] => Nat.zero_le _
  | x :: l => by
    have := tSq_lv hk l
    have h : tpC [] x.2.1 0 x.2.2.length k ≤ yLv x.2.1 := by
      rcases hk with r | r <;> rw [r]
      · exact yLs_lv _
      · have := yFz_lv x.2.1 x.2.2.length
        show yFz x.2.1 x.2.2.length ≤ _
        omega
    rw [tSq_c, tLv_c]
    omega
end GTQ
section TXQ
variable {T len cnt j N S P Q x0 : Nat} {kk pp ee f fc : Nat → Int32} {xs : List tQ} {is : List (Nat × Nat)} {e : tT} {α : Nat → tY}
/-- CASES and NAMES that are made -/
theorem tx_rq (hp : pgT T len cnt j kk pp ee f fc xs is e α) (yc : tY) (c k : Nat) (hk : k = 98 ∨ k = 100) : gTc f pp ee (pTE f pp ee is e α) (pTN f pp ee is e α) xs e (is.map Prod.fst) yc c k ≤ uLm k := by
  have lv := tx_lv hp
  obtain ⟨-, -, -, -, -, ⟨⟨-, wf, -⟩, -⟩, -⟩ := hp
  have h1 := gTc_q (f := f) (pp := pp) (ee := ee) (tE := pTE f pp ee is e α) (tN := pTN f pp ee is e α) (xs := xs) hk e 0 wf (is.map Prod.fst) yc c
  have h2 := tSq_lv hk (tLs (pTE f pp ee is e α) (pTN f pp ee is e α) e)
  have h3 : 60 ≤ uLm k := by rcases hk with r | r <;> rw [r] <;> decide
  omega
end TXQ
