/-! ROOM: cells of TEMPLATES and their own FITS -/
theorem yAr_0 {u v} {a b : tY} : yAr (.inner 0 u v a b) = 1 + yAr a + yAr b := by
  by_cases m : gMs a = true
  · obtain ⟨-, e2, -⟩ := yCo_1 (u := u) (v := v) (b := b) m
    obtain ⟨-, a2, -⟩ := yCo_n (gMs_nk m)
    rw [e2, a2]
  · obtain ⟨-, e2, -⟩ := yCo_0 (u := u) (v := v) (b := b) m
    exact e2
theorem tCn_b (xs : List tQ) : ∀ y : tY, tCn xs y ≤ (7 + 6 * xs.length) * yAr y + (3 + 3 * xs.length)
  | .leaf => by
    show 1 ≤ _
    omega
  | .inner k u v a b => by
    have ia := tCn_b xs a
    have ib := tCn_b xs b
    unfold tCn
    by_cases c : k = 0
    · subst c
      rw [if_pos rfl, yAr_0, Nat.mul_add, Nat.mul_add, Nat.mul_one]
      omega
    · rw [if_neg c]
      split <;> omega
/-- cells of TEMPLATES and of FITS of their own, twice at most -/
def cTl (xs : List tQ) (l : List (Nat × tY × List Nat)) : Nat := (l.map (fun x => tCn xs x.2.1 + 2 * fCn (yRs x.2.2.length x.2.1))).sum
theorem cTl_ap (xs : List tQ) (l m : List (Nat × tY × List Nat)) : cTl xs (l ++ m) = cTl xs l + cTl xs m := by
  unfold cTl
  rw [List.map_append, List.sum_append]
theorem cTl_cn (xs : List tQ) (x : Nat × tY × List Nat) (l : List (Nat × tY × List Nat)) : cTl xs (x :: l) = tCn xs x.2.1 + 2 * fCn (yRs x.2.2.length x.2.1) + cTl xs l := by
  unfold cTl
  rw [List.map_cons, List.sum_cons]
/-- arrows of TEMPLATES behind their parameters that have NAMES -/
def tlO2 (l : List (Nat × tY × List Nat)) : Nat := (l.map (fun x => yAr (yRs x.2.2.length x.2.1))).sum
theorem tlO2_cn (x : Nat × tY × List Nat) (l : List (Nat × tY × List Nat)) : tlO2 (x :: l) = yAr (yRs x.2.2.length x.2.1) + tlO2 l := by
  unfold tlO2
  rw [List.map_cons, List.sum_cons]
theorem cTl_b (xs : List tQ) : ∀ l : List (Nat × tY × List Nat), cTl xs l ≤ (7 + 6 * xs.length) * tlN l + 26 * tlO2 l + (3 + 3 * xs.length) * l.length
  | [] => Nat.zero_le _
  | x :: l => by
    have I := cTl_b xs l
    have h := tCn_b xs x.2.1
    have h2 := fCn_A (yRs x.2.2.length x.2.1)
    rw [cTl_cn, tlN_cn, tlO2_cn, List.length_cons, Nat.mul_add, Nat.mul_add, Nat.mul_add, Nat.mul_one]
    omega
theorem yRs_0 (Y : tY) : yRs 0 Y = Y := rfl
theorem yRs_1 (Y : tY) : yRs 1 Y = yR Y := rfl
section CXT
variable {kk f pp ee : Nat → Int32} {cnt : Nat} {tE tN : Nat → tY} {xs : List tQ}
set_option maxHeartbeats 4000000 in
theorem cXo_t : ∀ (t : tT), ∀ l, tWf kk cnt t l → ∀ env y, gOk f pp ee tE tN t env y → cXo xs tE tN t ≤ cTl xs (tLs tE tN t)
  | .leaf, l, h, env, y, _ => Nat.zero_le _
  | .inner g d u a b, l, h, env, y, ok => by
    rcases h with ⟨rfl, rfl, -, ha, hb⟩ | ⟨rfl, -, hb, h⟩ | ⟨rfl, h⟩
    · obtain ⟨o1, o2⟩ : gOk f pp ee tE tN a env y ∧ gOk f pp ee tE tN b env y := ok
      have ia := cXo_t a 0 ha env y o1
      have ib := cXo_t b 0 hb env y o2
      show cXo xs tE tN a + cXo xs tE tN b ≤ cTl xs (tLs tE tN a ++ tLs tE tN b)
      rw [cTl_ap]
      omega
    · rcases h with ⟨rfl, -, -⟩ | ⟨rfl, -, ha⟩ | ⟨rfl, -, -, -⟩
      · obtain ⟨o1, -, o2⟩ : yIs y ∧ (yL y = gSk f pp ee tN env d.2.2.2.1.2 ∧ (d.2.1 = 1 ∨ isN d.2.2.2.1.2 = false → gSo f pp ee tN env d.2.2.2.1.2)) ∧ gOk f pp ee tE tN b env (yR y) := ok
        exact cXo_t b 2 hb env (yR y) o2
      · obtain ⟨o1, o3, o2⟩ : yIs y ∧ gOk f pp ee tE tN a env (yL y) ∧ gOk f pp ee tE tN b env (yR y) := ok
        have ia := cXo_t a 0 ha env (yL y) o3
        have ib := cXo_t b 2 hb env (yR y) o2
        show cXo xs tE tN a + cXo xs tE tN b ≤ cTl xs (tLs tE tN a ++ tLs tE tN b)
        rw [cTl_ap]
        omega
      · obtain ⟨o1, -, o2⟩ : yIs y ∧ yL y = yB 1 ∧ gOk f pp ee tE tN b env (yR y) := ok
        exact cXo_t b 2 hb env (yR y) o2
    · rcases h with ⟨rfl, -, ha, hb⟩ | ⟨rfl, -, ha, hb⟩ | ⟨rfl, -, ha⟩ | ⟨rfl, -, hb⟩ | ⟨rfl, -, hb⟩ | ⟨rfl, -, -, ha⟩ | ⟨rfl | rfl, -⟩ | ⟨rfl | rfl | rfl, -⟩ | ⟨rfl | rfl | rfl, -⟩ | ⟨rfl, -⟩ | ⟨rfl, -, ha⟩ | ⟨rfl, -, ha, -⟩ | ⟨rfl, -⟩ | ⟨rfl, -, ha, hb⟩
      · obtain ⟨-, o1, o2⟩ : tE d.1 = y ∧ gOk f pp ee tE tN a env (tN (d.1 + 1)) ∧ gOk f pp ee tE tN b (env ++ [d.1 + 1]) y := ok
        have ia := cXo_t a 0 ha env _ o1
        have ib := cXo_t b 0 hb _ y o2
        show tCn xs (tE d.1) + fCn (tE d.1) + (cXo xs tE tN a + cXo xs tE tN b) ≤ cTl xs ((2 * d.1, tE d.1, []) :: (tLs tE tN a ++ tLs tE tN b))
        rw [cTl_cn, cTl_ap]
        simp only [List.length_nil, yRs_0]
        omega
      · obtain ⟨-, ⟨r, o0, o1⟩, o2⟩ : tE d.1 = y ∧ (∃ r, tN (d.1 + 2) = gFn tN d.2.1 (d.1 + 3) r ∧ gOk f pp ee tE tN a (env ++ ([d.1 + 2] ++ List.range' (d.1 + 3) d.2.1)) r) ∧ gOk f pp ee tE tN b (env ++ [d.1 + 2]) y := ok
        have er : yRs d.2.1 (tN (d.1 + 2)) = r := by rw [o0, yRs_fn]
        have ia := cXo_t a 0 ha _ r o1
        have ib := cXo_t b 0 hb _ y o2
        show tCn xs (tN (d.1 + 2)) + fCn (yRs d.2.1 (tN (d.1 + 2))) + tCn xs (tE d.1) + fCn (tE d.1) + (cXo xs tE tN a + cXo xs tE tN b) ≤ cTl xs ((2 * d.1, tE d.1, []) :: (2 * d.1 + 1, tN (d.1 + 2), List.range' (d.1 + 3) d.2.1) :: (tLs tE tN a ++ tLs tE tN b))
        rw [cTl_cn, cTl_cn, cTl_ap, er]
        simp only [List.length_nil, List.length_range', yRs_0]
        rw [er]
        omega
      · obtain ⟨oe, r, o0, o1⟩ : tE d.1 = y ∧ ∃ r, y = yA (tN (d.1 + 1)) r ∧ gOk f pp ee tE tN a (env ++ [d.1 + 1]) r := ok
        have er : yR (tE d.1) = r := by rw [oe, o0]; rfl
        have ia := cXo_t a 0 ha _ r o1
        show tCn xs (tE d.1) + fCn (yR (tE d.1)) + cXo xs tE tN a ≤ cTl xs ((2 * d.1, tE d.1, [d.1 + 1]) :: tLs tE tN a)
        rw [cTl_cn, er]
        simp only [List.length_cons, List.length_nil, Nat.zero_add, yRs_1]
        rw [er]
        omega
      · obtain ⟨oe, -, o2⟩ : tE d.1 = y ∧ gCk f pp ee tN env a ∧ gOk f pp ee tE tN b env y := ok
        have ib := cXo_t b 1 hb env y o2
        show tCn xs (tE d.1) + 2 * fCn (tE d.1) + cXo xs tE tN b ≤ cTl xs ((2 * d.1, tE d.1, []) :: tLs tE tN b)
        rw [cTl_cn]
        simp only [List.length_nil, yRs_0]
        omega
      · obtain ⟨-, o2⟩ : gCk f pp ee tN env a ∧ gOk f pp ee tE tN b env y := ok
        exact cXo_t b 0 hb env y o2
      · obtain ⟨-, -, o1⟩ : tN (gNu f pp ee env (d.1 + 1)) = yB 2 ∧ (gSo f pp ee tN env d.2.2.2.1.2 ∧ gSo f pp ee tN env d.2.2.2.2.2) ∧ gOk f pp ee tE tN a env y := ok
        exact cXo_t a 0 ha env y o1
      · exact Nat.zero_le _
      · exact Nat.zero_le _
      · exact Nat.zero_le _
      · exact Nat.zero_le _
      · exact Nat.zero_le _
      · exact Nat.zero_le _
      · exact Nat.zero_le _
      · exact Nat.zero_le _
      · exact Nat.zero_le _
      · obtain ⟨-, o1⟩ : y = yRs (tQn a) (tN (gNu f pp ee env d.1)) ∧ gOk f pp ee tE tN a env (tN (gNu f pp ee env d.1)) := ok
        exact cXo_t a 2 ha env _ o1
      · have o1 : gOk f pp ee tE tN a env y := ok
        exact cXo_t a 0 ha env y o1
      · exact Nat.zero_le _
      · obtain ⟨-, -, -, o1, o2⟩ : tE d.1 = y ∧ tN (gNu f pp ee env (d.1 + 1)) = yB 3 ∧ (tN d.2.1 = yB 0 ∧ tN (d.2.1 + 1) = yB 3) ∧ gOk f pp ee tE tN a env y ∧ gOk f pp ee tE tN b (env ++ [d.2.1, d.2.1 + 1]) y := ok
        have ia := cXo_t a 0 ha env y o1
        have ib := cXo_t b 0 hb _ y o2
        show tCn xs (tE d.1) + 2 * fCn (tE d.1) + (cXo xs tE tN a + cXo xs tE tN b) ≤ cTl xs ((2 * d.1, tE d.1, []) :: (tLs tE tN a ++ tLs tE tN b))
        rw [cTl_cn, cTl_ap]
        simp only [List.length_nil, yRs_0]
        omega
end CXT
