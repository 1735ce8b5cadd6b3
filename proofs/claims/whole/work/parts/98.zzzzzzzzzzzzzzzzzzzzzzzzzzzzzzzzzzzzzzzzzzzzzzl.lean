/-! ROOM: cells: letters, TEMPLATES, calls -/
/-- cells at each place, but for TEMPLATES and what FITS -/
def cXn : tT → Nat
  | .leaf => 0
  | .inner g d _ a b =>
    if g = 1 then 1 + (cXn a + cXn b) else
    if g = 2 then 1 + 4 * d.2.1 + (cXn a + cXn b) else
    if g = 3 then 4 + cXn a else
    if g = 4 then 2 + cXn b else
    if g = 5 then 1 + cXn b else
    if g = 6 ∨ g = 15 ∨ g = 16 then cXn a else
    if g = 7 ∨ g = 10 then 3 else
    if g = 8 ∨ g = 9 ∨ g = 12 ∨ g = 14 then 1 else
    if g = 11 ∨ g = 17 ∨ g = 18 ∨ g = 13 then 6 else
    if g = 19 then 11 + (cXn a + cXn b) else
    if g = 31 then cXn a + cXn b else
    if g = 33 then 9 + cXn b else
    if g = 34 then 6 + (cXn a + cXn b) else
    if g = 35 then 7 + cXn b else 0
section CXO
variable (xs : List tQ) (tE tN : Nat → tY)
/-- cells of TEMPLATES and their own FITS -/
def cXo : tT → Nat
  | .leaf => 0
  | .inner g d _ a b =>
    if g = 1 then tCn xs (tE d.1) + fCn (tE d.1) + (cXo a + cXo b) else
    if g = 2 then tCn xs (tN (d.1 + 2)) + fCn (yRs d.2.1 (tN (d.1 + 2))) + tCn xs (tE d.1) + fCn (tE d.1) + (cXo a + cXo b) else
    if g = 3 then tCn xs (tE d.1) + fCn (yR (tE d.1)) + cXo a else
    if g = 4 then tCn xs (tE d.1) + 2 * fCn (tE d.1) + cXo b else
    if g = 5 ∨ g = 33 ∨ g = 35 then cXo b else
    if g = 6 ∨ g = 15 ∨ g = 16 then cXo a else
    if g = 19 then tCn xs (tE d.1) + 2 * fCn (tE d.1) + (cXo a + cXo b) else
    if g = 31 ∨ g = 34 then cXo a + cXo b else 0
end CXO
/-- what a call's ARGS take -/
def kCa : Nat → tY → Nat
  | 0, _ => 0
  | a + 1, y => fCn (yL y) + kCa a (yR y)
/-- what calls' ARGS take, at most -/
def kCm (l : List (tY × Nat)) : Nat := (l.map (fun c => kCa c.2 c.1)).sum
theorem kCm_ap (a b : List (tY × Nat)) : kCm (a ++ b) = kCm a + kCm b := by
  unfold kCm
  rw [List.map_append, List.sum_append]
theorem kCm_cn (c : tY × Nat) (b : List (tY × Nat)) : kCm (c :: b) = kCa c.2 c.1 + kCm b := by
  unfold kCm
  rw [List.map_cons, List.sum_cons]
section CXS
variable {kk f pp ee : Nat → Int32} {cnt : Nat} {tE tN : Nat → tY} {xs : List tQ}
set_option maxHeartbeats 4000000 in
/-- **cells: letters, TEMPLATES, calls** -/
theorem cXw_s : ∀ (t : tT), ∀ l, tWf kk cnt t l → ∀ env y, gOk f pp ee tE tN t env y → cXw f pp ee tE tN xs t env y ≤ cXn t + cXo xs tE tN t + kCm (cvC f pp ee tN t env) + (if l = 0 then 0 else if l = 1 then 2 * fCn y else kCa (tQn t) y)
  | .leaf, l, h, env, y, _ => Nat.zero_le _
  | .inner g d u a b, l, h, env, y, ok => by
    rcases h with ⟨rfl, rfl, -, ha, hb⟩ | ⟨rfl, -, hb, h⟩ | ⟨rfl, h⟩
    · obtain ⟨o1, o2⟩ : gOk f pp ee tE tN a env y ∧ gOk f pp ee tE tN b env y := ok
      have ia := cXw_s a 0 ha env y o1
      have ib := cXw_s b 0 hb env y o2
      rw [if_pos rfl] at ia ib
      rw [if_neg (by decide), if_pos rfl]
      show cXw f pp ee tE tN xs a env y + fCn y + cXw f pp ee tE tN xs b env y + fCn y ≤ (cXn a + cXn b) + (cXo xs tE tN a + cXo xs tE tN b) + kCm (cvC f pp ee tN a env ++ cvC f pp ee tN b env) + 2 * fCn y
      rw [kCm_ap]
      omega
    · rw [if_neg (by decide), if_neg (by decide)]
      rcases h with ⟨rfl, -, -⟩ | ⟨rfl, -, ha⟩ | ⟨rfl, -, -, -⟩
      · obtain ⟨o1, -, o2⟩ : yIs y ∧ (yL y = gSk f pp ee tN env d.2.2.2.1.2 ∧ (d.2.1 = 1 ∨ isN d.2.2.2.1.2 = false → gSo f pp ee tN env d.2.2.2.1.2)) ∧ gOk f pp ee tE tN b env (yR y) := ok
        have ib := cXw_s b 2 hb env (yR y) o2
        rw [if_neg (by decide), if_neg (by decide)] at ib
        show 9 + fCn (yL y) + cXw f pp ee tE tN xs b env (yR y) ≤ (9 + cXn b) + cXo xs tE tN b + kCm (cvC f pp ee tN b env) + (fCn (yL y) + kCa (tQn b) (yR y))
        omega
      · obtain ⟨o1, o3, o2⟩ : yIs y ∧ gOk f pp ee tE tN a env (yL y) ∧ gOk f pp ee tE tN b env (yR y) := ok
        have ia := cXw_s a 0 ha env (yL y) o3
        have ib := cXw_s b 2 hb env (yR y) o2
        rw [if_pos rfl] at ia
        rw [if_neg (by decide), if_neg (by decide)] at ib
        show cXw f pp ee tE tN xs a env (yL y) + 6 + fCn (yL y) + cXw f pp ee tE tN xs b env (yR y) ≤ (6 + (cXn a + cXn b)) + (cXo xs tE tN a + cXo xs tE tN b) + kCm (cvC f pp ee tN a env ++ cvC f pp ee tN b env) + (fCn (yL y) + kCa (tQn b) (yR y))
        rw [kCm_ap]
        omega
      · obtain ⟨o1, -, o2⟩ : yIs y ∧ yL y = yB 1 ∧ gOk f pp ee tE tN b env (yR y) := ok
        have ib := cXw_s b 2 hb env (yR y) o2
        rw [if_neg (by decide), if_neg (by decide)] at ib
        show 7 + cXw f pp ee tE tN xs b env (yR y) ≤ (7 + cXn b) + cXo xs tE tN b + kCm (cvC f pp ee tN b env) + (fCn (yL y) + kCa (tQn b) (yR y))
        omega
    · rw [if_pos rfl]
      rcases h with ⟨rfl, -, ha, hb⟩ | ⟨rfl, -, ha, hb⟩ | ⟨rfl, -, ha⟩ | ⟨rfl, -, hb⟩ | ⟨rfl, -, hb⟩ | ⟨rfl, -, -, ha⟩ | ⟨rfl | rfl, -⟩ | ⟨rfl | rfl | rfl, -⟩ | ⟨rfl | rfl | rfl, -⟩ | ⟨rfl, -⟩ | ⟨rfl, -, ha⟩ | ⟨rfl, -, ha, -⟩ | ⟨rfl, -⟩ | ⟨rfl, -, ha, hb⟩
      · obtain ⟨-, o1, o2⟩ : tE d.1 = y ∧ gOk f pp ee tE tN a env (tN (d.1 + 1)) ∧ gOk f pp ee tE tN b (env ++ [d.1 + 1]) y := ok
        have ia := cXw_s a 0 ha env _ o1
        have ib := cXw_s b 0 hb _ y o2
        rw [if_pos rfl] at ia ib
        show cXw f pp ee tE tN xs a env (tN (d.1 + 1)) + 1 + tCn xs (tE d.1) + cXw f pp ee tE tN xs b (env ++ [d.1 + 1]) y + fCn (tE d.1) ≤ (1 + (cXn a + cXn b)) + (tCn xs (tE d.1) + fCn (tE d.1) + (cXo xs tE tN a + cXo xs tE tN b)) + kCm (cvC f pp ee tN a env ++ cvC f pp ee tN b (env ++ [d.1 + 1])) + 0
        rw [kCm_ap]
        omega
      · obtain ⟨-, ⟨r, o0, o1⟩, o2⟩ : tE d.1 = y ∧ (∃ r, tN (d.1 + 2) = gFn tN d.2.1 (d.1 + 3) r ∧ gOk f pp ee tE tN a (env ++ ([d.1 + 2] ++ List.range' (d.1 + 3) d.2.1)) r) ∧ gOk f pp ee tE tN b (env ++ [d.1 + 2]) y := ok
        have er : yRs d.2.1 (tN (d.1 + 2)) = r := by rw [o0, yRs_fn]
        have ia := cXw_s a 0 ha _ r o1
        have ib := cXw_s b 0 hb _ y o2
        rw [if_pos rfl] at ia ib
        show tCn xs (tN (d.1 + 2)) + 1 + 4 * d.2.1 + cXw f pp ee tE tN xs a (env ++ ([d.1 + 2] ++ List.range' (d.1 + 3) d.2.1)) (yRs d.2.1 (tN (d.1 + 2))) + fCn (yRs d.2.1 (tN (d.1 + 2))) + tCn xs (tE d.1) + cXw f pp ee tE tN xs b (env ++ [d.1 + 2]) y + fCn (tE d.1) ≤ (1 + 4 * d.2.1 + (cXn a + cXn b)) + (tCn xs (tN (d.1 + 2)) + fCn (yRs d.2.1 (tN (d.1 + 2))) + tCn xs (tE d.1) + fCn (tE d.1) + (cXo xs tE tN a + cXo xs tE tN b)) + kCm (cvC f pp ee tN a (env ++ ([d.1 + 2] ++ List.range' (d.1 + 3) d.2.1)) ++ cvC f pp ee tN b (env ++ [d.1 + 2])) + 0
        rw [kCm_ap, er]
        omega
      · obtain ⟨oe, r, o0, o1⟩ : tE d.1 = y ∧ ∃ r, y = yA (tN (d.1 + 1)) r ∧ gOk f pp ee tE tN a (env ++ [d.1 + 1]) r := ok
        have er : yR (tE d.1) = r := by rw [oe, o0]; rfl
        have ia := cXw_s a 0 ha _ r o1
        rw [if_pos rfl] at ia
        show tCn xs (tE d.1) + 4 + cXw f pp ee tE tN xs a (env ++ [d.1 + 1]) (yR (tE d.1)) + fCn (yR (tE d.1)) ≤ (4 + cXn a) + (tCn xs (tE d.1) + fCn (yR (tE d.1)) + cXo xs tE tN a) + kCm (cvC f pp ee tN a (env ++ [d.1 + 1])) + 0
        rw [er]
        omega
      · obtain ⟨oe, -, o2⟩ : tE d.1 = y ∧ gCk f pp ee tN env a ∧ gOk f pp ee tE tN b env y := ok
        have ib := cXw_s b 1 hb env y o2
        rw [if_neg (by decide), if_pos rfl] at ib
        show tCn xs (tE d.1) + 2 + cXw f pp ee tE tN xs b env y ≤ (2 + cXn b) + (tCn xs (tE d.1) + 2 * fCn (tE d.1) + cXo xs tE tN b) + kCm (cvC f pp ee tN b env) + 0
        rw [oe]
        omega
      · obtain ⟨-, o2⟩ : gCk f pp ee tN env a ∧ gOk f pp ee tE tN b env y := ok
        have ib := cXw_s b 0 hb env y o2
        rw [if_pos rfl] at ib
        show 1 + cXw f pp ee tE tN xs b env y ≤ (1 + cXn b) + cXo xs tE tN b + kCm (cvC f pp ee tN b env) + 0
        omega
      · obtain ⟨-, -, o1⟩ : tN (gNu f pp ee env (d.1 + 1)) = yB 2 ∧ (gSo f pp ee tN env d.2.2.2.1.2 ∧ gSo f pp ee tN env d.2.2.2.2.2) ∧ gOk f pp ee tE tN a env y := ok
        have ia := cXw_s a 0 ha env y o1
        rw [if_pos rfl] at ia
        exact ia
      · first | exact Nat.le_refl 6 | exact Nat.le_refl 3 | exact Nat.le_refl 1
      · first | exact Nat.le_refl 6 | exact Nat.le_refl 3 | exact Nat.le_refl 1
      · first | exact Nat.le_refl 6 | exact Nat.le_refl 3 | exact Nat.le_refl 1
      · first | exact Nat.le_refl 6 | exact Nat.le_refl 3 | exact Nat.le_refl 1
      · first | exact Nat.le_refl 6 | exact Nat.le_refl 3 | exact Nat.le_refl 1
      · first | exact Nat.le_refl 6 | exact Nat.le_refl 3 | exact Nat.le_refl 1
      · first | exact Nat.le_refl 6 | exact Nat.le_refl 3 | exact Nat.le_refl 1
      · first | exact Nat.le_refl 6 | exact Nat.le_refl 3 | exact Nat.le_refl 1
      · first | exact Nat.le_refl 6 | exact Nat.le_refl 3 | exact Nat.le_refl 1
      · obtain ⟨-, o1⟩ : y = yRs (tQn a) (tN (gNu f pp ee env d.1)) ∧ gOk f pp ee tE tN a env (tN (gNu f pp ee env d.1)) := ok
        have ia := cXw_s a 2 ha env _ o1
        rw [if_neg (by decide), if_neg (by decide)] at ia
        show cXw f pp ee tE tN xs a env (tN (gNu f pp ee env d.1)) ≤ cXn a + cXo xs tE tN a + kCm ((tN (gNu f pp ee env d.1), tQn a) :: cvC f pp ee tN a env) + 0
        rw [kCm_cn]
        dsimp only
        omega
      · have o1 : gOk f pp ee tE tN a env y := ok
        have ia := cXw_s a 0 ha env y o1
        rw [if_pos rfl] at ia
        exact ia
      · first | exact Nat.le_refl 6 | exact Nat.le_refl 3 | exact Nat.le_refl 1
      · obtain ⟨-, -, -, o1, o2⟩ : tE d.1 = y ∧ tN (gNu f pp ee env (d.1 + 1)) = yB 3 ∧ (tN d.2.1 = yB 0 ∧ tN (d.2.1 + 1) = yB 3) ∧ gOk f pp ee tE tN a env y ∧ gOk f pp ee tE tN b (env ++ [d.2.1, d.2.1 + 1]) y := ok
        have ia := cXw_s a 0 ha env y o1
        have ib := cXw_s b 0 hb _ y o2
        rw [if_pos rfl] at ia ib
        show tCn xs (tE d.1) + 11 + cXw f pp ee tE tN xs a env y + fCn (tE d.1) + cXw f pp ee tE tN xs b (env ++ [d.2.1, d.2.1 + 1]) y + fCn (tE d.1) ≤ (11 + (cXn a + cXn b)) + (tCn xs (tE d.1) + 2 * fCn (tE d.1) + (cXo xs tE tN a + cXo xs tE tN b)) + kCm (cvC f pp ee tN a env ++ cvC f pp ee tN b (env ++ [d.2.1, d.2.1 + 1])) + 0
        rw [kCm_ap]
        omega
end CXS
