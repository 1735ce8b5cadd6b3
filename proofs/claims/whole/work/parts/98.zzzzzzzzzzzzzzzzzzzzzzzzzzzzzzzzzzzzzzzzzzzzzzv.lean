/-! ROOM: what must FIT: TEMPLATES, calls -/
section CFO
variable (tE tN : Nat → tY)
/-- TEMPLATES' own FITS -/
def cFo : tT → Nat
  | .leaf => 0
  | .inner g d _ a b =>
    if g = 1 then yFn (tE d.1) + (cFo a + cFo b) else
    if g = 2 then yFn (yRs d.2.1 (tN (d.1 + 2))) + yFn (tE d.1) + (cFo a + cFo b) else
    if g = 3 then yFn (yR (tE d.1)) + cFo a else
    if g = 4 then 2 * yFn (tE d.1) + cFo b else
    if g = 5 ∨ g = 33 ∨ g = 35 then cFo b else
    if g = 6 ∨ g = 15 ∨ g = 16 then cFo a else
    if g = 19 then 2 * yFn (tE d.1) + (cFo a + cFo b) else
    if g = 31 ∨ g = 34 then cFo a + cFo b else 0
end CFO
/-- what calls' ARGS take, at most -/
def kGm (l : List (tY × Nat)) : Nat := (l.map (fun c => if c.2 = 0 then 0 else yFn c.1)).sum
theorem kGm_ap (a b : List (tY × Nat)) : kGm (a ++ b) = kGm a + kGm b := by
  unfold kGm
  rw [List.map_append, List.sum_append]
theorem kGm_cn (c : tY × Nat) (b : List (tY × Nat)) : kGm (c :: b) = (if c.2 = 0 then 0 else yFn c.1) + kGm b := by
  unfold kGm
  rw [List.map_cons, List.sum_cons]
theorem yFn_yIs {y : tY} (h : yIs y) : yFn y = yFn (yL y) + yFn (yR y) := by
  obtain ⟨l, r, e⟩ := yK_1 (yIs_1 h)
  rw [e]
  rfl
section CFS
variable {kk f pp ee : Nat → Int32} {cnt : Nat} {tE tN : Nat → tY}
set_option maxHeartbeats 4000000 in
/-- **what must FIT: TEMPLATES, calls** -/
theorem cFw_s : ∀ (t : tT), ∀ l, tWf kk cnt t l → ∀ env y, gOk f pp ee tE tN t env y → cFw f pp ee tE tN t env y ≤ cFo tE tN t + kGm (cvC f pp ee tN t env) + (if l = 0 then 0 else if l = 1 then 2 * yFn y else if tQn t = 0 then 0 else yFn y)
  | .leaf, l, h, env, y, _ => Nat.zero_le _
  | .inner g d u a b, l, h, env, y, ok => by
    rcases h with ⟨rfl, rfl, -, ha, hb⟩ | ⟨rfl, -, hb, h⟩ | ⟨rfl, h⟩
    · obtain ⟨o1, o2⟩ : gOk f pp ee tE tN a env y ∧ gOk f pp ee tE tN b env y := ok
      have ia := cFw_s a 0 ha env y o1
      have ib := cFw_s b 0 hb env y o2
      rw [if_pos rfl] at ia ib
      rw [if_neg (by decide), if_pos rfl]
      show cFw f pp ee tE tN a env y + yFn y + cFw f pp ee tE tN b env y + yFn y ≤ (cFo tE tN a + cFo tE tN b) + kGm (cvC f pp ee tN a env ++ cvC f pp ee tN b env) + 2 * yFn y
      rw [kGm_ap]
      omega
    · have qd : ∀ (n m : Nat), (if n = 0 then 0 else m) ≤ m := fun n m => by split <;> omega
      rw [if_neg (by decide), if_neg (by decide), if_neg (show ¬ tQn (.inner g d u a b) = 0 from Nat.succ_ne_zero _)]
      rcases h with ⟨rfl, -, -⟩ | ⟨rfl, -, ha⟩ | ⟨rfl, -, -, -⟩
      · obtain ⟨o1, -, o2⟩ : yIs y ∧ (yL y = gSk f pp ee tN env d.2.2.2.1.2 ∧ (d.2.1 = 1 ∨ isN d.2.2.2.1.2 = false → gSo f pp ee tN env d.2.2.2.1.2)) ∧ gOk f pp ee tE tN b env (yR y) := ok
        have ib := cFw_s b 2 hb env (yR y) o2
        rw [if_neg (by decide), if_neg (by decide)] at ib
        have qb := qd (tQn b) (yFn (yR y))
        have F := yFn_yIs o1
        show yFn (yL y) + cFw f pp ee tE tN b env (yR y) ≤ cFo tE tN b + kGm (cvC f pp ee tN b env) + yFn y
        omega
      · obtain ⟨o1, o3, o2⟩ : yIs y ∧ gOk f pp ee tE tN a env (yL y) ∧ gOk f pp ee tE tN b env (yR y) := ok
        have ia := cFw_s a 0 ha env (yL y) o3
        have ib := cFw_s b 2 hb env (yR y) o2
        rw [if_pos rfl] at ia
        rw [if_neg (by decide), if_neg (by decide)] at ib
        have qb := qd (tQn b) (yFn (yR y))
        have F := yFn_yIs o1
        show cFw f pp ee tE tN a env (yL y) + yFn (yL y) + cFw f pp ee tE tN b env (yR y) ≤ (cFo tE tN a + cFo tE tN b) + kGm (cvC f pp ee tN a env ++ cvC f pp ee tN b env) + yFn y
        rw [kGm_ap]
        omega
      · obtain ⟨o1, -, o2⟩ : yIs y ∧ yL y = yB 1 ∧ gOk f pp ee tE tN b env (yR y) := ok
        have ib := cFw_s b 2 hb env (yR y) o2
        rw [if_neg (by decide), if_neg (by decide)] at ib
        have qb := qd (tQn b) (yFn (yR y))
        have F := yFn_yIs o1
        show cFw f pp ee tE tN b env (yR y) ≤ cFo tE tN b + kGm (cvC f pp ee tN b env) + yFn y
        omega
    · rw [if_pos rfl]
      rcases h with ⟨rfl, -, ha, hb⟩ | ⟨rfl, -, ha, hb⟩ | ⟨rfl, -, ha⟩ | ⟨rfl, -, hb⟩ | ⟨rfl, -, hb⟩ | ⟨rfl, -, -, ha⟩ | ⟨rfl | rfl, -⟩ | ⟨rfl | rfl | rfl, -⟩ | ⟨rfl | rfl | rfl, -⟩ | ⟨rfl, -⟩ | ⟨rfl, -, ha⟩ | ⟨rfl, -, ha, -⟩ | ⟨rfl, -⟩ | ⟨rfl, -, ha, hb⟩
      · obtain ⟨-, o1, o2⟩ : tE d.1 = y ∧ gOk f pp ee tE tN a env (tN (d.1 + 1)) ∧ gOk f pp ee tE tN b (env ++ [d.1 + 1]) y := ok
        have ia := cFw_s a 0 ha env _ o1
        have ib := cFw_s b 0 hb _ y o2
        rw [if_pos rfl] at ia ib
        show cFw f pp ee tE tN a env (tN (d.1 + 1)) + cFw f pp ee tE tN b (env ++ [d.1 + 1]) y + yFn (tE d.1) ≤ (yFn (tE d.1) + (cFo tE tN a + cFo tE tN b)) + kGm (cvC f pp ee tN a env ++ cvC f pp ee tN b (env ++ [d.1 + 1])) + 0
        rw [kGm_ap]
        omega
      · obtain ⟨-, ⟨r, o0, o1⟩, o2⟩ : tE d.1 = y ∧ (∃ r, tN (d.1 + 2) = gFn tN d.2.1 (d.1 + 3) r ∧ gOk f pp ee tE tN a (env ++ ([d.1 + 2] ++ List.range' (d.1 + 3) d.2.1)) r) ∧ gOk f pp ee tE tN b (env ++ [d.1 + 2]) y := ok
        have er : yRs d.2.1 (tN (d.1 + 2)) = r := by rw [o0, yRs_fn]
        have ia := cFw_s a 0 ha _ r o1
        have ib := cFw_s b 0 hb _ y o2
        rw [if_pos rfl] at ia ib
        show cFw f pp ee tE tN a (env ++ ([d.1 + 2] ++ List.range' (d.1 + 3) d.2.1)) (yRs d.2.1 (tN (d.1 + 2))) + yFn (yRs d.2.1 (tN (d.1 + 2))) + cFw f pp ee tE tN b (env ++ [d.1 + 2]) y + yFn (tE d.1) ≤ (yFn (yRs d.2.1 (tN (d.1 + 2))) + yFn (tE d.1) + (cFo tE tN a + cFo tE tN b)) + kGm (cvC f pp ee tN a (env ++ ([d.1 + 2] ++ List.range' (d.1 + 3) d.2.1)) ++ cvC f pp ee tN b (env ++ [d.1 + 2])) + 0
        rw [kGm_ap, er]
        omega
      · obtain ⟨oe, r, o0, o1⟩ : tE d.1 = y ∧ ∃ r, y = yA (tN (d.1 + 1)) r ∧ gOk f pp ee tE tN a (env ++ [d.1 + 1]) r := ok
        have er : yR (tE d.1) = r := by rw [oe, o0]; rfl
        have ia := cFw_s a 0 ha _ r o1
        rw [if_pos rfl] at ia
        show cFw f pp ee tE tN a (env ++ [d.1 + 1]) (yR (tE d.1)) + yFn (yR (tE d.1)) ≤ (yFn (yR (tE d.1)) + cFo tE tN a) + kGm (cvC f pp ee tN a (env ++ [d.1 + 1])) + 0
        rw [er]
        omega
      · obtain ⟨oe, -, o2⟩ : tE d.1 = y ∧ gCk f pp ee tN env a ∧ gOk f pp ee tE tN b env y := ok
        have ib := cFw_s b 1 hb env y o2
        rw [if_neg (by decide), if_pos rfl] at ib
        show cFw f pp ee tE tN b env y ≤ (2 * yFn (tE d.1) + cFo tE tN b) + kGm (cvC f pp ee tN b env) + 0
        rw [oe]
        omega
      · obtain ⟨-, o2⟩ : gCk f pp ee tN env a ∧ gOk f pp ee tE tN b env y := ok
        have ib := cFw_s b 0 hb env y o2
        rw [if_pos rfl] at ib
        show cFw f pp ee tE tN b env y ≤ cFo tE tN b + kGm (cvC f pp ee tN b env) + 0
        omega
      · obtain ⟨-, -, o1⟩ : tN (gNu f pp ee env (d.1 + 1)) = yB 2 ∧ (gSo f pp ee tN env d.2.2.2.1.2 ∧ gSo f pp ee tN env d.2.2.2.2.2) ∧ gOk f pp ee tE tN a env y := ok
        have ia := cFw_s a 0 ha env y o1
        rw [if_pos rfl] at ia
        exact ia
      · exact Nat.le_refl 0
      · exact Nat.le_refl 0
      · exact Nat.le_refl 0
      · exact Nat.le_refl 0
      · exact Nat.le_refl 0
      · exact Nat.le_refl 0
      · exact Nat.le_refl 0
      · exact Nat.le_refl 0
      · exact Nat.le_refl 0
      · obtain ⟨-, o1⟩ : y = yRs (tQn a) (tN (gNu f pp ee env d.1)) ∧ gOk f pp ee tE tN a env (tN (gNu f pp ee env d.1)) := ok
        have ia := cFw_s a 2 ha env _ o1
        rw [if_neg (by decide), if_neg (by decide)] at ia
        show cFw f pp ee tE tN a env (tN (gNu f pp ee env d.1)) ≤ cFo tE tN a + kGm ((tN (gNu f pp ee env d.1), tQn a) :: cvC f pp ee tN a env) + 0
        rw [kGm_cn]
        dsimp only
        omega
      · have o1 : gOk f pp ee tE tN a env y := ok
        have ia := cFw_s a 0 ha env y o1
        rw [if_pos rfl] at ia
        exact ia
      · exact Nat.le_refl 0
      · obtain ⟨-, -, -, o1, o2⟩ : tE d.1 = y ∧ tN (gNu f pp ee env (d.1 + 1)) = yB 3 ∧ (tN d.2.1 = yB 0 ∧ tN (d.2.1 + 1) = yB 3) ∧ gOk f pp ee tE tN a env y ∧ gOk f pp ee tE tN b (env ++ [d.2.1, d.2.1 + 1]) y := ok
        have ia := cFw_s a 0 ha env y o1
        have ib := cFw_s b 0 hb _ y o2
        rw [if_pos rfl] at ia ib
        show cFw f pp ee tE tN a env y + yFn (tE d.1) + cFw f pp ee tE tN b (env ++ [d.2.1, d.2.1 + 1]) y + yFn (tE d.1) ≤ (2 * yFn (tE d.1) + (cFo tE tN a + cFo tE tN b)) + kGm (cvC f pp ee tN a env ++ cvC f pp ee tN b (env ++ [d.2.1, d.2.1 + 1])) + 0
        rw [kGm_ap]
        omega
end CFS
/-- FITS of TEMPLATES' own, twice at most -/
def cTg (l : List (Nat × tY × List Nat)) : Nat := (l.map (fun x => 2 * yFn x.2.1)).sum
theorem cTg_ap (l m : List (Nat × tY × List Nat)) : cTg (l ++ m) = cTg l + cTg m := by
  unfold cTg
  rw [List.map_append, List.sum_append]
theorem cTg_cn (x : Nat × tY × List Nat) (l : List (Nat × tY × List Nat)) : cTg (x :: l) = 2 * yFn x.2.1 + cTg l := by
  unfold cTg
  rw [List.map_cons, List.sum_cons]
theorem yFn_A : ∀ y : tY, yFn y ≤ yAr y + 1
  | .leaf => Nat.le_add_left _ _
  | .inner k u v a b => by
    have ia := yFn_A a
    have ib := yFn_A b
    unfold yFn
    by_cases c : k = 0
    · subst c
      rw [if_pos rfl, yAr_0]
      omega
    · rw [if_neg c]
      split <;> omega
theorem cTg_b : ∀ l : List (Nat × tY × List Nat), cTg l ≤ 2 * tlN l + 2 * l.length
  | [] => Nat.zero_le _
  | x :: l => by
    have I := cTg_b l
    have h := yFn_A x.2.1
    rw [cTg_cn, tlN_cn, List.length_cons]
    omega
theorem yFn_fn (tN : Nat → tY) : ∀ (q w : Nat) (r : tY), yFn r ≤ yFn (gFn tN q w r)
  | 0, _, _ => Nat.le_refl _
  | q + 1, w, r => by
    have := yFn_fn tN q (w + 1) r
    show yFn r ≤ yFn (tN w) + yFn (gFn tN q (w + 1) r)
    omega
section CFT
variable {kk f pp ee : Nat → Int32} {cnt : Nat} {tE tN : Nat → tY}
set_option maxHeartbeats 4000000 in
theorem cFo_t : ∀ (t : tT), ∀ l, tWf kk cnt t l → ∀ env y, gOk f pp ee tE tN t env y → cFo tE tN t ≤ cTg (tLs tE tN t)
  | .leaf, l, h, env, y, _ => Nat.zero_le _
  | .inner g d u a b, l, h, env, y, ok => by
    rcases h with ⟨rfl, rfl, -, ha, hb⟩ | ⟨rfl, -, hb, h⟩ | ⟨rfl, h⟩
    · obtain ⟨o1, o2⟩ : gOk f pp ee tE tN a env y ∧ gOk f pp ee tE tN b env y := ok
      have ia := cFo_t a 0 ha env y o1
      have ib := cFo_t b 0 hb env y o2
      show cFo tE tN a + cFo tE tN b ≤ cTg (tLs tE tN a ++ tLs tE tN b)
      rw [cTg_ap]
      omega
    · rcases h with ⟨rfl, -, -⟩ | ⟨rfl, -, ha⟩ | ⟨rfl, -, -, -⟩
      · obtain ⟨o1, -, o2⟩ : yIs y ∧ (yL y = gSk f pp ee tN env d.2.2.2.1.2 ∧ (d.2.1 = 1 ∨ isN d.2.2.2.1.2 = false → gSo f pp ee tN env d.2.2.2.1.2)) ∧ gOk f pp ee tE tN b env (yR y) := ok
        exact cFo_t b 2 hb env (yR y) o2
      · obtain ⟨o1, o3, o2⟩ : yIs y ∧ gOk f pp ee tE tN a env (yL y) ∧ gOk f pp ee tE tN b env (yR y) := ok
        have ia := cFo_t a 0 ha env (yL y) o3
        have ib := cFo_t b 2 hb env (yR y) o2
        show cFo tE tN a + cFo tE tN b ≤ cTg (tLs tE tN a ++ tLs tE tN b)
        rw [cTg_ap]
        omega
      · obtain ⟨o1, -, o2⟩ : yIs y ∧ yL y = yB 1 ∧ gOk f pp ee tE tN b env (yR y) := ok
        exact cFo_t b 2 hb env (yR y) o2
    · rcases h with ⟨rfl, -, ha, hb⟩ | ⟨rfl, -, ha, hb⟩ | ⟨rfl, -, ha⟩ | ⟨rfl, -, hb⟩ | ⟨rfl, -, hb⟩ | ⟨rfl, -, -, ha⟩ | ⟨rfl | rfl, -⟩ | ⟨rfl | rfl | rfl, -⟩ | ⟨rfl | rfl | rfl, -⟩ | ⟨rfl, -⟩ | ⟨rfl, -, ha⟩ | ⟨rfl, -, ha, -⟩ | ⟨rfl, -⟩ | ⟨rfl, -, ha, hb⟩
      · obtain ⟨-, o1, o2⟩ : tE d.1 = y ∧ gOk f pp ee tE tN a env (tN (d.1 + 1)) ∧ gOk f pp ee tE tN b (env ++ [d.1 + 1]) y := ok
        have ia := cFo_t a 0 ha env _ o1
        have ib := cFo_t b 0 hb _ y o2
        show yFn (tE d.1) + (cFo tE tN a + cFo tE tN b) ≤ cTg ((2 * d.1, tE d.1, []) :: (tLs tE tN a ++ tLs tE tN b))
        rw [cTg_cn, cTg_ap]
        dsimp only
        omega
      · obtain ⟨-, ⟨r, o0, o1⟩, o2⟩ : tE d.1 = y ∧ (∃ r, tN (d.1 + 2) = gFn tN d.2.1 (d.1 + 3) r ∧ gOk f pp ee tE tN a (env ++ ([d.1 + 2] ++ List.range' (d.1 + 3) d.2.1)) r) ∧ gOk f pp ee tE tN b (env ++ [d.1 + 2]) y := ok
        have er : yRs d.2.1 (tN (d.1 + 2)) = r := by rw [o0, yRs_fn]
        have F := yFn_fn tN d.2.1 (d.1 + 3) r
        rw [← o0] at F
        have ia := cFo_t a 0 ha _ r o1
        have ib := cFo_t b 0 hb _ y o2
        show yFn (yRs d.2.1 (tN (d.1 + 2))) + yFn (tE d.1) + (cFo tE tN a + cFo tE tN b) ≤ cTg ((2 * d.1, tE d.1, []) :: (2 * d.1 + 1, tN (d.1 + 2), List.range' (d.1 + 3) d.2.1) :: (tLs tE tN a ++ tLs tE tN b))
        rw [cTg_cn, cTg_cn, cTg_ap, er]
        dsimp only
        omega
      · obtain ⟨oe, r, o0, o1⟩ : tE d.1 = y ∧ ∃ r, y = yA (tN (d.1 + 1)) r ∧ gOk f pp ee tE tN a (env ++ [d.1 + 1]) r := ok
        have er : yR (tE d.1) = r := by rw [oe, o0]; rfl
        have F : yFn (tE d.1) = yFn (tN (d.1 + 1)) + yFn r := by rw [oe, o0]; rfl
        have ia := cFo_t a 0 ha _ r o1
        show yFn (yR (tE d.1)) + cFo tE tN a ≤ cTg ((2 * d.1, tE d.1, [d.1 + 1]) :: tLs tE tN a)
        rw [cTg_cn, er]
        dsimp only
        omega
      · obtain ⟨oe, -, o2⟩ : tE d.1 = y ∧ gCk f pp ee tN env a ∧ gOk f pp ee tE tN b env y := ok
        have ib := cFo_t b 1 hb env y o2
        show 2 * yFn (tE d.1) + cFo tE tN b ≤ cTg ((2 * d.1, tE d.1, []) :: tLs tE tN b)
        rw [cTg_cn]
        dsimp only
        omega
      · obtain ⟨-, o2⟩ : gCk f pp ee tN env a ∧ gOk f pp ee tE tN b env y := ok
        exact cFo_t b 0 hb env y o2
      · obtain ⟨-, -, o1⟩ : tN (gNu f pp ee env (d.1 + 1)) = yB 2 ∧ (gSo f pp ee tN env d.2.2.2.1.2 ∧ gSo f pp ee tN env d.2.2.2.2.2) ∧ gOk f pp ee tE tN a env y := ok
        exact cFo_t a 0 ha env y o1
      · exact Nat.zero_le _
      · exact Nat.zero_le _
      · exact Nat.zero_le _
      · exact Nat.zero_le _
      · exact Nat.zero_le _
      · exact Nat.zero_le _
      · exact Nat.zero_le _
      · exact Nat.zero_le _
      · exact Nat.zero_le _
      · obtain ⟨-, o1⟩ : y = yRs (tQn a) (tN (gNu f pp ee env d.1)) ∧ gOk f pp ee tE tN a env (tN (gNu f pp ee env d.1)) := ok
        exact cFo_t a 2 ha env _ o1
      · have o1 : gOk f pp ee tE tN a env y := ok
        exact cFo_t a 0 ha env y o1
      · exact Nat.zero_le _
      · obtain ⟨-, -, -, o1, o2⟩ : tE d.1 = y ∧ tN (gNu f pp ee env (d.1 + 1)) = yB 3 ∧ (tN d.2.1 = yB 0 ∧ tN (d.2.1 + 1) = yB 3) ∧ gOk f pp ee tE tN a env y ∧ gOk f pp ee tE tN b (env ++ [d.2.1, d.2.1 + 1]) y := ok
        have ia := cFo_t a 0 ha env y o1
        have ib := cFo_t b 0 hb _ y o2
        show 2 * yFn (tE d.1) + (cFo tE tN a + cFo tE tN b) ≤ cTg ((2 * d.1, tE d.1, []) :: (tLs tE tN a ++ tLs tE tN b))
        rw [cTg_cn, cTg_ap]
        dsimp only
        omega
end CFT
