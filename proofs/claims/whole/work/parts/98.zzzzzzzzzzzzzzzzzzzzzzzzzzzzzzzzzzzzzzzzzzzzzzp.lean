/-! ROOM: what is called has no more arrows than all TEMPLATES -/
theorem yAr_nf {k : Nat} {u v} {a b : tY} (c : k ≠ 0) : yAr (.inner k u v a b) = 0 := (yCo_n (y := .inner k u v a b) (fun z => c (by have z : k + 1 = 1 := z; omega))).2.1
theorem yAr_R : ∀ (n : Nat) (y : tY), (yG y ∨ y = .leaf) → yAr (yRs n y) ≤ yAr y
  | 0, y, _ => Nat.le_refl _
  | n + 1, y, h => by
    show yAr (yRs n (yR y)) ≤ yAr y
    rcases h with h | rfl
    · cases y with
      | leaf => exact absurd h (fun z => z)
      | inner k u v a b =>
        have h : if k = 0 then yG a ∧ yG b else a = .leaf ∧ b = .leaf := h
        by_cases c : k = 0
        · subst c
          rw [if_pos rfl] at h
          have I := yAr_R n b (Or.inl h.2)
          rw [yAr_0]
          show yAr (yRs n b) ≤ _
          omega
        · rw [if_neg c] at h
          obtain ⟨-, rfl⟩ := h
          exact Nat.le_trans (yAr_R n .leaf (Or.inr rfl)) (Nat.zero_le _)
    · exact yAr_R n .leaf (Or.inr rfl)
theorem gFn_pA (tN : Nat → tY) : ∀ (q w : Nat) (r : tY) (i : Nat), i < q → yAr (tN (w + i)) ≤ yAr (gFn tN q w r)
  | 0, _, _, i, h => absurd h (Nat.not_lt_zero i)
  | q + 1, w, r, i, h => by
    show _ ≤ yAr (yA (tN w) (gFn tN q (w + 1) r))
    rw [yAr_0]
    cases i with
    | zero => rw [Nat.add_zero]; omega
    | succ i =>
      have I := gFn_pA tN q (w + 1) r i (by omega)
      rw [show w + (i + 1) = w + 1 + i by omega]
      omega
theorem su_me {α : Type} (g : α → Nat) : ∀ (l : List α) (c : α), c ∈ l → g c ≤ (l.map g).sum
  | [], _, h => by cases h
  | x :: l, c, h => by
    rw [List.map_cons, List.sum_cons]
    rcases List.mem_cons.mp h with rfl | z
    · exact Nat.le_add_right _ _
    · exact Nat.le_trans (su_me g l c z) (Nat.le_add_left _ _)
section UIA
variable {kk f pp ee : Nat → Int32} {cnt : Nat} {tE tN : Nat → tY}
set_option maxHeartbeats 4000000 in
/-- **a unit has no more arrows than all TEMPLATES** -/
theorem gUi_A : ∀ (t : tT), ∀ l, tWf kk cnt t l → ∀ env y, gOk f pp ee tE tN t env y → ∀ x, x ∈ gUi t → yAr (uY tE tN x.1) ≤ tlN (tLs tE tN t)
  | .leaf, l, h, env, y, _ => fun x hx => by cases hx
  | .inner g d u a b, l, h, env, y, ok => by
    have AB : ∀ {x : (Nat × Nat) × Nat} {r : Nat}, (x ∈ gUi a → yAr (uY tE tN x.1) ≤ tlN (tLs tE tN a)) → (x ∈ gUi b → yAr (uY tE tN x.1) ≤ tlN (tLs tE tN b)) → x ∈ gUi a ++ gUi b → yAr (uY tE tN x.1) ≤ r + tlN (tLs tE tN a ++ tLs tE tN b) := fun {x r} h1 h2 hx => by
      rw [tlN_ap]
      rcases List.mem_append.mp hx with z | z
      · have := h1 z; omega
      · have := h2 z; omega
    rcases h with ⟨rfl, rfl, -, ha, hb⟩ | ⟨rfl, -, hb, h⟩ | ⟨rfl, h⟩
    · obtain ⟨o1, o2⟩ : gOk f pp ee tE tN a env y ∧ gOk f pp ee tE tN b env y := ok
      intro x hx
      have A := AB (r := 0) (gUi_A a 0 ha env y o1 x) (gUi_A b 0 hb env y o2 x) hx
      show _ ≤ tlN (tLs tE tN a ++ tLs tE tN b)
      omega
    · rcases h with ⟨rfl, -, -⟩ | ⟨rfl, -, ha⟩ | ⟨rfl, -, -, -⟩
      · obtain ⟨o1, -, o2⟩ : yIs y ∧ (yL y = gSk f pp ee tN env d.2.2.2.1.2 ∧ (d.2.1 = 1 ∨ isN d.2.2.2.1.2 = false → gSo f pp ee tN env d.2.2.2.1.2)) ∧ gOk f pp ee tE tN b env (yR y) := ok
        exact gUi_A b 2 hb env (yR y) o2
      · obtain ⟨o1, o3, o2⟩ : yIs y ∧ gOk f pp ee tE tN a env (yL y) ∧ gOk f pp ee tE tN b env (yR y) := ok
        intro x hx
        have A := AB (r := 0) (gUi_A a 0 ha env (yL y) o3 x) (gUi_A b 2 hb env (yR y) o2 x) hx
        show _ ≤ tlN (tLs tE tN a ++ tLs tE tN b)
        omega
      · obtain ⟨o1, -, o2⟩ : yIs y ∧ yL y = yB 1 ∧ gOk f pp ee tE tN b env (yR y) := ok
        exact gUi_A b 2 hb env (yR y) o2
    · rcases h with ⟨rfl, -, ha, hb⟩ | ⟨rfl, -, ha, hb⟩ | ⟨rfl, -, ha⟩ | ⟨rfl, -, hb⟩ | ⟨rfl, -, hb⟩ | ⟨rfl, -, -, ha⟩ | ⟨rfl | rfl, -⟩ | ⟨rfl | rfl | rfl, -⟩ | ⟨rfl | rfl | rfl, -⟩ | ⟨rfl, -⟩ | ⟨rfl, -, ha⟩ | ⟨rfl, -, ha, -⟩ | ⟨rfl, -⟩ | ⟨rfl, -, ha, hb⟩
      · obtain ⟨-, o1, o2⟩ : tE d.1 = y ∧ gOk f pp ee tE tN a env (tN (d.1 + 1)) ∧ gOk f pp ee tE tN b (env ++ [d.1 + 1]) y := ok
        intro x hx
        have hx : x ∈ ((0, 2 * d.1), 0) :: (gUi a ++ gUi b) := hx
        show _ ≤ tlN ((2 * d.1, tE d.1, []) :: (tLs tE tN a ++ tLs tE tN b))
        rw [tlN_cn]
        rcases List.mem_cons.mp hx with rfl | z
        · rw [uY_t]; exact Nat.le_add_right _ _
        · exact AB (gUi_A a 0 ha env _ o1 x) (gUi_A b 0 hb _ y o2 x) z
      · obtain ⟨-, ⟨r, o0, o1⟩, o2⟩ : tE d.1 = y ∧ (∃ r, tN (d.1 + 2) = gFn tN d.2.1 (d.1 + 3) r ∧ gOk f pp ee tE tN a (env ++ ([d.1 + 2] ++ List.range' (d.1 + 3) d.2.1)) r) ∧ gOk f pp ee tE tN b (env ++ [d.1 + 2]) y := ok
        intro x hx
        have hx : x ∈ ((0, 2 * d.1), 0) :: ((0, 2 * d.1 + 1), 0) :: ((List.range d.2.1).map (fun i => (((1, d.1 + 3 + i) : Nat × Nat), i)) ++ (gUi a ++ gUi b)) := hx
        show _ ≤ tlN ((2 * d.1, tE d.1, []) :: (2 * d.1 + 1, tN (d.1 + 2), List.range' (d.1 + 3) d.2.1) :: (tLs tE tN a ++ tLs tE tN b))
        rw [tlN_cn, tlN_cn]
        dsimp only
        rcases List.mem_cons.mp hx with rfl | z
        · rw [uY_t]; exact Nat.le_add_right _ _
        · rcases List.mem_cons.mp z with rfl | z
          · rw [uY_f]; omega
          · rcases List.mem_append.mp z with z | z
            · obtain ⟨i, hi, rfl⟩ := List.mem_map.mp z
              have F := gFn_pA tN d.2.1 (d.1 + 3) r i (List.mem_range.mp hi)
              rw [← o0] at F
              rw [uY_p]
              omega
            · have A := AB (r := 0) (gUi_A a 0 ha _ r o1 x) (gUi_A b 0 hb _ y o2 x) z
              omega
      · obtain ⟨oe, r, o0, o1⟩ : tE d.1 = y ∧ ∃ r, y = yA (tN (d.1 + 1)) r ∧ gOk f pp ee tE tN a (env ++ [d.1 + 1]) r := ok
        intro x hx
        have hx : x ∈ ((0, 2 * d.1), 0) :: ((1, d.1 + 1), 0) :: gUi a := hx
        show _ ≤ tlN ((2 * d.1, tE d.1, [d.1 + 1]) :: tLs tE tN a)
        rw [tlN_cn]
        dsimp only
        have F : yAr (tE d.1) = 1 + yAr (tN (d.1 + 1)) + yAr r := by rw [oe, o0, yAr_0]
        rcases List.mem_cons.mp hx with rfl | z
        · rw [uY_t]; exact Nat.le_add_right _ _
        · rcases List.mem_cons.mp z with rfl | z
          · rw [uY_p]; omega
          · have A := gUi_A a 0 ha _ r o1 x z
            omega
      · obtain ⟨oe, -, o2⟩ : tE d.1 = y ∧ gCk f pp ee tN env a ∧ gOk f pp ee tE tN b env y := ok
        intro x hx
        have hx : x ∈ ((0, 2 * d.1), 0) :: gUi b := hx
        show _ ≤ tlN ((2 * d.1, tE d.1, []) :: tLs tE tN b)
        rw [tlN_cn]
        dsimp only
        rcases List.mem_cons.mp hx with rfl | z
        · rw [uY_t]; exact Nat.le_add_right _ _
        · have A := gUi_A b 1 hb env y o2 x z
          omega
      · obtain ⟨-, o2⟩ : gCk f pp ee tN env a ∧ gOk f pp ee tE tN b env y := ok
        exact gUi_A b 0 hb env y o2
      · obtain ⟨-, -, o1⟩ : tN (gNu f pp ee env (d.1 + 1)) = yB 2 ∧ (gSo f pp ee tN env d.2.2.2.1.2 ∧ gSo f pp ee tN env d.2.2.2.2.2) ∧ gOk f pp ee tE tN a env y := ok
        exact gUi_A a 0 ha env y o1
      · exact fun x hx => by cases hx
      · exact fun x hx => by cases hx
      · exact fun x hx => by cases hx
      · exact fun x hx => by cases hx
      · exact fun x hx => by cases hx
      · exact fun x hx => by cases hx
      · exact fun x hx => by cases hx
      · exact fun x hx => by cases hx
      · exact fun x hx => by cases hx
      · obtain ⟨-, o1⟩ : y = yRs (tQn a) (tN (gNu f pp ee env d.1)) ∧ gOk f pp ee tE tN a env (tN (gNu f pp ee env d.1)) := ok
        exact gUi_A a 2 ha env _ o1
      · have o1 : gOk f pp ee tE tN a env y := ok
        exact gUi_A a 0 ha env y o1
      · exact fun x hx => by cases hx
      · obtain ⟨-, -, -, o1, o2⟩ : tE d.1 = y ∧ tN (gNu f pp ee env (d.1 + 1)) = yB 3 ∧ (tN d.2.1 = yB 0 ∧ tN (d.2.1 + 1) = yB 3) ∧ gOk f pp ee tE tN a env y ∧ gOk f pp ee tE tN b (env ++ [d.2.1, d.2.1 + 1]) y := ok
        intro x hx
        have hx : x ∈ ((0, 2 * d.1), 0) :: (gUi a ++ gUi b) := hx
        show _ ≤ tlN ((2 * d.1, tE d.1, []) :: (tLs tE tN a ++ tLs tE tN b))
        rw [tlN_cn]
        rcases List.mem_cons.mp hx with rfl | z
        · rw [uY_t]; exact Nat.le_add_right _ _
        · exact AB (gUi_A a 0 ha env _ o1 x) (gUi_A b 0 hb _ y o2 x) z
end UIA
