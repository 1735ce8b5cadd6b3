/-! ROOM: calls are no more than TEMPLATES -/
/-- let rec's -/
def rcN : tT → Nat
  | .leaf => 0
  | .inner g _ _ a b =>
    if g = 1 ∨ g = 19 ∨ g = 31 ∨ g = 34 then rcN a + rcN b
    else if g = 2 then 1 + (rcN a + rcN b)
    else if g = 3 ∨ g = 6 ∨ g = 15 ∨ g = 16 then rcN a
    else if g = 4 ∨ g = 5 ∨ g = 33 ∨ g = 35 then rcN b
    else 0
section CVN
variable {kk f pp ee : Nat → Int32} {cnt : Nat} {tE tN : Nat → tY}
set_option maxHeartbeats 2000000 in
/-- **calls, let rec's and TEMPLATES, counted** -/
theorem cv_n : ∀ (t : tT), tF3 t → ∀ l, tWf kk cnt t l → ∀ env, (cvC f pp ee tN t env).length + rcN t ≤ (tLs tE tN t).length + (if l = 0 then 1 else if l = 1 then 2 else 0) ∧ (l = 0 → (∃ d z a b, t = .inner 3 d z a b) → (cvC f pp ee tN t env).length + rcN t ≤ (tLs tE tN t).length)
  | .leaf, _, l, h, env => ⟨Nat.zero_le _, fun _ ⟨_, _, _, _, e⟩ => by cases e⟩
  | .inner g d u a b, h3, l, h, env => by
    obtain ⟨f1, f2, f3⟩ := h3
    rcases h with ⟨rfl, rfl, -, ha, hb⟩ | ⟨rfl, -, hb, h⟩ | ⟨rfl, h⟩
    · have fa : tF3 a := by rw [if_neg (by decide)] at f2; exact f2
      have ia : (cvC f pp ee tN a env).length + rcN a ≤ (tLs tE tN a).length + 1 := (cv_n a fa 0 ha env).1
      have ib : (cvC f pp ee tN b env).length + rcN b ≤ (tLs tE tN b).length + 1 := (cv_n b f3 0 hb env).1
      refine ⟨?_, fun z => by cases z⟩
      show (cvC f pp ee tN a env ++ cvC f pp ee tN b env).length + (rcN a + rcN b) ≤ (tLs tE tN a ++ tLs tE tN b).length + 2
      rw [List.length_append, List.length_append]
      omega
    · refine ⟨?_, fun z => by cases z⟩
      have ib : (cvC f pp ee tN b env).length + rcN b ≤ (tLs tE tN b).length + 0 := (cv_n b f3 2 hb env).1
      rcases h with ⟨rfl, -, -⟩ | ⟨rfl, -, ha⟩ | ⟨rfl, -, -, -⟩
      · exact ib
      · have fa : tF3 a := by rw [if_neg (by decide)] at f2; exact f2
        have ia := (cv_n a fa 0 ha env).2 rfl (f1 rfl)
        show (cvC f pp ee tN a env ++ cvC f pp ee tN b env).length + (rcN a + rcN b) ≤ (tLs tE tN a ++ tLs tE tN b).length + 0
        rw [List.length_append, List.length_append]
        omega
      · exact ib
    · have nof : g ≠ 3 → (∃ d' z a' b', (Std.DTreeMap.Internal.Impl.inner g d u a b : tT) = .inner 3 d' z a' b') → False := fun n ⟨_, _, _, _, e⟩ => by
        injection e with e
        exact n e
      rcases h with ⟨rfl, -, ha, hb⟩ | ⟨rfl, -, ha, hb⟩ | ⟨rfl, -, ha⟩ | ⟨rfl, -, hb⟩ | ⟨rfl, -, hb⟩ | ⟨rfl, -, -, ha⟩ | ⟨rfl | rfl, -⟩ | ⟨rfl | rfl | rfl, -⟩ | ⟨rfl | rfl | rfl, -⟩ | ⟨rfl, -⟩ | ⟨rfl, -, ha⟩ | ⟨rfl, -, ha, -⟩ | ⟨rfl, -⟩ | ⟨rfl, -, ha, hb⟩
      · have fa : tF3 a := by rw [if_neg (by decide)] at f2; exact f2
        have ia : (cvC f pp ee tN a env).length + rcN a ≤ (tLs tE tN a).length + 1 := (cv_n a fa 0 ha env).1
        have ib : (cvC f pp ee tN b (env ++ [d.1 + 1])).length + rcN b ≤ (tLs tE tN b).length + 1 := (cv_n b f3 0 hb (env ++ [d.1 + 1])).1
        refine ⟨?_, fun _ z => (nof (by decide) z).elim⟩
        show (cvC f pp ee tN a env ++ cvC f pp ee tN b (env ++ [d.1 + 1])).length + (rcN a + rcN b) ≤ ((2 * d.1, tE d.1, []) :: (tLs tE tN a ++ tLs tE tN b)).length + 1
        rw [List.length_cons, List.length_append, List.length_append]
        omega
      · have fa : tF3 a := by rw [if_neg (by decide)] at f2; exact f2
        have ia : (cvC f pp ee tN a (env ++ ([d.1 + 2] ++ List.range' (d.1 + 3) d.2.1))).length + rcN a ≤ (tLs tE tN a).length + 1 := (cv_n a fa 0 ha (env ++ ([d.1 + 2] ++ List.range' (d.1 + 3) d.2.1))).1
        have ib : (cvC f pp ee tN b (env ++ [d.1 + 2])).length + rcN b ≤ (tLs tE tN b).length + 1 := (cv_n b f3 0 hb (env ++ [d.1 + 2])).1
        refine ⟨?_, fun _ z => (nof (by decide) z).elim⟩
        show (cvC f pp ee tN a (env ++ ([d.1 + 2] ++ List.range' (d.1 + 3) d.2.1)) ++ cvC f pp ee tN b (env ++ [d.1 + 2])).length + (1 + (rcN a + rcN b)) ≤ ((2 * d.1, tE d.1, []) :: (2 * d.1 + 1, tN (d.1 + 2), List.range' (d.1 + 3) d.2.1) :: (tLs tE tN a ++ tLs tE tN b)).length + 1
        rw [List.length_cons, List.length_cons, List.length_append, List.length_append]
        omega
      · have fa : tF3 a := by rw [if_neg (by decide)] at f2; exact f2
        have ia : (cvC f pp ee tN a (env ++ [d.1 + 1])).length + rcN a ≤ (tLs tE tN a).length + 1 := (cv_n a fa 0 ha (env ++ [d.1 + 1])).1
        have k : (cvC f pp ee tN a (env ++ [d.1 + 1])).length + rcN a ≤ ((2 * d.1, tE d.1, [d.1 + 1]) :: tLs tE tN a).length := by rw [List.length_cons]; exact ia
        exact ⟨Nat.le_trans k (Nat.le_add_right _ _), fun _ _ => k⟩
      · have ib : (cvC f pp ee tN b env).length + rcN b ≤ (tLs tE tN b).length + 2 := (cv_n b f3 1 hb env).1
        refine ⟨?_, fun _ z => (nof (by decide) z).elim⟩
        show (cvC f pp ee tN b env).length + rcN b ≤ ((2 * d.1, tE d.1, []) :: tLs tE tN b).length + 1
        rw [List.length_cons]
        omega
      · exact ⟨(cv_n b f3 0 hb env).1, fun _ z => (nof (by decide) z).elim⟩
      · have fa : tF3 a := by rw [if_neg (by decide)] at f2; exact f2
        exact ⟨(cv_n a fa 0 ha env).1, fun _ z => (nof (by decide) z).elim⟩
      · exact ⟨Nat.zero_le _, fun _ z => (nof (by decide) z).elim⟩
      · exact ⟨Nat.zero_le _, fun _ z => (nof (by decide) z).elim⟩
      · exact ⟨Nat.zero_le _, fun _ z => (nof (by decide) z).elim⟩
      · exact ⟨Nat.zero_le _, fun _ z => (nof (by decide) z).elim⟩
      · exact ⟨Nat.zero_le _, fun _ z => (nof (by decide) z).elim⟩
      · exact ⟨Nat.zero_le _, fun _ z => (nof (by decide) z).elim⟩
      · exact ⟨Nat.zero_le _, fun _ z => (nof (by decide) z).elim⟩
      · exact ⟨Nat.zero_le _, fun _ z => (nof (by decide) z).elim⟩
      · exact ⟨Nat.zero_le _, fun _ z => (nof (by decide) z).elim⟩
      · have fa : tF3 a := by rw [if_neg (by decide)] at f2; exact f2
        have ia : (cvC f pp ee tN a env).length + rcN a ≤ (tLs tE tN a).length + 0 := (cv_n a fa 2 ha env).1
        refine ⟨?_, fun _ z => (nof (by decide) z).elim⟩
        show ((tN (gNu f pp ee env d.1), tQn a) :: cvC f pp ee tN a env).length + rcN a ≤ (tLs tE tN a).length + 1
        rw [List.length_cons]
        omega
      · have fa : tF3 a := by rw [if_neg (by decide)] at f2; exact f2
        exact ⟨(cv_n a fa 0 ha env).1, fun _ z => (nof (by decide) z).elim⟩
      · exact ⟨Nat.zero_le _, fun _ z => (nof (by decide) z).elim⟩
      · have fa : tF3 a := by rw [if_neg (by decide)] at f2; exact f2
        have ia : (cvC f pp ee tN a env).length + rcN a ≤ (tLs tE tN a).length + 1 := (cv_n a fa 0 ha env).1
        have ib : (cvC f pp ee tN b (env ++ [d.2.1, d.2.1 + 1])).length + rcN b ≤ (tLs tE tN b).length + 1 := (cv_n b f3 0 hb (env ++ [d.2.1, d.2.1 + 1])).1
        refine ⟨?_, fun _ z => (nof (by decide) z).elim⟩
        show (cvC f pp ee tN a env ++ cvC f pp ee tN b (env ++ [d.2.1, d.2.1 + 1])).length + (rcN a + rcN b) ≤ ((2 * d.1, tE d.1, []) :: (tLs tE tN a ++ tLs tE tN b)).length + 1
        rw [List.length_cons, List.length_append, List.length_append]
        omega
end CVN
