/-! ROOM: E's that end a text, and TEMPLATES -/
section CLF
variable {kk f pp ee : Nat → Int32} {cnt : Nat} {tE tN : Nat → tY}
set_option maxHeartbeats 2000000 in
/-- **calls are no more than E's that end a text; these and let rec's no more than TEMPLATES** -/
theorem cv_lf : ∀ (t : tT), tF3 t → ∀ l, tWf kk cnt t l → ∀ env, ((cvC f pp ee tN t env).length ≤ lfN t + (if l = 0 then 1 else if l = 1 then 2 else 0) ∧ lfN t + rcN t ≤ (tLs tE tN t).length) ∧ (l = 0 → (∃ d z a b, t = .inner 3 d z a b) → lfN t + rcN t + 1 ≤ (tLs tE tN t).length)
  | .leaf, _, l, h, env => ⟨⟨Nat.zero_le _, Nat.zero_le _⟩, fun _ ⟨_, _, _, _, e⟩ => by cases e⟩
  | .inner g d u a b, h3, l, h, env => by
    obtain ⟨f1, f2, f3⟩ := h3
    rcases h with ⟨rfl, rfl, -, ha, hb⟩ | ⟨rfl, -, hb, h⟩ | ⟨rfl, h⟩
    · have fa : tF3 a := by rw [if_neg (by decide)] at f2; exact f2
      obtain ⟨ia, ja⟩ := (cv_lf a fa 0 ha env).1
      obtain ⟨ib, jb⟩ := (cv_lf b f3 0 hb env).1
      rw [if_pos rfl] at ia ib
      refine ⟨⟨?_, ?_⟩, fun z => (by cases z)⟩
      · show (cvC f pp ee tN a env ++ cvC f pp ee tN b env).length ≤ (lfN a + lfN b) + 2
        rw [List.length_append]
        omega
      · show (lfN a + lfN b) + (rcN a + rcN b) ≤ (tLs tE tN a ++ tLs tE tN b).length
        rw [List.length_append]
        omega
    · obtain ⟨ib, jb⟩ := (cv_lf b f3 2 hb env).1
      rw [if_neg (by decide), if_neg (by decide)] at ib
      rcases h with ⟨rfl, -, -⟩ | ⟨rfl, -, ha⟩ | ⟨rfl, -, -, -⟩
      · exact ⟨⟨ib, jb⟩, fun z => (by cases z)⟩
      · have fa : tF3 a := by rw [if_neg (by decide)] at f2; exact f2
        obtain ⟨⟨ia, -⟩, ja⟩ := cv_lf a fa 0 ha env
        have ja := ja rfl (f1 rfl)
        rw [if_pos rfl] at ia
        refine ⟨⟨?_, ?_⟩, fun z => (by cases z)⟩
        · show (cvC f pp ee tN a env ++ cvC f pp ee tN b env).length ≤ (1 + (lfN a + lfN b)) + 0
          rw [List.length_append]
          omega
        · show (1 + (lfN a + lfN b)) + (rcN a + rcN b) ≤ (tLs tE tN a ++ tLs tE tN b).length
          rw [List.length_append]
          omega
      · exact ⟨⟨ib, jb⟩, fun z => (by cases z)⟩
    · have nof : ∀ {P : Prop}, g ≠ 3 → (∃ d' z a' b', (Std.DTreeMap.Internal.Impl.inner g d u a b : tT) = .inner 3 d' z a' b') → P := fun n ⟨_, _, _, _, e⟩ => by
        injection e with e
        exact absurd e n
      rcases h with ⟨rfl, -, ha, hb⟩ | ⟨rfl, -, ha, hb⟩ | ⟨rfl, -, ha⟩ | ⟨rfl, -, hb⟩ | ⟨rfl, -, hb⟩ | ⟨rfl, -, -, ha⟩ | ⟨rfl | rfl, -⟩ | ⟨rfl | rfl | rfl, -⟩ | ⟨rfl | rfl | rfl, -⟩ | ⟨rfl, -⟩ | ⟨rfl, -, ha⟩ | ⟨rfl, -, ha, -⟩ | ⟨rfl, -⟩ | ⟨rfl, -, ha, hb⟩
      · have fa : tF3 a := by rw [if_neg (by decide)] at f2; exact f2
        obtain ⟨ia, ja⟩ := (cv_lf a fa 0 ha env).1
        obtain ⟨ib, jb⟩ := (cv_lf b f3 0 hb (env ++ [d.1 + 1])).1
        rw [if_pos rfl] at ia ib
        refine ⟨⟨?_, ?_⟩, fun _ z => nof (by decide) z⟩
        · show (cvC f pp ee tN a env ++ cvC f pp ee tN b (env ++ [d.1 + 1])).length ≤ (1 + (lfN a + lfN b)) + 1
          rw [List.length_append]
          omega
        · show (1 + (lfN a + lfN b)) + (rcN a + rcN b) ≤ ((2 * d.1, tE d.1, []) :: (tLs tE tN a ++ tLs tE tN b)).length
          rw [List.length_cons, List.length_append]
          omega
      · have fa : tF3 a := by rw [if_neg (by decide)] at f2; exact f2
        obtain ⟨ia, ja⟩ := (cv_lf a fa 0 ha (env ++ ([d.1 + 2] ++ List.range' (d.1 + 3) d.2.1))).1
        obtain ⟨ib, jb⟩ := (cv_lf b f3 0 hb (env ++ [d.1 + 2])).1
        rw [if_pos rfl] at ia ib
        refine ⟨⟨?_, ?_⟩, fun _ z => nof (by decide) z⟩
        · show (cvC f pp ee tN a (env ++ ([d.1 + 2] ++ List.range' (d.1 + 3) d.2.1)) ++ cvC f pp ee tN b (env ++ [d.1 + 2])).length ≤ (1 + (lfN a + lfN b)) + 1
          rw [List.length_append]
          omega
        · show (1 + (lfN a + lfN b)) + (1 + (rcN a + rcN b)) ≤ ((2 * d.1, tE d.1, []) :: (2 * d.1 + 1, tN (d.1 + 2), List.range' (d.1 + 3) d.2.1) :: (tLs tE tN a ++ tLs tE tN b)).length
          rw [List.length_cons, List.length_cons, List.length_append]
          omega
      · have fa : tF3 a := by rw [if_neg (by decide)] at f2; exact f2
        obtain ⟨ia, ja⟩ := (cv_lf a fa 0 ha (env ++ [d.1 + 1])).1
        have k : lfN a + rcN a + 1 ≤ ((2 * d.1, tE d.1, [d.1 + 1]) :: tLs tE tN a).length := by rw [List.length_cons]; omega
        exact ⟨⟨ia, Nat.le_trans (Nat.le_add_right _ 1) k⟩, fun _ _ => k⟩
      · obtain ⟨ib, jb⟩ := (cv_lf b f3 1 hb env).1
        rw [if_neg (by decide), if_pos rfl] at ib
        refine ⟨⟨?_, ?_⟩, fun _ z => nof (by decide) z⟩
        · show (cvC f pp ee tN b env).length ≤ (1 + lfN b) + 1
          omega
        · show (1 + lfN b) + rcN b ≤ ((2 * d.1, tE d.1, []) :: tLs tE tN b).length
          rw [List.length_cons]
          omega
      · exact ⟨(cv_lf b f3 0 hb env).1, fun _ z => nof (by decide) z⟩
      · have fa : tF3 a := by rw [if_neg (by decide)] at f2; exact f2
        exact ⟨(cv_lf a fa 0 ha env).1, fun _ z => nof (by decide) z⟩
      · exact ⟨⟨Nat.zero_le _, Nat.zero_le _⟩, fun _ z => nof (by decide) z⟩
      · exact ⟨⟨Nat.zero_le _, Nat.zero_le _⟩, fun _ z => nof (by decide) z⟩
      · exact ⟨⟨Nat.zero_le _, Nat.zero_le _⟩, fun _ z => nof (by decide) z⟩
      · exact ⟨⟨Nat.zero_le _, Nat.zero_le _⟩, fun _ z => nof (by decide) z⟩
      · exact ⟨⟨Nat.zero_le _, Nat.zero_le _⟩, fun _ z => nof (by decide) z⟩
      · exact ⟨⟨Nat.zero_le _, Nat.zero_le _⟩, fun _ z => nof (by decide) z⟩
      · exact ⟨⟨Nat.zero_le _, Nat.zero_le _⟩, fun _ z => nof (by decide) z⟩
      · exact ⟨⟨Nat.zero_le _, Nat.zero_le _⟩, fun _ z => nof (by decide) z⟩
      · exact ⟨⟨Nat.zero_le _, Nat.zero_le _⟩, fun _ z => nof (by decide) z⟩
      · have fa : tF3 a := by rw [if_neg (by decide)] at f2; exact f2
        obtain ⟨ia, ja⟩ := (cv_lf a fa 2 ha env).1
        rw [if_neg (by decide), if_neg (by decide)] at ia
        refine ⟨⟨?_, ja⟩, fun _ z => nof (by decide) z⟩
        show ((tN (gNu f pp ee env d.1), tQn a) :: cvC f pp ee tN a env).length ≤ lfN a + 1
        rw [List.length_cons]
        omega
      · have fa : tF3 a := by rw [if_neg (by decide)] at f2; exact f2
        exact ⟨(cv_lf a fa 0 ha env).1, fun _ z => nof (by decide) z⟩
      · exact ⟨⟨Nat.zero_le _, Nat.zero_le _⟩, fun _ z => nof (by decide) z⟩
      · have fa : tF3 a := by rw [if_neg (by decide)] at f2; exact f2
        obtain ⟨ia, ja⟩ := (cv_lf a fa 0 ha env).1
        obtain ⟨ib, jb⟩ := (cv_lf b f3 0 hb (env ++ [d.2.1, d.2.1 + 1])).1
        rw [if_pos rfl] at ia ib
        refine ⟨⟨?_, ?_⟩, fun _ z => nof (by decide) z⟩
        · show (cvC f pp ee tN a env ++ cvC f pp ee tN b (env ++ [d.2.1, d.2.1 + 1])).length ≤ (1 + (lfN a + lfN b)) + 1
          rw [List.length_append]
          omega
        · show (1 + (lfN a + lfN b)) + (rcN a + rcN b) ≤ ((2 * d.1, tE d.1, []) :: (tLs tE tN a ++ tLs tE tN b)).length
          rw [List.length_cons, List.length_append]
          omega
end CLF
