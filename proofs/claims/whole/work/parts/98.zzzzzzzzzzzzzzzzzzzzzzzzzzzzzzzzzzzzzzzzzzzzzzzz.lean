/-! ROOM: TEMPLATES of functions that are ARGS -/
/-- a TEMPLATE of a fun -/
def fuP (x : Nat × tY × List Nat) : Bool := decide (x.2.2 ≠ []) && decide (x.1 % 2 = 0)
section FUP
variable {kk : Nat → Int32} {cnt : Nat} {tE tN : Nat → tY}
set_option maxHeartbeats 1000000 in
/-- **functions that are ARGS are no more than TEMPLATES of funs** -/
theorem gf_le : ∀ (t : tT), tF3 t → ∀ l, tWf kk cnt t l → gfN t ≤ ((tLs tE tN t).filter fuP).length ∧ (l = 0 → (∃ d z a b, t = .inner 3 d z a b) → gfN t + 1 ≤ ((tLs tE tN t).filter fuP).length)
  | .leaf, _, l, h => ⟨Nat.zero_le _, fun _ ⟨_, _, _, _, e⟩ => by cases e⟩
  | .inner g d u a b, h3, l, h => by
    obtain ⟨f1, f2, f3⟩ := h3
    have T0 : ∀ x : Nat × tY × List Nat, x.2.2 = [] → fuP x = false := fun x h => by
      unfold fuP
      rw [decide_eq_false (by rw [h]; exact fun z => z rfl)]
      rfl
    rcases h with ⟨rfl, rfl, -, ha, hb⟩ | ⟨rfl, -, hb, h⟩ | ⟨rfl, h⟩
    · have fa : tF3 a := by rw [if_neg (by decide)] at f2; exact f2
      have ja := (gf_le a fa 0 ha).1
      have jb := (gf_le b f3 0 hb).1
      refine ⟨?_, fun z => (by cases z)⟩
      show gfN a + gfN b ≤ ((tLs tE tN a ++ tLs tE tN b).filter fuP).length
      rw [List.filter_append, List.length_append]
      omega
    · have jb := (gf_le b f3 2 hb).1
      rcases h with ⟨rfl, -, -⟩ | ⟨rfl, -, ha⟩ | ⟨rfl, -, -, -⟩
      · exact ⟨jb, fun z => (by cases z)⟩
      · have fa : tF3 a := by rw [if_neg (by decide)] at f2; exact f2
        have ja := (gf_le a fa 0 ha).2 rfl (f1 rfl)
        refine ⟨?_, fun z => (by cases z)⟩
        show 1 + (gfN a + gfN b) ≤ ((tLs tE tN a ++ tLs tE tN b).filter fuP).length
        rw [List.filter_append, List.length_append]
        omega
      · exact ⟨jb, fun z => (by cases z)⟩
    · have nof : ∀ {P : Prop}, g ≠ 3 → (∃ d' z' a' b', (Std.DTreeMap.Internal.Impl.inner g d u a b : tT) = .inner 3 d' z' a' b') → P := fun n ⟨_, _, _, _, e⟩ => by
        injection e with e
        exact absurd e n
      rcases h with ⟨rfl, -, ha, hb⟩ | ⟨rfl, -, ha, hb⟩ | ⟨rfl, -, ha⟩ | ⟨rfl, -, hb⟩ | ⟨rfl, -, hb⟩ | ⟨rfl, -, -, ha⟩ | ⟨rfl | rfl, -⟩ | ⟨rfl | rfl | rfl, -⟩ | ⟨rfl | rfl | rfl, -⟩ | ⟨rfl, -⟩ | ⟨rfl, -, ha⟩ | ⟨rfl, -, ha, -⟩ | ⟨rfl, -⟩ | ⟨rfl, -, ha, hb⟩
      · have fa : tF3 a := by rw [if_neg (by decide)] at f2; exact f2
        have ja := (gf_le a fa 0 ha).1
        have jb := (gf_le b f3 0 hb).1
        refine ⟨?_, fun _ z => nof (by decide) z⟩
        show gfN a + gfN b ≤ (((2 * d.1, tE d.1, []) :: (tLs tE tN a ++ tLs tE tN b)).filter fuP).length
        rw [List.filter_cons, T0 _ rfl, if_neg (by decide), List.filter_append, List.length_append]
        omega
      · have fa : tF3 a := by rw [if_neg (by decide)] at f2; exact f2
        have ja := (gf_le a fa 0 ha).1
        have jb := (gf_le b f3 0 hb).1
        refine ⟨?_, fun _ z => nof (by decide) z⟩
        show gfN a + gfN b ≤ (((2 * d.1, tE d.1, []) :: (2 * d.1 + 1, tN (d.1 + 2), List.range' (d.1 + 3) d.2.1) :: (tLs tE tN a ++ tLs tE tN b)).filter fuP).length
        have q : fuP (2 * d.1 + 1, tN (d.1 + 2), List.range' (d.1 + 3) d.2.1) = false := by
          unfold fuP
          rw [decide_eq_false (show ¬ (2 * d.1 + 1) % 2 = 0 by omega), Bool.and_false]
        rw [List.filter_cons, T0 _ rfl, if_neg (by decide), List.filter_cons, q, if_neg (by decide), List.filter_append, List.length_append]
        omega
      · have fa : tF3 a := by rw [if_neg (by decide)] at f2; exact f2
        have ja := (gf_le a fa 0 ha).1
        have k : gfN a + 1 ≤ (((2 * d.1, tE d.1, [d.1 + 1]) :: tLs tE tN a).filter fuP).length := by
          have q : fuP (2 * d.1, tE d.1, [d.1 + 1]) = true := by
            unfold fuP
            rw [decide_eq_true (show (2 * d.1) % 2 = 0 by omega), Bool.and_true]
            exact decide_eq_true (fun z => by cases z)
          rw [List.filter_cons, if_pos q, List.length_cons]
          omega
        exact ⟨Nat.le_trans (Nat.le_add_right _ 1) k, fun _ _ => k⟩
      · have jb := (gf_le b f3 1 hb).1
        refine ⟨?_, fun _ z => nof (by decide) z⟩
        show gfN b ≤ (((2 * d.1, tE d.1, []) :: tLs tE tN b).filter fuP).length
        rw [List.filter_cons, T0 _ rfl, if_neg (by decide)]
        exact jb
      · exact ⟨(gf_le b f3 0 hb).1, fun _ z => nof (by decide) z⟩
      · have fa : tF3 a := by rw [if_neg (by decide)] at f2; exact f2
        exact ⟨(gf_le a fa 0 ha).1, fun _ z => nof (by decide) z⟩
      · exact ⟨Nat.zero_le _, fun _ z => nof (by decide) z⟩
      · exact ⟨Nat.zero_le _, fun _ z => nof (by decide) z⟩
      · exact ⟨Nat.zero_le _, fun _ z => nof (by decide) z⟩
      · exact ⟨Nat.zero_le _, fun _ z => nof (by decide) z⟩
      · exact ⟨Nat.zero_le _, fun _ z => nof (by decide) z⟩
      · exact ⟨Nat.zero_le _, fun _ z => nof (by decide) z⟩
      · exact ⟨Nat.zero_le _, fun _ z => nof (by decide) z⟩
      · exact ⟨Nat.zero_le _, fun _ z => nof (by decide) z⟩
      · exact ⟨Nat.zero_le _, fun _ z => nof (by decide) z⟩
      · have fa : tF3 a := by rw [if_neg (by decide)] at f2; exact f2
        exact ⟨(gf_le a fa 2 ha).1, fun _ z => nof (by decide) z⟩
      · have fa : tF3 a := by rw [if_neg (by decide)] at f2; exact f2
        exact ⟨(gf_le a fa 0 ha).1, fun _ z => nof (by decide) z⟩
      · exact ⟨Nat.zero_le _, fun _ z => nof (by decide) z⟩
      · have fa : tF3 a := by rw [if_neg (by decide)] at f2; exact f2
        have ja := (gf_le a fa 0 ha).1
        have jb := (gf_le b f3 0 hb).1
        refine ⟨?_, fun _ z => nof (by decide) z⟩
        show gfN a + gfN b ≤ (((2 * d.1, tE d.1, []) :: (tLs tE tN a ++ tLs tE tN b)).filter fuP).length
        rw [List.filter_cons, T0 _ rfl, if_neg (by decide), List.filter_append, List.length_append]
        omega
end FUP
/-- of a list, one thing and those of a kind -/
theorem su_ki {α : Type} (f : α → Nat) (p : α → Bool) : ∀ (l : List α), (∀ x, x ∈ l → p x = true → 1 ≤ f x) → (l.filter p).length ≤ (l.map f).sum ∧ ∀ x, x ∈ l → f x + (l.filter p).length ≤ (l.map f).sum + 1
  | [], _ => ⟨Nat.le_refl _, fun x h => by cases h⟩
  | y :: l, h => by
    obtain ⟨i1, i2⟩ := su_ki f p l (fun x hx => h x (List.mem_cons_of_mem _ hx))
    have e : (y :: l).filter p = if p y = true then y :: l.filter p else l.filter p := List.filter_cons
    rw [e, List.map_cons, List.sum_cons]
    refine ⟨?_, fun x hx => ?_⟩
    · split
      · rename_i c
        have := h y (List.mem_cons_self ..) c
        rw [List.length_cons]; omega
      · omega
    · rcases List.mem_cons.mp hx with q | q
      · rw [q]
        split
        · rw [List.length_cons]; omega
        · omega
      · have j := i2 x q
        split
        · rename_i c
          have := h y (List.mem_cons_self ..) c
          rw [List.length_cons]; omega
        · omega
