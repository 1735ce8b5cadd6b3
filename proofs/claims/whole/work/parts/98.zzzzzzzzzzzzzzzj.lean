/-! types of NAMES are no deeper than TEMPLATES -/
section GDP
variable {f pp ee kk : Nat → Int32} {tE tN : Nat → tY} {D cnt : Nat}
/-- TEMPLATES are at most so deep -/
def gDb (tE tN : Nat → tY) (D : Nat) : tT → Prop
  | .leaf => True
  | .inner g d _ a b => (g = 1 ∨ g = 2 ∨ g = 3 ∨ g = 4 ∨ g = 19 → yDp (tE d.1) ≤ D) ∧ (g = 2 → yDp (tN (d.1 + 2)) ≤ D) ∧ (if g = 4 ∨ g = 5 then True else gDb tE tN D a) ∧ gDb tE tN D b
theorem yDp_A (l r : tY) : yDp (yA l r) = max (yDp l) (yDp r) + 1 := rfl
theorem yDp_R (y : tY) : yDp (yR y) ≤ yDp y ∨ yDp (yR y) = 0 ∨ ¬ yIs y := by
  by_cases h : yIs y
  · left
    have h' : y = yA (yL y) (yR y) := h
    have e : yDp y = max (yDp (yL y)) (yDp (yR y)) + 1 := by
      conv => lhs; rw [h']
      rfl
    omega
  · exact Or.inr (Or.inr h)
theorem yDp_fn : ∀ (q w : Nat) (r : tY), yDp r ≤ yDp (gFn tN q w r) ∧ ∀ i, i < q → yDp (tN (w + i)) ≤ yDp (gFn tN q w r)
  | 0, w, r => ⟨Nat.le_refl _, fun i hi => by omega⟩
  | q + 1, w, r => by
    obtain ⟨h1, h2⟩ := yDp_fn q (w + 1) r
    have e : yDp (gFn tN (q + 1) w r) = max (yDp (tN w)) (yDp (gFn tN q (w + 1) r)) + 1 := rfl
    refine ⟨by omega, fun i hi => ?_⟩
    cases i with
    | zero => rw [Nat.add_zero]; omega
    | succ i =>
      have := h2 i (by omega)
      rw [show w + 1 + i = w + (i + 1) by omega] at this
      omega
/-- ARGS take no more than the type has -/
theorem gOk_rs : ∀ (t : tT) (env : List Nat) (y : tY), tWf kk cnt t 2 → gOk f pp ee tE tN t env y → yDp (yRs (tQn t) y) ≤ yDp y
  | .leaf, _, _, _, _ => Nat.le_refl _
  | .inner g d z a b, env, y, wf, ok => by
    rcases wf with ⟨h, _⟩ | ⟨_, _, wb, w⟩ | ⟨h, _⟩
    · cases h
    · have hy : yIs y ∧ gOk f pp ee tE tN b env (yR y) := by
        rcases w with ⟨rfl, _⟩ | ⟨rfl, _⟩ | ⟨rfl, _⟩
        · exact ⟨ok.1, ok.2.2⟩
        · exact ⟨ok.1, ok.2.2⟩
        · exact ⟨ok.1, ok.2.2⟩
      have I := gOk_rs b env (yR y) wb hy.2
      show yDp (yRs (tQn b) (yR y)) ≤ yDp y
      have h' : y = yA (yL y) (yR y) := hy.1
      have e : yDp y = max (yDp (yL y)) (yDp (yR y)) + 1 := by
        conv => lhs; rw [h']
        rfl
      omega
    · cases h
set_option maxHeartbeats 1000000 in
theorem gOk_dp : ∀ (t : tT) (l : Nat) (env : List Nat) (y : tY), tWf kk cnt t l → gOk f pp ee tE tN t env y → gDb tE tN D t → (∀ u, u = 0 ∨ u ∈ env → yDp (tN u) ≤ D) → (l ≠ 0 → yDp y ≤ D) → (tGd kk cnt t) → yDp y ≤ D ∧ ∀ u, u ∈ tW t → yDp (tN u) ≤ D
  | .leaf, l, env, y, wf, ok, hD, hE, hl, _ => ⟨hl (by have : l = 2 := wf; omega), fun u hu => by cases hu⟩
  | .inner g d z a b, l, env, y, wf, ok, hD, hE, hl, hG => by
    have Ia := gOk_dp a
    have Ib := gOk_dp b
    obtain ⟨-, -, ⟨-, g14, g3⟩, ga, gb⟩ := hG
    obtain ⟨d1, d2, da, db⟩ := hD
    have nu : ∀ w, yDp (tN (gNu f pp ee env w)) ≤ D := fun w => hE _ (gNu_in env w)
    have ap : ∀ {env' : List Nat}, (∀ u, u ∈ env' → yDp (tN u) ≤ D) → ∀ u, u = 0 ∨ u ∈ env ++ env' → yDp (tN u) ≤ D := fun h u hu => by
      rcases hu with hu | hu
      · exact hE u (Or.inl hu)
      · rcases List.mem_append.mp hu with hu | hu
        · exact hE u (Or.inr hu)
        · exact h u hu
    rcases wf with ⟨rfl, rfl, _, wa, wb⟩ | ⟨rfl, _, wb, w⟩ | ⟨rfl, w⟩
    · have h := hl (by decide)
      obtain ⟨o1, o2⟩ : gOk f pp ee tE tN a env y ∧ gOk f pp ee tE tN b env y := ok
      refine ⟨h, fun u hu => ?_⟩
      have hu : u ∈ tW a ++ tW b := hu
      rcases List.mem_append.mp hu with hu | hu
      · exact (Ia 0 env y wa o1 da hE (fun z => absurd rfl z) ga).2 u hu
      · exact (Ib 0 env y wb o2 db hE (fun z => absurd rfl z) gb).2 u hu
    · have h := hl (by decide)
      refine ⟨h, ?_⟩
      have yr : yIs y → yDp (yR y) ≤ D ∧ yDp (yL y) ≤ D := fun hi => by
        have h' : y = yA (yL y) (yR y) := hi
        have e : yDp y = max (yDp (yL y)) (yDp (yR y)) + 1 := by
          conv => lhs; rw [h']
          rfl
        omega
      rcases w with ⟨rfl, _, rfl⟩ | ⟨rfl, _, wa⟩ | ⟨rfl, _, rfl, _⟩
      · exact fun u hu => (Ib 2 env (yR y) wb ok.2.2 db hE (fun _ => (yr ok.1).1) gb).2 u hu
      · intro u hu
        have hu : u ∈ tW a ++ tW b := hu
        rcases List.mem_append.mp hu with hu | hu
        · exact (Ia 0 env (yL y) wa ok.2.1 da hE (fun z => absurd rfl z) ga).2 u hu
        · exact (Ib 2 env (yR y) wb ok.2.2 db hE (fun _ => (yr ok.1).1) gb).2 u hu
      · exact fun u hu => (Ib 2 env (yR y) wb ok.2.2 db hE (fun _ => (yr ok.1).1) gb).2 u hu
    · rcases w with ⟨rfl, _, wa, wb⟩ | ⟨rfl, w2, wa, wb⟩ | ⟨rfl, _, wa⟩ | ⟨rfl, wc, wb⟩ | ⟨rfl, wc, wb⟩ | ⟨rfl, _, _, wa⟩ | ⟨h7, _, _, rfl, rfl⟩ | ⟨h7, _, rfl, rfl⟩ | ⟨h7, _, rfl, rfl⟩ | ⟨rfl, _⟩ | ⟨rfl, _, wa⟩ | ⟨rfl, _, wa, rfl⟩ | ⟨rfl, _⟩ | ⟨rfl, _, wa, wb⟩
      · obtain ⟨o1, o2, o3⟩ : tE d.1 = y ∧ gOk f pp ee tE tN a env (tN (d.1 + 1)) ∧ gOk f pp ee tE tN b (env ++ [d.1 + 1]) y := ok
        have ja := Ia 0 env _ wa o2 da hE (fun z => absurd rfl z) ga
        have jb := Ib 0 _ y wb o3 db (ap (fun u hu => by rw [List.mem_singleton.mp hu]; exact ja.1)) (fun z => absurd rfl z) gb
        refine ⟨jb.1, fun u hu => ?_⟩
        have hu : u ∈ (d.1 + 1) :: (tW a ++ tW b) := hu
        rcases List.mem_cons.mp hu with hu | hu
        · rw [hu]; exact ja.1
        · rcases List.mem_append.mp hu with hu | hu
          · exact ja.2 u hu
          · exact jb.2 u hu
      · obtain ⟨o1, ⟨r, o2, o3⟩, o4⟩ : tE d.1 = y ∧ (∃ r, tN (d.1 + 2) = gFn tN d.2.1 (d.1 + 3) r ∧ gOk f pp ee tE tN a (env ++ ([d.1 + 2] ++ List.range' (d.1 + 3) d.2.1)) r) ∧ gOk f pp ee tE tN b (env ++ [d.1 + 2]) y := ok
        have hF := d2 rfl
        have hP : ∀ u, u ∈ List.range' (d.1 + 3) d.2.1 → yDp (tN u) ≤ D := fun u hu => by
          rw [List.mem_range'_1] at hu
          have := (yDp_fn (tN := tN) d.2.1 (d.1 + 3) r).2 (u - (d.1 + 3)) (by omega)
          rw [show d.1 + 3 + (u - (d.1 + 3)) = u by omega, ← o2] at this
          omega
        have ja := Ia 0 _ r wa o3 da (ap (fun u hu => by
          rcases List.mem_append.mp hu with hu | hu
          · rw [List.mem_singleton.mp hu]; exact hF
          · exact hP u hu)) (fun z => absurd rfl z) ga
        have jb := Ib 0 _ y wb o4 db (ap (fun u hu => by rw [List.mem_singleton.mp hu]; exact hF)) (fun z => absurd rfl z) gb
        refine ⟨jb.1, fun u hu => ?_⟩
        have hu : u ∈ (d.1 + 2) :: (List.range' (d.1 + 3) d.2.1 ++ (tW a ++ tW b)) := hu
        rcases List.mem_cons.mp hu with hu | hu
        · rw [hu]; exact hF
        · rcases List.mem_append.mp hu with hu | hu
          · exact hP u hu
          · rcases List.mem_append.mp hu with hu | hu
            · exact ja.2 u hu
            · exact jb.2 u hu
      · obtain ⟨o1, r, o2, o3⟩ : tE d.1 = y ∧ ∃ r, y = yA (tN (d.1 + 1)) r ∧ gOk f pp ee tE tN a (env ++ [d.1 + 1]) r := ok
        have hy : yDp y ≤ D := by rw [← o1]; exact d1 (Or.inr (Or.inr (Or.inl rfl)))
        have hx : yDp (tN (d.1 + 1)) ≤ D := by rw [o2, yDp_A] at hy; omega
        have ja := Ia 0 _ r wa o3 da (ap (fun u hu => by rw [List.mem_singleton.mp hu]; exact hx)) (fun z => absurd rfl z) ga
        refine ⟨hy, fun u hu => ?_⟩
        have hu : u ∈ (d.1 + 1) :: tW a := hu
        rcases List.mem_cons.mp hu with hu | hu
        · rw [hu]; exact hx
        · exact ja.2 u hu
      · obtain ⟨o1, -, o2⟩ : tE d.1 = y ∧ _ ∧ gOk f pp ee tE tN b env y := ok
        have hy : yDp y ≤ D := by rw [← o1]; exact d1 (Or.inr (Or.inr (Or.inr (Or.inl rfl))))
        exact Ib 1 env y wb o2 db hE (fun _ => hy) gb
      · exact Ib 0 env y wb ok.2 db hE (fun z => absurd rfl z) gb
      · exact Ia 0 env y wa ok.2.2 da hE (fun z => absurd rfl z) ga
      · rcases h7 with rfl | rfl
        · exact ⟨by rw [ok.1]; exact Nat.zero_le _, fun u hu => by cases hu⟩
        · refine ⟨?_, fun u hu => by cases hu⟩
          rw [ok.1]
          unfold gSk
          split
          · exact nu _
          · exact Nat.zero_le _
      · rcases h7 with rfl | rfl | rfl
        all_goals exact ⟨by rw [show y = _ from ok]; exact Nat.zero_le _, fun u hu => by cases hu⟩
      · rcases h7 with rfl | rfl | rfl
        all_goals exact ⟨by rw [ok.1]; exact Nat.zero_le _, fun u hu => by cases hu⟩
      · exact ⟨by rw [ok.1]; exact Nat.zero_le _, fun u hu => by cases hu⟩
      · obtain ⟨o1, o2⟩ : y = yRs (tQn a) (tN (gNu f pp ee env d.1)) ∧ gOk f pp ee tE tN a env (tN (gNu f pp ee env d.1)) := ok
        have hn := nu d.1
        have := gOk_rs a env _ wa o2
        refine ⟨by rw [o1]; omega, fun u hu => (Ia 2 env _ wa o2 da hE (fun _ => hn) ga).2 u hu⟩
      · have ja := Ia 0 env y wa ok da hE (fun z => absurd rfl z) ga
        refine ⟨ja.1, fun u hu => ?_⟩
        have hu : u ∈ tW a ++ [] := hu
        rw [List.append_nil] at hu
        exact ja.2 u hu
      · exact ⟨by rw [ok.1]; exact Nat.zero_le _, fun u hu => by cases hu⟩
      · obtain ⟨o1, -, ⟨o4, o5⟩, o2, o3⟩ : tE d.1 = y ∧ _ ∧ (tN d.2.1 = yB 0 ∧ tN (d.2.1 + 1) = yB 3) ∧ gOk f pp ee tE tN a env y ∧ gOk f pp ee tE tN b (env ++ [d.2.1, d.2.1 + 1]) y := ok
        have hP : ∀ u, u ∈ [d.2.1, d.2.1 + 1] → yDp (tN u) ≤ D := fun u hu => by
          rcases List.mem_cons.mp hu with h | h
          · rw [h, o4]; exact Nat.zero_le _
          · rw [List.mem_singleton.mp h, o5]; exact Nat.zero_le _
        have ja := Ia 0 env y wa o2 da hE (fun z => absurd rfl z) ga
        have jb := Ib 0 _ y wb o3 db (ap hP) (fun z => absurd rfl z) gb
        refine ⟨ja.1, fun u hu => ?_⟩
        have hu : u ∈ tW a ++ ([d.2.1, d.2.1 + 1] ++ tW b) := hu
        rcases List.mem_append.mp hu with hu | hu
        · exact ja.2 u hu
        · rcases List.mem_append.mp hu with hu | hu
          · exact hP u hu
          · exact jb.2 u hu
end GDP
