/-! ROOM: the units of a PROGRAM, and their steps -/
section GUN
variable {kk : Nat → Int32} {cnt : Nat} {tN : Nat → tY}
/-- a unit with its steps is a unit with its measured NAMES -/
theorem gUi_n : ∀ (t : tT) (env : List Nat) (x : (Nat × Nat) × Nat), x ∈ gUi t → ∃ m, (x.1, m) ∈ gUn tN t env
  | .leaf, _, _, h => by cases h
  | .inner g d z a b, env, x, h => by
    have Ia := fun env' => gUi_n a env' x
    have Ib := fun env' => gUi_n b env' x
    rw [gUi] at h
    rw [gUn]
    by_cases c1 : g = 1
    · rw [if_pos c1] at h ⊢
      rcases List.mem_cons.mp h with e | h
      · rw [e]; exact ⟨_, List.mem_cons_self ..⟩
      · rcases List.mem_append.mp h with h | h
        · obtain ⟨m, hm⟩ := Ia env h
          exact ⟨m, List.mem_cons_of_mem _ (List.mem_append_left _ hm)⟩
        · obtain ⟨m, hm⟩ := Ib (env ++ [d.1 + 1]) h
          exact ⟨m, List.mem_cons_of_mem _ (List.mem_append_right _ hm)⟩
    rw [if_neg c1] at h ⊢
    by_cases c2 : g = 2
    · rw [if_pos c2] at h ⊢
      rcases List.mem_cons.mp h with e | h
      · rw [e]; exact ⟨_, List.mem_cons_self ..⟩
      rcases List.mem_cons.mp h with e | h
      · rw [e]; exact ⟨_, List.mem_cons_of_mem _ (List.mem_cons_self ..)⟩
      rcases List.mem_append.mp h with h | h
      · obtain ⟨i, h1, h2⟩ := List.mem_map.mp h
        rw [← h2]
        exact ⟨_, List.mem_cons_of_mem _ (List.mem_cons_of_mem _ (List.mem_append_left _ (List.mem_map.mpr ⟨i, h1, rfl⟩)))⟩
      rcases List.mem_append.mp h with h | h
      · obtain ⟨m, hm⟩ := Ia (env ++ ([d.1 + 2] ++ List.range' (d.1 + 3) d.2.1)) h
        exact ⟨m, List.mem_cons_of_mem _ (List.mem_cons_of_mem _ (List.mem_append_right _ (List.mem_append_left _ hm)))⟩
      · obtain ⟨m, hm⟩ := Ib (env ++ [d.1 + 2]) h
        exact ⟨m, List.mem_cons_of_mem _ (List.mem_cons_of_mem _ (List.mem_append_right _ (List.mem_append_right _ hm)))⟩
    rw [if_neg c2] at h ⊢
    by_cases c3 : g = 3
    · rw [if_pos c3] at h ⊢
      rcases List.mem_cons.mp h with e | h
      · rw [e]; exact ⟨_, List.mem_cons_self ..⟩
      rcases List.mem_cons.mp h with e | h
      · rw [e]; exact ⟨_, List.mem_cons_of_mem _ (List.mem_cons_self ..)⟩
      · obtain ⟨m, hm⟩ := Ia (env ++ [d.1 + 1]) h
        exact ⟨m, List.mem_cons_of_mem _ (List.mem_cons_of_mem _ hm)⟩
    rw [if_neg c3] at h ⊢
    by_cases c4 : g = 4
    · rw [if_pos c4] at h ⊢
      rcases List.mem_cons.mp h with e | h
      · rw [e]; exact ⟨_, List.mem_cons_self ..⟩
      · obtain ⟨m, hm⟩ := Ib env h
        exact ⟨m, List.mem_cons_of_mem _ hm⟩
    rw [if_neg c4] at h ⊢
    by_cases c19 : g = 19
    · rw [if_pos c19] at h ⊢
      rcases List.mem_cons.mp h with e | h
      · rw [e]; exact ⟨_, List.mem_cons_self ..⟩
      · rcases List.mem_append.mp h with h | h
        · obtain ⟨m, hm⟩ := Ia env h
          exact ⟨m, List.mem_cons_of_mem _ (List.mem_append_left _ hm)⟩
        · obtain ⟨m, hm⟩ := Ib (env ++ [d.2.1, d.2.1 + 1]) h
          exact ⟨m, List.mem_cons_of_mem _ (List.mem_append_right _ hm)⟩
    rw [if_neg c19] at h ⊢
    by_cases c5 : g = 5 ∨ g = 33 ∨ g = 35
    · rw [if_pos c5] at h ⊢
      exact Ib env h
    rw [if_neg c5] at h ⊢
    by_cases c6 : g = 6 ∨ g = 15 ∨ g = 16
    · rw [if_pos c6] at h ⊢
      exact Ia env h
    rw [if_neg c6] at h ⊢
    by_cases c31 : g = 31 ∨ g = 34
    · rw [if_pos c31] at h ⊢
      rcases List.mem_append.mp h with h | h
      · obtain ⟨m, hm⟩ := Ia env h
        exact ⟨m, List.mem_append_left _ hm⟩
      · obtain ⟨m, hm⟩ := Ib env h
        exact ⟨m, List.mem_append_right _ hm⟩
    rw [if_neg c31] at h
    cases h
/-- a parameter is one of at most 4 -/
theorem gUi_3 : ∀ (t : tT) (l : Nat), tWf kk cnt t l → ∀ x, x ∈ gUi t → x.2 ≤ 3
  | .leaf, _, _, _, h => by cases h
  | .inner g d z a b, l, h, x, hx => by
    rcases h with ⟨rfl, rfl, -, ha, hb⟩ | ⟨rfl, -, hb, h⟩ | ⟨rfl, h⟩
    · rcases List.mem_append.mp (show x ∈ gUi a ++ gUi b from hx) with q | q
      · exact gUi_3 a _ ha x q
      · exact gUi_3 b _ hb x q
    · rcases h with ⟨rfl, -, -⟩ | ⟨rfl, -, ha⟩ | ⟨rfl, -, -, -⟩
      · exact gUi_3 b _ hb x hx
      · rcases List.mem_append.mp (show x ∈ gUi a ++ gUi b from hx) with q | q
        · exact gUi_3 a _ ha x q
        · exact gUi_3 b _ hb x q
      · exact gUi_3 b _ hb x hx
    · rcases h with ⟨rfl, -, ha, hb⟩ | ⟨rfl, ⟨h4, -⟩, ha, hb⟩ | ⟨rfl, -, ha⟩ | ⟨rfl, -, hb⟩ | ⟨rfl, -, hb⟩ | ⟨rfl, -, -, ha⟩ | ⟨rfl | rfl, -⟩ | ⟨rfl | rfl | rfl, -⟩ | ⟨rfl | rfl | rfl, -⟩ | ⟨rfl, -⟩ | ⟨rfl, -, ha⟩ | ⟨rfl, -, ha, -⟩ | ⟨rfl, -⟩ | ⟨rfl, -, ha, hb⟩
      · rcases List.mem_cons.mp (show x ∈ (((0, 2 * d.1) : Nat × Nat), 0) :: (gUi a ++ gUi b) from hx) with e | q
        · rw [e]; exact Nat.zero_le _
        · rcases List.mem_append.mp q with q | q
          · exact gUi_3 a _ ha x q
          · exact gUi_3 b _ hb x q
      · rcases List.mem_cons.mp (show x ∈ (((0, 2 * d.1) : Nat × Nat), 0) :: (((0, 2 * d.1 + 1) : Nat × Nat), 0) :: ((List.range d.2.1).map (fun i => (((1, d.1 + 3 + i) : Nat × Nat), i)) ++ (gUi a ++ gUi b)) from hx) with e | q
        · rw [e]; exact Nat.zero_le _
        rcases List.mem_cons.mp q with e | q
        · rw [e]; exact Nat.zero_le _
        rcases List.mem_append.mp q with q | q
        · obtain ⟨i, h1, h2⟩ := List.mem_map.mp q
          have h1 := List.mem_range.mp h1
          rw [← h2]
          show i ≤ 3
          omega
        · rcases List.mem_append.mp q with q | q
          · exact gUi_3 a _ ha x q
          · exact gUi_3 b _ hb x q
      · rcases List.mem_cons.mp (show x ∈ (((0, 2 * d.1) : Nat × Nat), 0) :: (((1, d.1 + 1) : Nat × Nat), 0) :: gUi a from hx) with e | q
        · rw [e]; exact Nat.zero_le _
        rcases List.mem_cons.mp q with e | q
        · rw [e]; exact Nat.zero_le _
        · exact gUi_3 a _ ha x q
      · rcases List.mem_cons.mp (show x ∈ (((0, 2 * d.1) : Nat × Nat), 0) :: gUi b from hx) with e | q
        · rw [e]; exact Nat.zero_le _
        · exact gUi_3 b _ hb x q
      · exact gUi_3 b _ hb x hx
      · exact gUi_3 a _ ha x hx
      · cases hx
      · cases hx
      · cases hx
      · cases hx
      · cases hx
      · cases hx
      · cases hx
      · cases hx
      · cases hx
      · exact gUi_3 a _ ha x hx
      · exact gUi_3 a _ ha x hx
      · cases hx
      · rcases List.mem_cons.mp (show x ∈ (((0, 2 * d.1) : Nat × Nat), 0) :: (gUi a ++ gUi b) from hx) with e | q
        · rw [e]; exact Nat.zero_le _
        · rcases List.mem_append.mp q with q | q
          · exact gUi_3 a _ ha x q
          · exact gUi_3 b _ hb x q
end GUN
section TXU
variable {T len cnt j N S P Q x0 : Nat} {kk pp ee f fc : Nat → Int32} {xs : List tQ} {is : List (Nat × Nat)} {e : tT} {α : Nat → tY} {g' : gG} {ρ' : Nat → tY} {τ : zSt}
/-- **a PROGRAM's units are well made; at most 3 steps before them** -/
theorem tx_gu (hT : 2010 ≤ T) (hp : pgT T len cnt j kk pp ee f fc xs is e α) (hR : pgR T len cnt kk pp ee f xs is e α N S P Q x0 g' ρ' τ) : ∀ x, x ∈ gUi e → yG (uY (pTE f pp ee is e α) (pTN f pp ee is e α) x.1) ∧ x.2 ≤ 3 := fun x hx => by
  obtain ⟨ρ, H⟩ := tx_tl hT hp hR
  obtain ⟨m, hm⟩ := gUi_n (tN := pTN f pp ee is e α) e (is.map Prod.fst) x hx
  obtain ⟨-, -, -, -, -, ⟨⟨g1, g2, -, -⟩, -, -⟩, -⟩ := hp
  exact ⟨(sx_u H hm).1, gUi_3 e 0 g2 x hx⟩
set_option maxHeartbeats 1000000 in
/-- **what the calls of a PROGRAM take, where no unit's row is longer than R** -/
theorem tx_ck {wt : Nat} {R : Nat} (hT : 2010 ≤ T) (hp : pgT T len cnt j kk pp ee f fc xs is e α) (hR : pgR T len cnt kk pp ee f xs is e α N S P Q x0 g' ρ' τ) (hS : ∀ x, x ∈ gUi e → ySp (uY (pTE f pp ee is e α) (pTN f pp ee is e α) x.1) ≤ R) : (∀ c, c ∈ cvE f pp ee wt (pTN f pp ee is e α) e (is.map Prod.fst) (fun _ => 0) → c.2.2.2 ≤ kB wt (fun _ => R + 2) c.2.1 c.1 c.2.2.1) ∧ ∀ y r, chE (pTE f pp ee is e α) (pTN f pp ee is e α) (gUi e) (cvE f pp ee wt (pTN f pp ee is e α) e (is.map Prod.fst) (fun _ => 0)) y r → yK y = 1 → r ≤ R + 2 := by
  obtain ⟨t1, -, t3⟩ := tx_ch hT hp hR.2.1
  have G := tx_gu hT hp hR
  have bd : ∃ M, ∀ c, c ∈ cvE f pp ee wt (pTN f pp ee is e α) e (is.map Prod.fst) (fun _ => 0) → yZ c.1 ≤ M := by
    generalize cvE f pp ee wt (pTN f pp ee is e α) e (is.map Prod.fst) (fun _ => 0) = L
    induction L with
    | nil => exact ⟨0, fun c h => by cases h⟩
    | cons c L ih =>
      obtain ⟨M, hM⟩ := ih
      refine ⟨max M (yZ c.1), fun d hd => ?_⟩
      rcases List.mem_cons.mp hd with e | e
      · rw [e]; omega
      · have := hM d e
        omega
  obtain ⟨M, hM⟩ := bd
  have K := ch_r (R := R + 2) t1 hM (fun x hx => ⟨(G x hx).1, by
    have h1 := (G x hx).2
    have h2 := hS x hx
    omega⟩)
  exact ⟨t3 (fun _ => R + 2) K, K⟩
end TXU
