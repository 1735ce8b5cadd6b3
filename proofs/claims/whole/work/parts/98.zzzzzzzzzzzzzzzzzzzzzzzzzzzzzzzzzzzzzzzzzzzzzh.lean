/-! ROOM: chains of calls for arrows that lie one in another -/
/-- where a call of a chain stands -/
theorem chR_at : ∀ (T : List (tY × Nat × Nat × Nat)) (U : tY) (i : Nat) (Y : tY) (r : Nat) (e : tY × Nat × Nat × Nat), chR U i T Y r → e ∈ T → ∃ a m, e.1 = yRs a U ∧ Y = yRs m e.1
  | [], _, _, _, _, _, _, h => by cases h
  | c :: T, U, i, Y, r, e, h, he => by
    rcases List.mem_cons.mp he with z | z
    · obtain ⟨h1, -⟩ := chR_to (c :: T) U i Y r h
      exact ⟨0, chN (c :: T), by rw [z]; exact h.1.1, by rw [z, h.1.1]; exact h1⟩
    · obtain ⟨a, m, h1, h2⟩ := chR_at T _ _ _ _ e h.2 z
      exact ⟨c.2.1 + a, m, by rw [yRs_ad]; exact h1, h2⟩
theorem yZ_rm (U : tY) (a b : Nat) (h : a ≤ b) : yZ (yRs b U) ≤ yZ (yRs a U) := by
  rw [show b = a + (b - a) by omega, yRs_ad]
  exact yZ_rs _ _
/-- a chain and the call behind it -/
def chJ (tE tN : Nat → tY) (Ui : List ((Nat × Nat) × Nat)) (L : List (tY × Nat × Nat × Nat)) (j : ((Nat × Nat) × Nat) × List (tY × Nat × Nat × Nat) × (tY × Nat × Nat × Nat)) : Prop := j.1 ∈ Ui ∧ (∀ e, e ∈ j.2.1 → e ∈ L) ∧ j.2.2 ∈ L ∧ 0 < j.2.2.2.1 ∧ chR (uY tE tN j.1.1) j.1.2 j.2.1 j.2.2.1 j.2.2.2.2.1 ∧ yK j.2.2.1 = 1
/-- how many of a unit's parameters they take -/
def chW (j : ((Nat × Nat) × Nat) × List (tY × Nat × Nat × Nat) × (tY × Nat × Nat × Nat)) : Nat := chN j.2.1 + j.2.2.2.1
/-- an arrow that is asked for by one of them -/
def chZ (tE tN : Nat → tY) (j : ((Nat × Nat) × Nat) × List (tY × Nat × Nat × Nat) × (tY × Nat × Nat × Nat)) (z : tY) : Prop := ∃ d, d < chW j ∧ z = yRs d (uY tE tN j.1.1)
/-- its calls -/
def chL (j : ((Nat × Nat) × Nat) × List (tY × Nat × Nat × Nat) × (tY × Nat × Nat × Nat)) : List (tY × Nat × Nat × Nat) := j.2.1 ++ [j.2.2]
section CHL
variable {tE tN : Nat → tY} {Ui : List ((Nat × Nat) × Nat)} {L : List (tY × Nat × Nat × Nat)}
theorem chJ.nd {j : ((Nat × Nat) × Nat) × List (tY × Nat × Nat × Nat) × (tY × Nat × Nat × Nat)} (h : chJ tE tN Ui L j) : (chL j).Nodup := by
  obtain ⟨-, -, -, -, h5, h6⟩ := h
  obtain ⟨n1, n2⟩ := chR_nd _ _ _ _ _ h5 (yK_nl h6)
  refine List.nodup_append.mpr ⟨n1, List.nodup_cons.mpr ⟨fun z => (by cases z), List.nodup_nil⟩, fun a ha b hb e => ?_⟩
  have hb := List.mem_singleton.mp hb
  have := (n2 a ha).1
  rw [e, hb] at this
  exact Nat.lt_irrefl _ this
/-- a call of it lies on the unit's row, the arrow z that its last call asks for behind it -/
theorem chJ.at {j : ((Nat × Nat) × Nat) × List (tY × Nat × Nat × Nat) × (tY × Nat × Nat × Nat)} {e : tY × Nat × Nat × Nat} (h : chJ tE tN Ui L j) (he : e ∈ chL j) : ∃ a m, e.1 = yRs a (uY tE tN j.1.1) ∧ j.2.2.1 = yRs m e.1 := by
  obtain ⟨-, -, -, -, h5, -⟩ := h
  rcases List.mem_append.mp he with z | z
  · exact chR_at _ _ _ _ _ e h5 z
  · have z := List.mem_singleton.mp z
    obtain ⟨h1, -⟩ := chR_to _ _ _ _ _ h5
    exact ⟨chN j.2.1, 0, by rw [z]; exact h1, by rw [z]; rfl⟩
set_option maxHeartbeats 1000000 in
/-- **arrows of different sizes are asked for by chains that have no call in common, of different units** -/
theorem ch_sel {M : Nat} (hc : ∀ c, c ∈ L → 0 < c.2.1 → yK c.1 = 1 ∧ chE tE tN Ui L c.1 c.2.2.1) (hM : ∀ c, c ∈ L → yZ c.1 ≤ M) : ∀ (Z : List tY), Z.Pairwise (fun a b => yZ b < yZ a) → (∀ z, z ∈ Z → ∃ c, c ∈ L ∧ ∃ i, i < c.2.1 ∧ z = yRs i c.1) → ∃ J : List (((Nat × Nat) × Nat) × List (tY × Nat × Nat × Nat) × (tY × Nat × Nat × Nat)), (∀ j, j ∈ J → chJ tE tN Ui L j) ∧ (J.flatMap chL).Nodup ∧ (J.map (fun j => uY tE tN j.1.1)).Nodup ∧ (∀ z, z ∈ Z → ∃ j, j ∈ J ∧ chZ tE tN j z) ∧ ∀ j, j ∈ J → ∃ z, z ∈ Z ∧ chZ tE tN j z
  | [], _, _ => ⟨[], fun j h => (by cases h), List.nodup_nil, List.nodup_nil, fun z h => (by cases h), fun j h => (by cases h)⟩
  | z :: Z, hp, hz => by
    obtain ⟨p1, p2⟩ := List.pairwise_cons.mp hp
    obtain ⟨J, j1, j2, j3, j4, j5⟩ := ch_sel hc hM Z p2 (fun z' h => hz z' (List.mem_cons_of_mem _ h))
    by_cases cv : ∃ j, j ∈ J ∧ chZ tE tN j z
    · refine ⟨J, j1, j2, j3, fun z' h => ?_, fun j h => ?_⟩
      · rcases List.mem_cons.mp h with e | e
        · rw [e]; exact cv
        · exact j4 z' e
      · obtain ⟨z', h1, h2⟩ := j5 j h
        exact ⟨z', List.mem_cons_of_mem _ h1, h2⟩
    · obtain ⟨c, c1, i, c2, c3⟩ := hz z (List.mem_cons_self ..)
      have c0 : 0 < c.2.1 := by omega
      obtain ⟨k1, k2⟩ := hc c c1 c0
      obtain ⟨x, x1, T, x2, x3⟩ := ch_ex hc hM (M + 1) c.1 c.2.2.1 k1 (by omega) k2
      have HJ : chJ tE tN Ui L (x, T, c) := ⟨x1, x2, c1, c0, x3, k1⟩
      obtain ⟨t1, -⟩ := chR_to _ _ _ _ _ x3
      have HZ : chZ tE tN (x, T, c) z := ⟨chN T + i, Nat.add_lt_add_left c2 _, by rw [yRs_ad]; show z = yRs i (yRs (chN T) (uY tE tN x.1)); rw [← t1]; exact c3⟩
      -- what lies on an older chain's unit is asked for there
      have OLD : ∀ j, j ∈ J → ∀ d, z = yRs d (uY tE tN j.1.1) → False := fun j hj d hd => by
        obtain ⟨z', h1, d', h2, h3⟩ := j5 j hj
        have lt := p1 z' h1
        refine cv ⟨j, hj, d, ?_, hd⟩
        refine Nat.lt_of_not_le (fun w => ?_)
        have := yZ_rm (uY tE tN j.1.1) d' d (by omega)
        rw [← hd, ← h3] at this
        omega
      refine ⟨(x, T, c) :: J, fun j h => ?_, ?_, ?_, fun z' h => ?_, fun j h => ?_⟩
      · rcases List.mem_cons.mp h with e | e
        · rw [e]; exact HJ
        · exact j1 j e
      · rw [List.flatMap_cons]
        refine List.nodup_append.mpr ⟨HJ.nd, j2, fun e he e' he' ee => ?_⟩
        rw [← ee] at he'
        obtain ⟨j, hj, hj2⟩ := List.mem_flatMap.mp he'
        obtain ⟨a, m, a1, -⟩ := (j1 j hj).at hj2
        obtain ⟨a', m', -, b2⟩ := HJ.at he
        have b2 : c.1 = yRs m' e.1 := b2
        refine OLD j hj (a + m' + i) ?_
        rw [c3, b2, a1, ← yRs_ad, ← yRs_ad, Nat.add_assoc]
      · rw [List.map_cons]
        refine List.nodup_cons.mpr ⟨fun w => ?_, j3⟩
        obtain ⟨j, hj, hj2⟩ := List.mem_map.mp w
        obtain ⟨d, -, hd⟩ := HZ
        exact OLD j hj d (by rw [hj2]; exact hd)
      · rcases List.mem_cons.mp h with e | e
        · rw [e]; exact ⟨_, List.mem_cons_self .., HZ⟩
        · obtain ⟨j, h1, h2⟩ := j4 z' e
          exact ⟨j, List.mem_cons_of_mem _ h1, h2⟩
      · rcases List.mem_cons.mp h with e | e
        · rw [e]; exact ⟨z, List.mem_cons_self .., HZ⟩
        · obtain ⟨z', h1, h2⟩ := j5 j e
          exact ⟨z', List.mem_cons_of_mem _ h1, h2⟩
end CHL
