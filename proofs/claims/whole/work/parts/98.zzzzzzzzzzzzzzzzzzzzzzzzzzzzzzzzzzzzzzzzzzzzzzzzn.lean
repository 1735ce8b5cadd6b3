/-! ROOM: chains for arrows of any sizes -/
section CHM
variable {tE tN : Nat → tY} {Ui : List ((Nat × Nat) × Nat)} {L : List (tY × Nat × Nat × Nat)}
set_option maxHeartbeats 1000000 in
/-- **different arrows, also of one size, are asked for by chains that have no call in common, of different units** -/
theorem ch_se2 {M : Nat} (hc : ∀ c, c ∈ L → 0 < c.2.1 → yK c.1 = 1 ∧ chE tE tN Ui L c.1 c.2.2.1) (hM : ∀ c, c ∈ L → yZ c.1 ≤ M) : ∀ (Z : List tY), Z.Pairwise (fun a b => yZ b ≤ yZ a) → (∀ z, z ∈ Z → yK z = 1) → (∀ z, z ∈ Z → ∃ c, c ∈ L ∧ ∃ i, i < c.2.1 ∧ z = yRs i c.1) → ∃ J : List (((Nat × Nat) × Nat) × List (tY × Nat × Nat × Nat) × (tY × Nat × Nat × Nat)), (∀ j, j ∈ J → chJ tE tN Ui L j) ∧ (J.flatMap chL).Nodup ∧ (J.map (fun j => uY tE tN j.1.1)).Nodup ∧ (∀ z, z ∈ Z → ∃ j, j ∈ J ∧ chZ tE tN j z) ∧ ∀ j, j ∈ J → ∃ z, z ∈ Z ∧ chZ tE tN j z
  | [], _, _, _ => ⟨[], fun j h => (by cases h), List.nodup_nil, List.nodup_nil, fun z h => (by cases h), fun j h => (by cases h)⟩
  | z :: Z, hp, hk, hz => by
    obtain ⟨p1, p2⟩ := List.pairwise_cons.mp hp
    obtain ⟨J, j1, j2, j3, j4, j5⟩ := ch_se2 hc hM Z p2 (fun z' h => hk z' (List.mem_cons_of_mem _ h)) (fun z' h => hz z' (List.mem_cons_of_mem _ h))
    by_cases cv : ∃ j, j ∈ J ∧ chZ tE tN j z
    · refine ⟨J, j1, j2, j3, fun z' h => ?_, fun j h => ?_⟩
      · rcases List.mem_cons.mp h with e | e
        · rw [e]; exact cv
        · exact j4 z' e
      · obtain ⟨z', h1, h2⟩ := j5 j h
        exact ⟨z', List.mem_cons_of_mem _ h1, h2⟩
    · obtain ⟨c, c1, i, c2, c3⟩ := hz z (List.mem_cons_self ..)
      have c0 : 0 < c.2.1 := by omega
      obtain ⟨k1, k2⟩ := hc c c1 c0
      obtain ⟨x, x1, T, x2, x3⟩ := ch_ex hc hM (M + 1) c.1 c.2.2.1 k1 (by omega) k2
      have HJ : chJ tE tN Ui L (x, T, c) := ⟨x1, x2, c1, c0, x3, k1⟩
      obtain ⟨t1, -⟩ := chR_to _ _ _ _ _ x3
      have HZ : chZ tE tN (x, T, c) z := ⟨chN T + i, Nat.add_lt_add_left c2 _, by rw [yRs_ad]; show z = yRs i (yRs (chN T) (uY tE tN x.1)); rw [← t1]; exact c3⟩
      -- what lies on an older chain's unit is asked for there
      have OLD : ∀ j, j ∈ J → ∀ d, z = yRs d (uY tE tN j.1.1) → False := fun j hj d hd => by
        obtain ⟨z', h1, d', h2, h3⟩ := j5 j hj
        have lt := p1 z' h1
        refine cv ⟨j, hj, d, ?_, hd⟩
        refine Nat.lt_of_not_le (fun w => ?_)
        have e : yRs (d - d') (yRs d' (uY tE tN j.1.1)) = z := by rw [← yRs_ad, show d' + (d - d') = d by omega, hd]
        have := yZ_lt (Y := yRs d' (uY tE tN j.1.1)) (k := d - d') (by omega) (by rw [e]; exact hk z (List.mem_cons_self ..))
        rw [e, ← h3] at this
        omega
      refine ⟨(x, T, c) :: J, fun j h => ?_, ?_, ?_, fun z' h => ?_, fun j h => ?_⟩
      · rcases List.mem_cons.mp h with e | e
        · rw [e]; exact HJ
        · exact j1 j e
      · rw [List.flatMap_cons]
        refine List.nodup_append.mpr ⟨HJ.nd, j2, fun e he e' he' ee => ?_⟩
        rw [← ee] at he'
        obtain ⟨j, hj, hj2⟩ := List.mem_flatMap.mp he'
        obtain ⟨a, m, a1, -⟩ := (j1 j hj).at hj2
        obtain ⟨a', m', -, b2⟩ := HJ.at he
        have b2 : c.1 = yRs m' e.1 := b2
        refine OLD j hj (a + m' + i) ?_
        rw [c3, b2, a1, ← yRs_ad, ← yRs_ad, Nat.add_assoc]
      · rw [List.map_cons]
        refine List.nodup_cons.mpr ⟨fun w => ?_, j3⟩
        obtain ⟨j, hj, hj2⟩ := List.mem_map.mp w
        obtain ⟨d, -, hd⟩ := HZ
        exact OLD j hj d (by rw [hj2]; exact hd)
      · rcases List.mem_cons.mp h with e | e
        · rw [e]; exact ⟨_, List.mem_cons_self .., HZ⟩
        · obtain ⟨j, h1, h2⟩ := j4 z' e
          exact ⟨j, List.mem_cons_of_mem _ h1, h2⟩
      · rcases List.mem_cons.mp h with e | e
        · rw [e]; exact ⟨z, List.mem_cons_self .., HZ⟩
        · obtain ⟨z', h1, h2⟩ := j5 j e
          exact ⟨z', List.mem_cons_of_mem _ h1, h2⟩
end CHM
