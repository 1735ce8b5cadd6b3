/-! CAPACITIES: the pieces of a text -/
/-- NAMES that are functions, as pieces -/
def pcT : List Nat → tY → Nat → List ((Nat × Nat) × tY × Nat)
  | [], _, _ => []
  | u :: ns, Y, c => (if yK (yL Y) = 1 then [((1, u), yL Y, c)] else []) ++ pcT ns (yR Y) (c + if gMs (yL Y) = true then 1 else 0)
/-- all pieces: unit, type, what counts there -/
def pcs (lc : List ((Nat × tY × List Nat) × Nat)) : List ((Nat × Nat) × tY × Nat) := lc.flatMap (fun x => ((0, x.1.1), yTp x.1.2.2.length x.1.2.1, x.2) :: pcT x.1.2.2 x.1.2.1 x.2)
theorem pcT_to : ∀ (ns : List Nat) (Y : tY) (c : Nat), (pcT ns Y c).map Prod.snd = yTo ns.length Y c
  | [], _, _ => rfl
  | u :: ns, Y, c => by
    have I := pcT_to ns (yR Y) (c + if gMs (yL Y) = true then 1 else 0)
    show ((if yK (yL Y) = 1 then [((1, u), yL Y, c)] else []) ++ pcT ns (yR Y) (c + if gMs (yL Y) = true then 1 else 0)).map Prod.snd = (if yK (yL Y) = 1 then [(yL Y, c)] else []) ++ yTo ns.length (yR Y) (c + if gMs (yL Y) = true then 1 else 0)
    rw [List.map_append, I]
    split <;> rfl
theorem pcT_of {p : (Nat × Nat) × tY × Nat} : ∀ (ns : List Nat) (Y : tY) (c : Nat), p ∈ pcT ns Y c → ∃ (i u : Nat), ns[i]? = some u ∧ p = ((1, u), yL (yRs i Y), c + yAm i Y) ∧ yK (yL (yRs i Y)) = 1
  | [], _, _, h => by cases h
  | u :: ns, Y, c, h => by
    have h : p ∈ (if yK (yL Y) = 1 then [((1, u), yL Y, c)] else []) ++ pcT ns (yR Y) (c + if gMs (yL Y) = true then 1 else 0) := h
    rcases List.mem_append.mp h with h | h
    · by_cases g : yK (yL Y) = 1
      · rw [if_pos g] at h
        exact ⟨0, u, rfl, List.mem_singleton.mp h, g⟩
      · rw [if_neg g] at h
        cases h
    · obtain ⟨i, u', h1, h2, h3⟩ := pcT_of ns (yR Y) _ h
      refine ⟨i + 1, u', h1, ?_, h3⟩
      rw [h2]
      show ((1, u'), yL (yRs i (yR Y)), c + (if gMs (yL Y) = true then 1 else 0) + yAm i (yR Y)) = ((1, u'), yL (yRs i (yR Y)), c + ((if gMs (yL Y) = true then 1 else 0) + yAm i (yR Y)))
      rw [Nat.add_assoc]
theorem pcT_in : ∀ (ns : List Nat) (Y : tY) (c i u : Nat), ns[i]? = some u → yK (yL (yRs i Y)) = 1 → ((1, u), yL (yRs i Y), c + yAm i Y) ∈ pcT ns Y c
  | [], _, _, _, _, h, _ => by cases h
  | w :: ns, Y, c, 0, u, h, hk => by
    have h : some w = some u := h
    injection h with h
    have hk : yK (yL Y) = 1 := hk
    show ((1, u), yL Y, c) ∈ (if yK (yL Y) = 1 then [((1, w), yL Y, c)] else []) ++ pcT ns (yR Y) (c + if gMs (yL Y) = true then 1 else 0)
    rw [if_pos hk, h]
    exact List.mem_append_left _ (List.mem_singleton_self _)
  | w :: ns, Y, c, i + 1, u, h, hk => by
    have I := pcT_in ns (yR Y) (c + if gMs (yL Y) = true then 1 else 0) i u h hk
    show ((1, u), yL (yRs i (yR Y)), c + ((if gMs (yL Y) = true then 1 else 0) + yAm i (yR Y))) ∈ (if yK (yL Y) = 1 then [((1, w), yL Y, c)] else []) ++ pcT ns (yR Y) (c + if gMs (yL Y) = true then 1 else 0)
    rw [← Nat.add_assoc]
    exact List.mem_append_right _ I
theorem pcT_ids : ∀ (ns : List Nat) (Y : tY) (c : Nat), ((pcT ns Y c).map Prod.fst).Sublist (ns.map (fun u => ((1, u) : Nat × Nat)))
  | [], _, _ => List.Sublist.slnil
  | u :: ns, Y, c => by
    have I := pcT_ids ns (yR Y) (c + if gMs (yL Y) = true then 1 else 0)
    show (((if yK (yL Y) = 1 then [((1, u), yL Y, c)] else []) ++ pcT ns (yR Y) (c + if gMs (yL Y) = true then 1 else 0)).map Prod.fst).Sublist ((1, u) :: ns.map (fun u => ((1, u) : Nat × Nat)))
    rw [List.map_append]
    split
    · exact I.cons₂ _
    · exact I.cons _
/-- **INSTANCES and leaves, summed over pieces** -/
theorem pcs_s : ∀ (lc : List ((Nat × tY × List Nat) × Nat)), (∀ x, x ∈ lc → ∀ i, i < x.1.2.2.length → yIs (yRs i x.1.2.1)) → sYs lc = ((pcs lc).map (fun p => yS p.2.1 p.2.2)).sum ∧ tLv (lc.map Prod.fst) = ((pcs lc).map (fun p => yLv p.2.1)).sum
  | [], _ => ⟨rfl, rfl⟩
  | x :: lc, h => by
    obtain ⟨I1, I2⟩ := pcs_s lc (fun y hy => h y (List.mem_cons_of_mem _ hy))
    obtain ⟨t1, t2⟩ := yTp_s x.1.2.2.length x.1.2.1 x.2 (h x (List.mem_cons_self ..))
    have e : pcs (x :: lc) = (((0, x.1.1), yTp x.1.2.2.length x.1.2.1, x.2) :: pcT x.1.2.2 x.1.2.1 x.2) ++ pcs lc := List.flatMap_cons ..
    have m1 : ((pcT x.1.2.2 x.1.2.1 x.2).map (fun p => yS p.2.1 p.2.2)) = (yTo x.1.2.2.length x.1.2.1 x.2).map (fun p => yS p.1 p.2) := by
      rw [← pcT_to, List.map_map]
      rfl
    have m2 : ((pcT x.1.2.2 x.1.2.1 x.2).map (fun p => yLv p.2.1)) = (yTo x.1.2.2.length x.1.2.1 x.2).map (fun p => yLv p.1) := by
      rw [← pcT_to, List.map_map]
      rfl
    rw [e, sYs_c, List.map_cons, tLv_c, List.map_append, List.sum_append, List.map_append, List.sum_append, List.map_cons, List.map_cons, List.sum_cons, List.sum_cons, m1, m2]
    refine ⟨?_, ?_⟩
    · show yS x.1.2.1 x.2 + sYs lc = yS (yTp x.1.2.2.length x.1.2.1) x.2 + _ + _
      omega
    · show yLv x.1.2.1 + tLv (lc.map Prod.fst) = yLv (yTp x.1.2.2.length x.1.2.1) + _ + _
      omega
theorem pcs_of {p : (Nat × Nat) × tY × Nat} {lc : List ((Nat × tY × List Nat) × Nat)} (h : p ∈ pcs lc) : ∃ x, x ∈ lc ∧ (p = ((0, x.1.1), yTp x.1.2.2.length x.1.2.1, x.2) ∨ ∃ (i u : Nat), x.1.2.2[i]? = some u ∧ p = ((1, u), yL (yRs i x.1.2.1), x.2 + yAm i x.1.2.1) ∧ yK (yL (yRs i x.1.2.1)) = 1) := by
  obtain ⟨x, hx, hp⟩ := List.mem_flatMap.mp h
  refine ⟨x, hx, ?_⟩
  rcases List.mem_cons.mp hp with hp | hp
  · exact Or.inl hp
  · exact Or.inr (pcT_of _ _ _ hp)
theorem pcs_0 {lc : List ((Nat × tY × List Nat) × Nat)} {x : (Nat × tY × List Nat) × Nat} (h : x ∈ lc) : ((0, x.1.1), yTp x.1.2.2.length x.1.2.1, x.2) ∈ pcs lc := List.mem_flatMap.mpr ⟨x, h, List.mem_cons_self ..⟩
theorem pcs_1 {lc : List ((Nat × tY × List Nat) × Nat)} {x : (Nat × tY × List Nat) × Nat} {i u : Nat} (h : x ∈ lc) (hi : x.1.2.2[i]? = some u) (hk : yK (yL (yRs i x.1.2.1)) = 1) : ((1, u), yL (yRs i x.1.2.1), x.2 + yAm i x.1.2.1) ∈ pcs lc := List.mem_flatMap.mpr ⟨x, h, List.mem_cons_of_mem _ (pcT_in _ _ _ _ _ hi hk)⟩
/-- no unit twice -/
theorem pcs_nd : ∀ (lc : List ((Nat × tY × List Nat) × Nat)), ((lc.map Prod.fst).map Prod.fst).Nodup → ((lc.map Prod.fst).flatMap (fun x => x.2.2)).Nodup → ((pcs lc).map Prod.fst).Nodup
  | [], _, _ => List.nodup_nil
  | x :: lc, h1, h2 => by
    have h1 : (x.1.1 :: (lc.map Prod.fst).map Prod.fst).Nodup := h1
    obtain ⟨k1, k2⟩ := List.nodup_cons.mp h1
    rw [List.map_cons, List.flatMap_cons] at h2
    obtain ⟨u1, u2, u3⟩ := List.nodup_append.mp h2
    have I := pcs_nd lc k2 u2
    have e : pcs (x :: lc) = (((0, x.1.1), yTp x.1.2.2.length x.1.2.1, x.2) :: pcT x.1.2.2 x.1.2.1 x.2) ++ pcs lc := List.flatMap_cons ..
    have S := pcT_ids x.1.2.2 x.1.2.1 x.2
    have in0 : ∀ p, p ∈ (pcs lc).map Prod.fst → (∃ y, y ∈ lc ∧ p = (0, y.1.1)) ∨ ∃ u, u ∈ (lc.map Prod.fst).flatMap (fun x => x.2.2) ∧ p = (1, u) := fun p hp => by
      obtain ⟨q, q1, q2⟩ := List.mem_map.mp hp
      obtain ⟨y, y1, y2⟩ := pcs_of q1
      rcases y2 with y2 | ⟨i, u, z1, z2, -⟩
      · exact Or.inl ⟨y, y1, by rw [← q2, y2]⟩
      · exact Or.inr ⟨u, List.mem_flatMap.mpr ⟨y.1, List.mem_map.mpr ⟨y, y1, rfl⟩, List.mem_of_getElem? z1⟩, by rw [← q2, z2]⟩
    rw [e, List.map_append, List.map_cons, List.cons_append]
    refine List.nodup_cons.mpr ⟨fun hm => ?_, List.nodup_append.mpr ⟨?_, I, fun p hp q hq e' => ?_⟩⟩
    · rcases List.mem_append.mp hm with hm | hm
      · obtain ⟨u, -, q⟩ := List.mem_map.mp (S.subset hm)
        injection q with q _
        cases q
      · rcases in0 _ hm with ⟨y, y1, y2⟩ | ⟨u, -, q⟩
        · injection y2 with _ y2
          exact k1 (List.mem_map.mpr ⟨y.1, List.mem_map.mpr ⟨y, y1, rfl⟩, y2.symm⟩)
        · injection q with q _
          cases q
    · refine S.nodup ?_
      refine List.Pairwise.map _ (fun a b hab => ?_) u1
      intro q
      injection q with _ q
      exact hab q
    · obtain ⟨u, v1, v2⟩ := List.mem_map.mp (S.subset hp)
      rcases in0 _ hq with ⟨y, y1, y2⟩ | ⟨u', v3, v4⟩
      · rw [← v2] at e'
        rw [e'.symm] at y2
        injection y2 with y2 _
        cases y2
      · rw [← v2, v4] at e'
        injection e' with _ e'
        exact u3 u v1 u' v3 e'
