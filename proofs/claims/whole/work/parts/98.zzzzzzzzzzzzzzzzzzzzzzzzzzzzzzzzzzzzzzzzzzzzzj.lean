/-! ROOM: what all calls take, by chains -/
theorem nd_sb {α : Type} : ∀ (l l' : List α), l.Nodup → (∀ x, x ∈ l → x ∈ l') → l.length ≤ l'.length
  | [], _, _, _ => Nat.zero_le _
  | c :: T, L, hn, hs => by
    obtain ⟨n1, n2⟩ := List.nodup_cons.mp hn
    obtain ⟨l1, l2, rfl⟩ := List.append_of_mem (hs c (List.mem_cons_self ..))
    have h1 := nd_sb T (l1 ++ l2) n2 (fun d hd => by
      rcases List.mem_append.mp (hs d (List.mem_cons_of_mem _ hd)) with z | z
      · exact List.mem_append_left _ z
      · rcases List.mem_cons.mp z with z | z
        · rw [z] at hd; exact absurd hd n1
        · exact List.mem_append_right _ z)
    rw [List.length_append] at h1
    rw [List.length_append, List.length_cons, List.length_cons]
    omega
/-- what a chain's unit takes -/
def chK (tE tN : Nat → tY) (wt : Nat) (P : tY → Nat) (j : ((Nat × Nat) × Nat) × List (tY × Nat × Nat × Nat) × (tY × Nat × Nat × Nat)) : Nat := kB wt P (chW j) (uY tE tN j.1.1) j.1.2
section CHC
variable {tE tN : Nat → tY} {Ui : List ((Nat × Nat) × Nat)} {L : List (tY × Nat × Nat × Nat)} {P : tY → Nat} {V : Nat}
theorem chJ.k {wt : Nat} {j : ((Nat × Nat) × Nat) × List (tY × Nat × Nat × Nat) × (tY × Nat × Nat × Nat)} (h : chJ tE tN Ui L j) (hk : ∀ c, c ∈ L → c.2.2.2 ≤ kB wt P c.2.1 c.1 c.2.2.1) (h4 : ∀ c, c ∈ L → c.2.1 ≤ 4) : kSm (chL j) ≤ chK tE tN wt P j ∧ chW j ≤ 4 * (chL j).length := by
  obtain ⟨-, h2, h3, -, h5, -⟩ := h
  have k1 := chR_k (P := P) _ _ _ _ _ h5 (fun c hc => hk c (h2 c hc))
  have k2 := hk _ h3
  obtain ⟨e1, e2⟩ := chR_to _ _ _ _ _ h5
  have k3 := kB_mo wt P j.2.2.2.1 j.2.2.1 j.2.2.2.2.1 (j.1.2 + chN j.2.1) e2
  have n1 := chN_4 j.2.1 (fun c hc => h4 c (h2 c hc))
  have n2 := h4 _ h3
  unfold chK chL chW
  rw [kSm_ap, kB_ad, ← e1, List.length_append]
  have s1 : kSm [j.2.2] = j.2.2.2.2.2 := by
    rw [kSm_cn]
    show j.2.2.2.2.2 + 0 = _
    omega
  have s2 : [j.2.2].length = 1 := rfl
  rw [s1, s2]
  exact ⟨by omega, by omega⟩
theorem ch_sum {wt : Nat} (hk : ∀ c, c ∈ L → c.2.2.2 ≤ kB wt P c.2.1 c.1 c.2.2.1) (h4 : ∀ c, c ∈ L → c.2.1 ≤ 4) : ∀ J : List (((Nat × Nat) × Nat) × List (tY × Nat × Nat × Nat) × (tY × Nat × Nat × Nat)), (∀ j, j ∈ J → chJ tE tN Ui L j) → kSm (J.flatMap chL) ≤ (J.map (chK tE tN wt P)).sum ∧ (J.map chW).sum ≤ 4 * (J.flatMap chL).length ∧ ∀ c, c ∈ J.flatMap chL → c ∈ L
  | [], _ => ⟨Nat.le_refl _, Nat.le_refl _, fun c h => by cases h⟩
  | j :: J, h => by
    obtain ⟨a1, a2, a3⟩ := ch_sum hk h4 J (fun i hi => h i (List.mem_cons_of_mem _ hi))
    have hj := h j (List.mem_cons_self ..)
    obtain ⟨b1, b2⟩ := hj.k hk h4
    rw [List.flatMap_cons, kSm_ap, List.map_cons, List.map_cons, List.sum_cons, List.sum_cons, List.length_append]
    refine ⟨by omega, by omega, fun c hc => ?_⟩
    rcases List.mem_append.mp hc with z | z
    · obtain ⟨-, h2, h3, -⟩ := hj
      rcases List.mem_append.mp z with z | z
      · exact h2 c z
      · rw [List.mem_singleton.mp z]; exact h3
    · exact a3 c z
/-- **what all calls take: a fourth as many as there are arrows one in another take no more than their units' parameters, once** -/
theorem ch_all {wt : Nat} {M : Nat} (hc : ∀ c, c ∈ L → 0 < c.2.1 → yK c.1 = 1 ∧ chE tE tN Ui L c.1 c.2.2.1) (hM : ∀ c, c ∈ L → yZ c.1 ≤ M) (hk : ∀ c, c ∈ L → c.2.2.2 ≤ kB wt P c.2.1 c.1 c.2.2.1) (h4 : ∀ c, c ∈ L → c.2.1 ≤ 4) (hV : ∀ c, c ∈ L → c.2.2.2 ≤ V) (Z : List tY) (hp : Z.Pairwise (fun a b => yZ b < yZ a)) (hz : ∀ z, z ∈ Z → ∃ c, c ∈ L ∧ ∃ i, i < c.2.1 ∧ z = yRs i c.1) : ∃ (J : List (((Nat × Nat) × Nat) × List (tY × Nat × Nat × Nat) × (tY × Nat × Nat × Nat))) (n : Nat), (∀ j, j ∈ J → chJ tE tN Ui L j) ∧ (J.map (fun j => uY tE tN j.1.1)).Nodup ∧ (∀ j, j ∈ J → ∃ z, z ∈ Z ∧ chZ tE tN j z) ∧ n ≤ L.length ∧ Z.length ≤ 4 * n ∧ kSm L ≤ (J.map (chK tE tN wt P)).sum + (L.length - n) * V := by
  obtain ⟨J, j1, j2, j3, j4, j5⟩ := ch_sel hc hM Z hp hz
  obtain ⟨s1, s2, s3⟩ := ch_sum (P := P) hk h4 J j1
  obtain ⟨b1, b2⟩ := kSm_sb (J.flatMap chL) L j2 s3 hV
  have nz : Z.Nodup := hp.imp (fun {a b} h e => by rw [e] at h; exact Nat.lt_irrefl _ h)
  have lz := nd_sb Z (J.flatMap (fun j => (List.range (chW j)).map (fun d => yRs d (uY tE tN j.1.1)))) nz (fun z h => by
    obtain ⟨j, h1, d, h2, h3⟩ := j4 z h
    exact List.mem_flatMap.mpr ⟨j, h1, List.mem_map.mpr ⟨d, List.mem_range.mpr h2, h3.symm⟩⟩)
  have ll : ∀ J : List (((Nat × Nat) × Nat) × List (tY × Nat × Nat × Nat) × (tY × Nat × Nat × Nat)), (J.flatMap (fun j => (List.range (chW j)).map (fun d => yRs d (uY tE tN j.1.1)))).length = (J.map chW).sum := fun J => by
    induction J with
    | nil => rfl
    | cons j J ih => rw [List.flatMap_cons, List.length_append, ih, List.length_map, List.length_range, List.map_cons, List.sum_cons]
  rw [ll] at lz
  exact ⟨J, (J.flatMap chL).length, j1, j3, j5, b1, by omega, by omega⟩
end CHC
