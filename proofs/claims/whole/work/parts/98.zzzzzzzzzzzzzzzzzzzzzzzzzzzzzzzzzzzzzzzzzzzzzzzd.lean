/-! ROOM: chains of calls, of units of two sorts; what all calls take but for their letters -/
theorem pm_sb {α : Type} : ∀ (T L : List α), T.Nodup → (∀ c, c ∈ T → c ∈ L) → ∃ R : List α, (∀ f : α → Nat, (L.map f).sum = (T.map f).sum + (R.map f).sum) ∧ R.length + T.length = L.length ∧ ∀ x, x ∈ R → x ∈ L
  | [], L, _, _ => ⟨L, fun f => by rw [List.map_nil, List.sum_nil, Nat.zero_add], rfl, fun x h => h⟩
  | c :: T, L, hn, hs => by
    obtain ⟨n1, n2⟩ := List.nodup_cons.mp hn
    obtain ⟨l1, l2, rfl⟩ := List.append_of_mem (hs c (List.mem_cons_self ..))
    obtain ⟨R, r1, r2, r3⟩ := pm_sb T (l1 ++ l2) n2 (fun d hd => by
      rcases List.mem_append.mp (hs d (List.mem_cons_of_mem _ hd)) with z | z
      · exact List.mem_append_left _ z
      · rcases List.mem_cons.mp z with z | z
        · rw [z] at hd; exact absurd hd n1
        · exact List.mem_append_right _ z)
    refine ⟨R, fun f => ?_, ?_, fun x hx => ?_⟩
    · have h := r1 f
      rw [List.map_append, List.sum_append] at h
      rw [List.map_append, List.sum_append, List.map_cons, List.map_cons, List.sum_cons, List.sum_cons]
      omega
    · rw [List.length_append] at r2
      rw [List.length_append, List.length_cons, List.length_cons]
      omega
    · rcases List.mem_append.mp (r3 x hx) with z | z
      · exact List.mem_append_left _ z
      · exact List.mem_append_right _ (List.mem_cons_of_mem _ z)
theorem lc_1 {Y : tY} {a : Nat} (h : 0 < a) : 662 + 274 * a ≤ lc Y a := by
  unfold lc
  rw [if_neg (by omega)]
  omega
/-- their ARGS -/
def lqS (L : List (tY × Nat × Nat × Nat)) : Nat := (L.map (fun c => c.2.1)).sum
theorem lcT_b : ∀ L : List (tY × Nat × Nat × Nat), (∀ c, c ∈ L → 0 < c.2.1) → 662 * L.length + 274 * lqS L ≤ lcT L
  | [], _ => Nat.le_refl _
  | c :: L, h => by
    have I := lcT_b L (fun d hd => h d (List.mem_cons_of_mem _ hd))
    have h1 := lc_1 (Y := c.1) (h c (List.mem_cons_self ..))
    unfold lcT lqS at I ⊢
    rw [List.map_cons, List.map_cons, List.sum_cons, List.sum_cons, List.length_cons]
    omega
theorem lqS_ap (a b : List (tY × Nat × Nat × Nat)) : lqS (a ++ b) = lqS a + lqS b := by
  unfold lqS
  rw [List.map_append, List.sum_append]
theorem chR_0 : ∀ (T : List (tY × Nat × Nat × Nat)) (U : tY) (i : Nat) (Y : tY) (r : Nat), chR U i T Y r → ∀ c, c ∈ T → 0 < c.2.1
  | [], _, _, _, _, _, _, h => by cases h
  | d :: T, U, i, Y, r, h, c, hc => by
    rcases List.mem_cons.mp hc with e | e
    · rw [e]; exact h.1.2.1
    · exact chR_0 T _ _ _ _ h.2 c e
section CH2
variable {tE tN : Nat → tY} {Ui : List ((Nat × Nat) × Nat)} {L : List (tY × Nat × Nat × Nat)} {P : tY → Nat} {V : Nat}
theorem chJ.q {j : ((Nat × Nat) × Nat) × List (tY × Nat × Nat × Nat) × (tY × Nat × Nat × Nat)} (h : chJ tE tN Ui L j) : lqS (chL j) = chW j ∧ ∀ c, c ∈ chL j → 0 < c.2.1 := by
  obtain ⟨-, -, -, h4, h5, -⟩ := h
  refine ⟨?_, fun c hc => ?_⟩
  · unfold chL chW
    rw [lqS_ap]
    show lqS j.2.1 + (j.2.2.2.1 + 0) = lqS j.2.1 + j.2.2.2.1
    rw [Nat.add_zero]
  · rcases List.mem_append.mp hc with z | z
    · exact chR_0 _ _ _ _ _ h5 c z
    · rw [List.mem_singleton.mp z]; exact h4
theorem ch_q : ∀ J : List (((Nat × Nat) × Nat) × List (tY × Nat × Nat × Nat) × (tY × Nat × Nat × Nat)), (∀ j, j ∈ J → chJ tE tN Ui L j) → lqS (J.flatMap chL) = (J.map chW).sum ∧ ∀ c, c ∈ J.flatMap chL → 0 < c.2.1
  | [], _ => ⟨rfl, fun c h => by cases h⟩
  | j :: J, h => by
    obtain ⟨a1, a2⟩ := ch_q J (fun i hi => h i (List.mem_cons_of_mem _ hi))
    obtain ⟨b1, b2⟩ := (h j (List.mem_cons_self ..)).q
    rw [List.flatMap_cons, lqS_ap, List.map_cons, List.sum_cons, a1, b1]
    refine ⟨rfl, fun c hc => ?_⟩
    rcases List.mem_append.mp hc with z | z
    · exact b2 c z
    · exact a2 c z
/-- a list falls into those that are so and those that are not -/
theorem sp_f {α β : Type} (Q : α → Prop) (g : α → List β) : ∀ J : List α, (J.flatMap g).Nodup → ∃ J1 J2 : List α, (∀ j, j ∈ J1 → j ∈ J ∧ Q j) ∧ (∀ j, j ∈ J2 → j ∈ J ∧ ¬ Q j) ∧ (∀ j, j ∈ J → j ∈ J1 ∨ j ∈ J2) ∧ (J1.flatMap g).Nodup ∧ (∀ x, x ∈ J1.flatMap g → x ∈ J.flatMap g) ∧ J1.Sublist J ∧ J2.Sublist J
  | [], _ => ⟨[], [], fun j h => (by cases h), fun j h => (by cases h), fun j h => (by cases h), List.nodup_nil, fun x h => h, List.Sublist.refl _, List.Sublist.refl _⟩
  | j :: J, hn => by
    rw [List.flatMap_cons] at hn
    obtain ⟨m1, m2, m3⟩ := List.nodup_append.mp hn
    obtain ⟨J1, J2, h1, h2, h3, h4, h5, h6, h7⟩ := sp_f Q g J m2
    by_cases q : Q j
    · refine ⟨j :: J1, J2, fun i hi => ?_, fun i hi => ⟨List.mem_cons_of_mem _ (h2 i hi).1, (h2 i hi).2⟩, fun i hi => ?_, ?_, fun x hx => ?_, h6.cons₂ j, h7.cons j⟩
      · rcases List.mem_cons.mp hi with e | e
        · rw [e]; exact ⟨List.mem_cons_self .., q⟩
        · exact ⟨List.mem_cons_of_mem _ (h1 i e).1, (h1 i e).2⟩
      · rcases List.mem_cons.mp hi with e | e
        · rw [e]; exact Or.inl (List.mem_cons_self ..)
        · rcases h3 i e with z | z
          · exact Or.inl (List.mem_cons_of_mem _ z)
          · exact Or.inr z
      · rw [List.flatMap_cons]
        exact List.nodup_append.mpr ⟨m1, h4, fun a ha b hb => m3 a ha b (h5 b hb)⟩
      · rw [List.flatMap_cons] at hx ⊢
        rcases List.mem_append.mp hx with z | z
        · exact List.mem_append_left _ z
        · exact List.mem_append_right _ (h5 x z)
    · refine ⟨J1, j :: J2, fun i hi => ⟨List.mem_cons_of_mem _ (h1 i hi).1, (h1 i hi).2⟩, fun i hi => ?_, fun i hi => ?_, h4, fun x hx => ?_, h6.cons j, h7.cons₂ j⟩
      · rcases List.mem_cons.mp hi with e | e
        · rw [e]; exact ⟨List.mem_cons_self .., q⟩
        · exact ⟨List.mem_cons_of_mem _ (h2 i e).1, (h2 i e).2⟩
      · rcases List.mem_cons.mp hi with e | e
        · rw [e]; exact Or.inr (List.mem_cons_self ..)
        · rcases h3 i e with z | z
          · exact Or.inl z
          · exact Or.inr (List.mem_cons_of_mem _ z)
      · rw [List.flatMap_cons]
        exact List.mem_append_right _ (h5 x hx)
/-- **what all calls take but for their letters: those of some chains take no more than their units' parameters, once** -/
theorem ch_spl {wt : Nat} (hk : ∀ c, c ∈ L → c.2.2.2 ≤ kB wt P c.2.1 c.1 c.2.2.1) (h4 : ∀ c, c ∈ L → c.2.1 ≤ 4) (hV : ∀ c, c ∈ L → c.2.2.2 ≤ 8 * lc c.1 c.2.1 + V) {J : List (((Nat × Nat) × Nat) × List (tY × Nat × Nat × Nat) × (tY × Nat × Nat × Nat))} (j1 : ∀ j, j ∈ J → chJ tE tN Ui L j) (j2 : (J.flatMap chL).Nodup) (j3 : (J.map (fun j => uY tE tN j.1.1)).Nodup) (G : tY → Prop) : ∃ (J1 : List (((Nat × Nat) × Nat) × List (tY × Nat × Nat × Nat) × (tY × Nat × Nat × Nat))) (n : Nat), (∀ j, j ∈ J1 → j ∈ J ∧ G (uY tE tN j.1.1)) ∧ (∀ j, j ∈ J → G (uY tE tN j.1.1) → j ∈ J1) ∧ (J1.map (fun j => uY tE tN j.1.1)).Nodup ∧ n ≤ L.length ∧ (J1.map chW).sum ≤ 4 * n ∧ kSm L + 8 * (662 * n + 274 * (J1.map chW).sum) ≤ (J1.map (chK tE tN wt P)).sum + 8 * lcT L + (L.length - n) * V ∧ kSm L + 6528 * n ≤ (J1.map (chM tE tN wt P)).sum + 8 * lcT L + (L.length - n) * V := by
  obtain ⟨J1, J2, a1, a2, a3, a4, a5, a6, a7⟩ := sp_f (fun j => G (uY tE tN j.1.1)) chL J j2
  have hJ1 : ∀ j, j ∈ J1 → chJ tE tN Ui L j := fun j hj => j1 j (a1 j hj).1
  obtain ⟨s1, s2, s3⟩ := ch_sum (P := P) hk h4 J1 hJ1
  obtain ⟨q1, q2⟩ := ch_q J1 hJ1
  obtain ⟨R, r1, r2, r3⟩ := pm_sb (J1.flatMap chL) L a4 s3
  have lb := lcT_b (J1.flatMap chL) q2
  rw [q1] at lb
  have RV : ∀ R : List (tY × Nat × Nat × Nat), (∀ x, x ∈ R → x ∈ L) → (R.map (fun c => c.2.2.2)).sum ≤ 8 * (R.map (fun c => lc c.1 c.2.1)).sum + R.length * V := fun R => by
    induction R with
    | nil => intro _; exact Nat.zero_le _
    | cons c R ih =>
      intro h
      have I := ih (fun x hx => h x (List.mem_cons_of_mem _ hx))
      have h1 := hV c (h c (List.mem_cons_self ..))
      rw [List.map_cons, List.map_cons, List.sum_cons, List.sum_cons, List.length_cons, Nat.add_mul, Nat.one_mul]
      omega
  have RV := RV R r3
  have e1 := r1 (fun c => c.2.2.2)
  have e2 := r1 (fun c => lc c.1 c.2.1)
  have e3 : L.length - (J1.flatMap chL).length = R.length := by omega
  refine ⟨J1, (J1.flatMap chL).length, a1, fun j hj g => ?_, j3.sublist (a6.map _), by omega, s2, ?_, ?_⟩
  · rcases a3 j hj with z | z
    · exact z
    · exact absurd g (a2 j z).2
  · rw [e3]
    unfold kSm at s1 ⊢
    unfold lcT at lb ⊢
    rw [e1, e2]
    omega
  · rw [e3]
    have sn := ch_sun (P := P) hk J1 hJ1
    unfold kSm at sn ⊢
    unfold lcT at sn ⊢
    rw [e1, e2]
    omega
end CH2
