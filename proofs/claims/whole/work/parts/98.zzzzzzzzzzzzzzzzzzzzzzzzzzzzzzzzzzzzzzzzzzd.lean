/-! CAPACITIES: ways, once more; counts of pieces -/
theorem yMl_nd : ∀ y : tY, (yMl y).Nodup
  | .leaf => List.nodup_nil
  | .inner k u v l r => by
    have I := yMl_nd r
    show (if k = 0 then (if gMs l = true then [0] else []) ++ (yMl r).map (fun d => d + 1) else ([] : List Nat)).Nodup
    have J : ((yMl r).map (fun d => d + 1)).Nodup := by
      refine List.Pairwise.map _ (fun a b hab => ?_) I
      omega
    split
    · split
      · refine List.nodup_cons.mpr ⟨fun hm => ?_, J⟩
        obtain ⟨d, -, hd⟩ := List.mem_map.mp hm
        omega
      · exact J
    · exact List.nodup_nil
theorem yMl_lt (y : tY) (k : Nat) : ((yMl y).filter (fun d => decide (d < k))).length ≤ k ∧ ((yMl y).filter (fun d => decide (d < k))).length + 1 ≤ yLv y := by
  refine ⟨?_, ?_⟩
  · have := pg_le (R := fun (a b : Nat) => a = b) (fun x x' p e e' => e.trans e'.symm) ((yMl y).filter (fun d => decide (d < k))) (List.range k) ((List.filter_sublist).nodup (yMl_nd y)) (fun d hd => ⟨d, List.mem_range.mpr (of_decide_eq_true (List.mem_filter.mp hd).2), rfl⟩)
    rw [List.length_range] at this
    exact this
  · have h1 := yMl_le y
    have h2 := List.length_filter_le (fun d => decide (d < k)) (yMl y)
    omega
section PAX
variable {ρ : Nat → Nat × Nat} {tE tN : Nat → tY} {Un : List ((Nat × Nat) × Nat)} {Ls W : List Nat} {lc : List ((Nat × tY × List Nat) × Nat)}
/-- a piece's unit has its places -/
theorem pc_ml (h : tlH ρ tE tN Un Ls W (lc.map Prod.fst)) (hV : ∀ x, x ∈ lc → ((0, x.1.1), x.2) ∈ Un) {p : (Nat × Nat) × tY × Nat} (hp : p ∈ pcs lc) : (yMl (uY tE tN p.1)).length = (yMl p.2.1).length := by
  obtain ⟨x, x1, x2⟩ := pcs_of hp
  have xl : x.1 ∈ lc.map Prod.fst := List.mem_map.mpr ⟨x, x1, rfl⟩
  rcases x2 with x2 | ⟨i, u, y1, y2, y3⟩
  · rcases h.1.2.1 _ (hV x x1) with ⟨h1, ns', h2⟩ | ⟨h1, -⟩
    · have e' := tl_key h.2.1 h2 xl rfl
      rw [x2]
      show (yMl (uY tE tN (0, x.1.1))).length = (yMl (yTp x.1.2.2.length x.1.2.1)).length
      rw [← yMl_tp _ _ (fun i hi => h.is (k := x.1.1) (Y := x.1.2.1) (ns := x.1.2.2) xl hi)]
      rw [← e']
    · cases h1
  · rw [y2]
    show (yMl (tN u)).length = (yMl (yL (yRs i x.1.2.1))).length
    rw [(h.nm (k := x.1.1) (Y := x.1.2.1) (ns := x.1.2.2) xl y1).2.1]
/-- **ways, by the leaves of pieces** -/
theorem pa_l2 (h : tlH ρ tE tN Un Ls W (lc.map Prod.fst)) (hV : ∀ x, x ∈ lc → ((0, x.1.1), x.2) ∈ Un) {p1 p2 : (Nat × Nat) × tY × Nat} {k1 k2 : Nat} {C1 C2 : List Nat} (h1 : p1 ∈ pcs lc) (h2 : p2 ∈ pcs lc) (K1 : uKc ρ tE tN Un Ls p1.1 k1 C1) (K2 : uKc ρ tE tN Un Ls p2.1 k2 C2) : ∃ q1 q2, (q1 ≤ k1 ∧ q1 + 1 ≤ yLv p1.2.1) ∧ (q2 ≤ k2 ∧ q2 + 1 ≤ yLv p2.2.1) ∧ ∀ y, (∀ z, yIn z y → uRp ρ tE tN Un Ls z) → ySx y ≤ q1 + q2 + (((pcs lc).filter (fun p => !(decide (p.1 = p1.1) || decide (p.1 = p2.1)))).map (fun p => yLv p.2.1 - 1)).sum := by
  have L1 := yMl_lt (uY tE tN p1.1) k1
  have L2 := yMl_lt (uY tE tN p2.1) k2
  have f1 : ((yMl (uY tE tN p1.1)).filter (fun d => decide (d < k1))).length + 1 ≤ yLv p1.2.1 := by
    have := List.length_filter_le (fun d => decide (d < k1)) (yMl (uY tE tN p1.1))
    rw [pc_ml h hV h1] at this
    have := yMl_le p1.2.1
    omega
  have f2 : ((yMl (uY tE tN p2.1)).filter (fun d => decide (d < k2))).length + 1 ≤ yLv p2.2.1 := by
    have := List.length_filter_le (fun d => decide (d < k2)) (yMl (uY tE tN p2.1))
    rw [pc_ml h hV h2] at this
    have := yMl_le p2.2.1
    omega
  refine ⟨_, _, ⟨L1.1, f1⟩, ⟨L2.1, f2⟩, fun y hy => ?_⟩
  have P := pg_le (R := fun (z : tY) (p : (Nat × Nat) × Nat) => z = yRs p.2 (uY tE tN p.1)) (fun x x' p e e' => e.trans e'.symm) (yPa y) (((yMl (uY tE tN p1.1)).filter (fun d => decide (d < k1))).map (fun d => (p1.1, d)) ++ (((yMl (uY tE tN p2.1)).filter (fun d => decide (d < k2))).map (fun d => (p2.1, d)) ++ ((pcs lc).filter (fun p => !(decide (p.1 = p1.1) || decide (p.1 = p2.1)))).flatMap (fun p => (yMl (uY tE tN p.1)).map (fun d => (p.1, d))))) (yPa_nd y) (fun z hz => by
    obtain ⟨z1, z2⟩ := yPa_in hz
    obtain ⟨id, m, d, C, ⟨u1, u2⟩, u3, ⟨u4, u5, u6⟩, u7⟩ := hy z z1
    have ow : uOw ρ tE tN Un Ls id d := ⟨m, C, u1, u3, u4, ⟨u5, u6⟩, u7⟩
    have kz := yIn_k z1
    rw [u2] at kz z2
    obtain ⟨p, p1', p2', p3, -⟩ := pc_un h u1 kz
    have dm := yMl_in d _ p3 kz z2
    refine ⟨(id, d), ?_, u2⟩
    by_cases e1 : id = p1.1
    · refine List.mem_append_left _ (List.mem_map.mpr ⟨d, List.mem_filter.mpr ⟨by rw [← e1]; exact dm, decide_eq_true (K1.1 d (by rw [← e1]; exact ow))⟩, by rw [e1]⟩)
    · by_cases e2 : id = p2.1
      · refine List.mem_append_right _ (List.mem_append_left _ (List.mem_map.mpr ⟨d, List.mem_filter.mpr ⟨by rw [← e2]; exact dm, decide_eq_true (K2.1 d (by rw [← e2]; exact ow))⟩, by rw [e2]⟩))
      · refine List.mem_append_right _ (List.mem_append_right _ (List.mem_flatMap.mpr ⟨p, List.mem_filter.mpr ⟨p1', ?_⟩, List.mem_map.mpr ⟨d, by rw [p2']; exact dm, by rw [p2']⟩⟩))
        rw [p2', decide_eq_false e1, decide_eq_false e2]
        rfl)
  rw [yPa_len, List.length_append, List.length_append, List.length_map, List.length_map] at P
  have Q : ∀ L : List ((Nat × Nat) × tY × Nat), (∀ p, p ∈ L → p ∈ pcs lc) → (L.flatMap (fun p => (yMl (uY tE tN p.1)).map (fun d => (p.1, d)))).length ≤ (L.map (fun p => yLv p.2.1 - 1)).sum := by
    intro L
    induction L with
    | nil => intro _; exact Nat.zero_le _
    | cons p L ih =>
      intro hL
      have I := ih (fun q hq => hL q (List.mem_cons_of_mem _ hq))
      rw [List.flatMap_cons, List.length_append, List.length_map, List.map_cons, List.sum_cons]
      have e := pc_ml h hV (hL p (List.mem_cons_self ..))
      have := yMl_le p.2.1
      omega
  have := Q ((pcs lc).filter (fun p => !(decide (p.1 = p1.1) || decide (p.1 = p2.1)))) (fun p hp => (List.mem_filter.mp hp).1)
  omega
end PAX
/-- without NAMES that are functions ways are no longer -/
theorem ySx_tp : ∀ (q : Nat) (Y : tY), (∀ i, i < q → yIs (yRs i Y)) → ySx (yTp q Y) ≤ ySx Y
  | 0, _, _ => Nat.le_refl _
  | q + 1, Y, h => by
    have I := ySx_tp q (yR Y) (fun i hi => h (i + 1) (by omega))
    have e := (ySx_is (h 0 (by omega))).1
    have e : ySx Y = max (ySx (yL Y)) (ySx (yR Y) + if gMs (yL Y) = true then 1 else 0) := e
    show ySx (if yK (yL Y) = 1 then yTp q (yR Y) else yA (yL Y) (yTp q (yR Y))) ≤ ySx Y
    rw [e]
    split
    · exact Nat.le_trans I (Nat.le_trans (Nat.le_add_right _ _) (Nat.le_max_right _ _))
    · show max (ySx (yL Y)) (ySx (yTp q (yR Y)) + if gMs (yL Y) = true then 1 else 0) ≤ _
      exact Nat.max_le.mpr ⟨Nat.le_max_left _ _, Nat.le_trans (by omega) (Nat.le_max_right _ _)⟩
/-- the sum of min (i, M), by numbers -/
theorem wB_iN (M : Nat) : ∀ n, 2 * wB n M ≤ iNm n M := by
  have A : ∀ d, 2 * wB (M + d) M + M * (M + 1) ≤ 2 * ((M + d) * M) := by
    intro d
    induction d with
    | zero =>
      have := wB_2 M M
      rw [Nat.add_zero, Nat.mul_add, Nat.mul_one]
      omega
    | succ d ih =>
      show 2 * (wB (M + d) M + min (M + d) M) + M * (M + 1) ≤ 2 * ((M + d + 1) * M)
      have e : (M + d + 1) * M = (M + d) * M + M := by rw [Nat.add_mul (M + d) 1 M, Nat.one_mul]
      rw [Nat.min_eq_right (by omega), e]
      omega
  intro n
  unfold iNm
  by_cases c : n ≤ M
  · rw [if_pos c]
    have := wB_2 M n
    have e : n * (n - 1) = n * n - n := by rw [Nat.mul_sub, Nat.mul_one]
    omega
  · rw [if_neg c]
    have := A (n - M)
    rw [show M + (n - M) = n by omega] at this
    have e : 2 * n * M = 2 * (n * M) := Nat.mul_assoc _ _ _
    omega
