/-! CAPACITIES: how many arrows a unit covers; ways are no longer than these -/
section UKC
variable {ρ : Nat → Nat × Nat} {tE tN : Nat → tY} {Un : List ((Nat × Nat) × Nat)} {Ls W : List Nat} {l : List (Nat × tY × List Nat)} {lc : List ((Nat × tY × List Nat) × Nat)}
/-- lets of a unit's chain -/
def uLc (ρ : Nat → Nat × Nat) (Un : List ((Nat × Nat) × Nat)) (Ls : List Nat) (id : Nat × Nat) (C : List Nat) : Prop := C.Nodup ∧ ∀ c, c ∈ C → c ∈ Ls ∧ id ≠ (0, 2 * c) ∧ ρ (c + 1) = id ∧ (id.1 = 0 → id.2 / 2 ≤ c) ∧ ∃ m, m ≤ 10 ∧ (((0, 2 * c) : Nat × Nat), m) ∈ Un
/-- a function that is taken comes from elsewhere -/
def uCy (tE tN : Nat → tY) (Un : List ((Nat × Nat) × Nat)) (id : Nat × Nat) (C : List Nat) (j : Nat) : Prop := yK (yL (yRs j (uY tE tN id))) = 1 → ∃ id' m' k', (id', m') ∈ Un ∧ id' ≠ id ∧ (∀ c, c ∈ C → id' ≠ (0, 2 * c)) ∧ yL (yRs j (uY tE tN id)) = yRs k' (uY tE tN id')
/-- a unit covers its tail behind d steps -/
def uOw (ρ : Nat → Nat × Nat) (tE tN : Nat → tY) (Un : List ((Nat × Nat) × Nat)) (Ls : List Nat) (id : Nat × Nat) (d : Nat) : Prop := ∃ (m : Nat) (C : List Nat), (id, m) ∈ Un ∧ 4 * m + d ≤ 47 ∧ d ≤ 4 * C.length + 3 ∧ uLc ρ Un Ls id C ∧ ∀ j, j ≤ d → uCy tE tN Un id C j
/-- it covers no more than k; what that asks for -/
def uKc (ρ : Nat → Nat × Nat) (tE tN : Nat → tY) (Un : List ((Nat × Nat) × Nat)) (Ls : List Nat) (id : Nat × Nat) (k : Nat) (C : List Nat) : Prop := (∀ d, uOw ρ tE tN Un Ls id d → d < k) ∧ k ≤ 4 * C.length + 4 ∧ uLc ρ Un Ls id C ∧ (0 < k → ∃ m, (id, m) ∈ Un ∧ 4 * m + k ≤ 48) ∧ (0 < C.length → 4 * C.length < k) ∧ ∀ j, j < k → uCy tE tN Un id C j
theorem uKc_ex (ρ : Nat → Nat × Nat) (tE tN : Nat → tY) (Un : List ((Nat × Nat) × Nat)) (Ls : List Nat) (id : Nat × Nat) : ∃ k C, uKc ρ tE tN Un Ls id k C := by
  by_cases ex : ∃ d, d ≤ 47 ∧ uOw ρ tE tN Un Ls id d
  · obtain ⟨D, hD, ⟨m, C, c1, c2, c3, ⟨c4, c5⟩, c6⟩, hmx⟩ := mx_of 47 ex
    have lt : (C.take (D / 4)).length = D / 4 := by
      rw [List.length_take]
      omega
    refine ⟨D + 1, C.take (D / 4), fun d hd => ?_, by omega, ⟨(List.take_sublist _ _).nodup c4, fun c hc => c5 c ((List.take_sublist _ _).subset hc)⟩, fun _ => ⟨m, c1, by omega⟩, fun _ => by omega, fun j hj hk => ?_⟩
    · have hd' := hd
      obtain ⟨m', C', -, q, -⟩ := hd'
      have := hmx d (by omega) hd
      omega
    · obtain ⟨id', m', k', a1, a2, a3, a4⟩ := c6 j (by omega) hk
      exact ⟨id', m', k', a1, a2, fun c hc => a3 c ((List.take_sublist _ _).subset hc), a4⟩
  · refine ⟨0, [], fun d hd => ?_, Nat.zero_le _, ⟨List.nodup_nil, fun c hc => by cases hc⟩, fun h => absurd h (Nat.lt_irrefl _), fun h => absurd h (Nat.lt_irrefl _), fun j hj => absurd hj (Nat.not_lt_zero _)⟩
    have hd' := hd
    obtain ⟨m', C', -, q, -⟩ := hd'
    exact absurd ⟨d, by omega, hd⟩ ex
/-- a unit that covers an arrow has its piece -/
theorem pc_un (h : tlH ρ tE tN Un Ls W (lc.map Prod.fst)) {id : Nat × Nat} {m d : Nat} (hu : (id, m) ∈ Un) (hk : yK (yRs d (uY tE tN id)) = 1) : ∃ p, p ∈ pcs lc ∧ p.1 = id ∧ yG (uY tE tN id) ∧ (yMl (uY tE tN id)).length = (yMl p.2.1).length := by
  rcases h.1.2.1 _ hu with ⟨h1, ns', h2⟩ | ⟨h1, k', Y', ns', i', h2, h3, -⟩
  · have h1 : id.1 = 0 := h1
    have h2 : (id.2, uY tE tN id, ns') ∈ lc.map Prod.fst := h2
    obtain ⟨x, x1, x2⟩ := List.mem_map.mp h2
    refine ⟨_, pcs_0 x1, ?_, h.2.2.2.2.1 _ h2, ?_⟩
    · show (0, x.1.1) = id
      rw [x2]
      exact Prod.ext h1.symm rfl
    · show _ = (yMl (yTp x.1.2.2.length x.1.2.1)).length
      rw [x2]
      exact yMl_tp _ _ (fun i hi => h.is h2 hi)
  · have h1 : id.1 = 1 := h1
    have h3 : ns'[i']? = some id.2 := h3
    obtain ⟨x, x1, x2⟩ := List.mem_map.mp h2
    obtain ⟨n1, n2, n3, n4⟩ := h.nm h2 h3
    have e0 : id = (1, id.2) := Prod.ext h1 rfl
    have eu : uY tE tN id = tN id.2 := by rw [e0]; rfl
    have kk : yK (tN id.2) = 1 := by
      rw [eu] at hk
      cases d with
      | zero => exact hk
      | succ d =>
        cases ey : tN id.2 with
        | leaf =>
          rw [ey, yRs_lf] at hk
          cases hk
        | inner k u v a b =>
          rw [ey] at hk n3
          have n3 : if k = 0 then yG a ∧ yG b else a = .leaf ∧ b = .leaf := n3
          by_cases c : k = 0
          · rw [c]; rfl
          · rw [if_neg c] at n3
            have hk : yK (yRs d b) = 1 := hk
            rw [n3.2, yRs_lf] at hk
            cases hk
    have P := pcs_1 (i := i') (u := id.2) x1 (by rw [x2]; exact h3) (by rw [x2]; show yK (yL (yRs i' Y')) = 1; rw [n2]; exact kk)
    refine ⟨_, P, ?_, by rw [eu]; exact n3, ?_⟩
    · show (1, id.2) = id
      exact e0.symm
    · show _ = (yMl (yL (yRs i' x.1.2.1))).length
      rw [x2, eu]
      show _ = (yMl (yL (yRs i' Y'))).length
      rw [n2]
/-- **ways through measured arrows** -/
theorem pa_le (h : tlH ρ tE tN Un Ls W (lc.map Prod.fst)) (hV : ∀ x, x ∈ lc → ((0, x.1.1), x.2) ∈ Un) {id1 id2 : Nat × Nat} {k1 k2 : Nat} {C1 C2 : List Nat} (K1 : uKc ρ tE tN Un Ls id1 k1 C1) (K2 : uKc ρ tE tN Un Ls id2 k2 C2) (y : tY) (hy : ∀ z, yIn z y → uRp ρ tE tN Un Ls z) : ySx y ≤ k1 + k2 + (((pcs lc).filter (fun p => !(decide (p.1 = id1) || decide (p.1 = id2)))).map (fun p => yLv p.2.1 - 1)).sum := by
  have P := pg_le (R := fun (z : tY) (p : (Nat × Nat) × Nat) => z = yRs p.2 (uY tE tN p.1)) (fun x x' p e e' => e.trans e'.symm) (yPa y) ((List.range k1).map (fun d => (id1, d)) ++ ((List.range k2).map (fun d => (id2, d)) ++ ((pcs lc).filter (fun p => !(decide (p.1 = id1) || decide (p.1 = id2)))).flatMap (fun p => (yMl (uY tE tN p.1)).map (fun d => (p.1, d))))) (yPa_nd y) (fun z hz => by
    obtain ⟨z1, z2⟩ := yPa_in hz
    obtain ⟨id, m, d, C, ⟨u1, u2⟩, u3, ⟨u4, u5, u6⟩, u7⟩ := hy z z1
    have ow : uOw ρ tE tN Un Ls id d := ⟨m, C, u1, u3, u4, ⟨u5, u6⟩, u7⟩
    refine ⟨(id, d), ?_, u2⟩
    by_cases e1 : id = id1
    · refine List.mem_append_left _ (List.mem_map.mpr ⟨d, List.mem_range.mpr (K1.1 d (by rw [← e1]; exact ow)), by rw [e1]⟩)
    · by_cases e2 : id = id2
      · refine List.mem_append_right _ (List.mem_append_left _ (List.mem_map.mpr ⟨d, List.mem_range.mpr (K2.1 d (by rw [← e2]; exact ow)), by rw [e2]⟩))
      · have kz := yIn_k z1
        rw [u2] at kz z2
        obtain ⟨p, p1, p2, p3, -⟩ := pc_un h u1 kz
        refine List.mem_append_right _ (List.mem_append_right _ (List.mem_flatMap.mpr ⟨p, List.mem_filter.mpr ⟨p1, ?_⟩, List.mem_map.mpr ⟨d, ?_, by rw [p2]⟩⟩))
        · rw [p2, decide_eq_false e1, decide_eq_false e2]
          rfl
        · rw [p2]
          exact yMl_in d _ p3 kz z2)
  rw [yPa_len, List.length_append, List.length_append, List.length_map, List.length_map, List.length_range, List.length_range] at P
  have Q : ∀ L : List ((Nat × Nat) × tY × Nat), (∀ p, p ∈ L → p ∈ pcs lc) → (L.flatMap (fun p => (yMl (uY tE tN p.1)).map (fun d => (p.1, d)))).length ≤ (L.map (fun p => yLv p.2.1 - 1)).sum := by
    intro L
    induction L with
    | nil => intro _; exact Nat.zero_le _
    | cons p L ih =>
      intro hL
      have I := ih (fun q hq => hL q (List.mem_cons_of_mem _ hq))
      rw [List.flatMap_cons, List.length_append, List.length_map, List.map_cons, List.sum_cons]
      have hp := hL p (List.mem_cons_self ..)
      have e : (yMl (uY tE tN p.1)).length = (yMl p.2.1).length := by
        obtain ⟨x, x1, x2⟩ := pcs_of hp
        have xl : x.1 ∈ lc.map Prod.fst := List.mem_map.mpr ⟨x, x1, rfl⟩
        rcases x2 with x2 | ⟨i, u, y1, y2, y3⟩
        · rcases h.1.2.1 _ (hV x x1) with ⟨h1, ns', h2⟩ | ⟨h1, -⟩
          · have e' := tl_key h.2.1 h2 xl rfl
            rw [x2]
            show (yMl (uY tE tN (0, x.1.1))).length = (yMl (yTp x.1.2.2.length x.1.2.1)).length
            rw [← yMl_tp _ _ (fun i hi => h.is (k := x.1.1) (Y := x.1.2.1) (ns := x.1.2.2) xl hi)]
            rw [← e']
          · cases h1
        · rw [y2]
          show (yMl (tN u)).length = (yMl (yL (yRs i x.1.2.1))).length
          rw [(h.nm (k := x.1.1) (Y := x.1.2.1) (ns := x.1.2.2) xl y1).2.1]
      have := yMl_le p.2.1
      omega
  have := Q ((pcs lc).filter (fun p => !(decide (p.1 = id1) || decide (p.1 = id2)))) (fun p hp => (List.mem_filter.mp hp).1)
  omega
end UKC
