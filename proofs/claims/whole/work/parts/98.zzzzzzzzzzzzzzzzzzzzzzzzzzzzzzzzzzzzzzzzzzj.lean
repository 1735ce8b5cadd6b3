/-! CAPACITIES: INSTANCES of a text are at most 1333 times QUALS -/
def iTb : List (Nat × Nat × Nat) := iTb0 ++ (iTb1 ++ (iTb2 ++ (iTb3 ++ (iTb4 ++ (iTb5 ++ (iTb6 ++ (iTb7 ++ (iTb8 ++ (iTb9 ++ (iTb10 ++ (iTb11 ++ (iTb12 ++ (iTb13)))))))))))))
theorem iTb_a : ∀ e, e ∈ iTb → iNa e.1 e.2.1 e.2.2 = true ∧ ∀ u, u ≤ min (e.1 - 1) (4 * e.2.1 + 4) → iNb e.1 e.2.1 u ≤ e.2.2 := by
  have G : ∀ {l : List (Nat × Nat × Nat)}, l.all (fun e => iNa e.1 e.2.1 e.2.2) = true → l.all (fun e => iLp (fun u => Nat.ble (iNb e.1 e.2.1 u) e.2.2) (min (e.1 - 1) (4 * e.2.1 + 4) + 1)) = true → ∀ e, e ∈ l → iNa e.1 e.2.1 e.2.2 = true ∧ ∀ u, u ≤ min (e.1 - 1) (4 * e.2.1 + 4) → iNb e.1 e.2.1 u ≤ e.2.2 := fun h1 h2 e he => ⟨List.all_eq_true.mp h1 e he, fun u hu => Nat.le_of_ble_eq_true (iLp_of (f := fun u => Nat.ble (iNb e.1 e.2.1 u) e.2.2) (n := min (e.1 - 1) (4 * e.2.1 + 4) + 1) (i := u) (List.all_eq_true.mp h2 e he) (Nat.lt_succ_of_le hu))⟩
  intro e he
  unfold iTb at he
  rcases List.mem_append.mp he with he | he
  · exact G iTb0_a iTb0_b e he
  rcases List.mem_append.mp he with he | he
  · exact G iTb1_a iTb1_b e he
  rcases List.mem_append.mp he with he | he
  · exact G iTb2_a iTb2_b e he
  rcases List.mem_append.mp he with he | he
  · exact G iTb3_a iTb3_b e he
  rcases List.mem_append.mp he with he | he
  · exact G iTb4_a iTb4_b e he
  rcases List.mem_append.mp he with he | he
  · exact G iTb5_a iTb5_b e he
  rcases List.mem_append.mp he with he | he
  · exact G iTb6_a iTb6_b e he
  rcases List.mem_append.mp he with he | he
  · exact G iTb7_a iTb7_b e he
  rcases List.mem_append.mp he with he | he
  · exact G iTb8_a iTb8_b e he
  rcases List.mem_append.mp he with he | he
  · exact G iTb9_a iTb9_b e he
  rcases List.mem_append.mp he with he | he
  · exact G iTb10_a iTb10_b e he
  rcases List.mem_append.mp he with he | he
  · exact G iTb11_a iTb11_b e he
  rcases List.mem_append.mp he with he | he
  · exact G iTb12_a iTb12_b e he
  exact G iTb13_a iTb13_b e he
def iTq (N j : Nat) : Bool := Nat.blt N 23 || Nat.blt 60 (N + j) || iTb.any (fun e => Nat.beq e.1 N && Nat.beq e.2.1 j)
theorem iTb_in : iLp (fun N => iLp (fun j => iTq N j) 11) 61 = true := by decide +kernel
/-- the numbers for N, j -/
theorem iTb_of {N j : Nat} (h1 : 23 ≤ N) (h2 : N + j ≤ 60) (h3 : j ≤ 10) : ∃ B, iNa N j B = true ∧ ∀ u, u + 1 ≤ N → u ≤ 4 * j + 4 → iNb N j u ≤ B := by
  have h1' : iLp (fun j => iTq N j) 11 = true := iLp_of (f := fun N => iLp (fun j => iTq N j) 11) (n := 61) (i := N) iTb_in (by omega)
  have h : iTq N j = true := iLp_of (f := fun j => iTq N j) (n := 11) (i := j) h1' (by omega)
  unfold iTq at h
  have e1 : Nat.blt N 23 = false := by
    cases hb : Nat.blt N 23 with
    | false => rfl
    | true => have : N + 1 ≤ 23 := Nat.le_of_ble_eq_true hb; omega
  have e2 : Nat.blt 60 (N + j) = false := by
    cases hb : Nat.blt 60 (N + j) with
    | false => rfl
    | true => have : 60 + 1 ≤ N + j := Nat.le_of_ble_eq_true hb; omega
  rw [e1, e2, Bool.false_or, Bool.false_or] at h
  obtain ⟨e, he, hq⟩ := List.any_eq_true.mp h
  rw [Bool.and_eq_true] at hq
  have q1 : e.1 = N := Nat.eq_of_beq_eq_true hq.1
  have q2 : e.2.1 = j := Nat.eq_of_beq_eq_true hq.2
  obtain ⟨a1, a2⟩ := iTb_a e he
  rw [q1, q2] at a1 a2
  exact ⟨e.2.2, a1, fun u h4 h5 => a2 u (by omega)⟩
/-- one case, as an inequality -/
theorem iNk_of {N1 c1 B N2 c2 q L s : Nat} (h : iNs N1 c1 B N2 c2 q L = true) (hs : N1 + N2 + L + s ≤ 60) : 2 * (c1 * N1) + min B (iNm N1 (q + s)) + 2 * (c2 * N2) + iNm N2 (q + s) + 44 * (60 - N1 - N2) ≤ 2666 + 24 * L + 20 * (60 - N1 - N2 - L - s) + s * ((if 60 - N1 - N2 - L - s = 0 then 24 else 22) - min N2 20) := by
  have h' : iNk N1 c1 B N2 c2 q L s = true := iLp_of (f := fun s => iNk N1 c1 B N2 c2 q L s) (n := 61 - N1 - N2 - L) (i := s) h (by omega)
  exact Nat.le_of_ble_eq_true h'
def iN11 (N1 N2 j2 s : Nat) : Bool := Nat.ble (2 + iNm N1 (min 48 (N1 - 1) + min (4 * j2 + 4) (N2 - 1) + s) + 2 * ((11 - j2) * N2) + iNm N2 (min 48 (N1 - 1) + min (4 * j2 + 4) (N2 - 1) + s) + 44 * (60 - N1 - N2)) (2666 + 24 * (10 + j2) + 20 * (60 - N1 - N2 - (10 + j2) - s) + s * (22 - min N2 20))
theorem iN11_a : iLp (fun N1 => Nat.blt N1 23 || iLp (fun N2 => iLp (fun j2 => iLp (fun s => iN11 N1 N2 j2 s) (51 - N1 - N2 - j2)) 8) (min N1 (60 - N1) + 1)) 50 = true := by decide +kernel
theorem mx_p : ∀ (L : List ((Nat × Nat) × tY × Nat)), L ≠ [] → ∃ p, p ∈ L ∧ ∀ q, q ∈ L → yLv q.2.1 ≤ yLv p.2.1
  | [], h => absurd rfl h
  | [a], _ => ⟨a, List.mem_singleton_self _, fun q hq => by rw [List.mem_singleton.mp hq]; exact Nat.le_refl _⟩
  | a :: b :: L, _ => by
    obtain ⟨p, p1, p2⟩ := mx_p (b :: L) (by intro h; cases h)
    by_cases c : yLv p.2.1 ≤ yLv a.2.1
    · refine ⟨a, List.mem_cons_self .., fun q hq => ?_⟩
      rcases List.mem_cons.mp hq with hq | hq
      · rw [hq]; exact Nat.le_refl _
      · exact Nat.le_trans (p2 q hq) c
    · refine ⟨p, List.mem_cons_of_mem _ p1, fun q hq => ?_⟩
      rcases List.mem_cons.mp hq with hq | hq
      · rw [hq]; omega
      · exact p2 q hq
theorem sm_sp (f : ((Nat × Nat) × tY × Nat) → Nat) : ∀ (L : List ((Nat × Nat) × tY × Nat)), (L.map Prod.fst).Nodup → ∀ p, p ∈ L → (L.map f).sum = f p + ((L.filter (fun q => !(decide (q.1 = p.1)))).map f).sum
  | [], _, _, h => by cases h
  | a :: L, nd, p, hp => by
    rw [List.map_cons] at nd
    obtain ⟨n1, n2⟩ := List.nodup_cons.mp nd
    rw [List.map_cons, List.sum_cons]
    rcases List.mem_cons.mp hp with hp | hp
    · have e : (a :: L).filter (fun q => !(decide (q.1 = p.1))) = L := by
        rw [List.filter_cons_of_neg (p := fun q : (Nat × Nat) × tY × Nat => !(decide (q.1 = p.1))) (by rw [hp, decide_eq_true rfl]; decide)]
        refine List.filter_eq_self.mpr (fun q hq => ?_)
        rw [decide_eq_false (fun z => n1 (List.mem_map.mpr ⟨q, hq, by rw [z, hp]⟩))]
        rfl
      rw [e, hp]
    · have I := sm_sp f L n2 p hp
      have ne : ¬ a.1 = p.1 := fun z => n1 (List.mem_map.mpr ⟨p, hp, z.symm⟩)
      rw [List.filter_cons_of_pos (p := fun q : (Nat × Nat) × tY × Nat => !(decide (q.1 = p.1))) (by rw [decide_eq_false ne]; rfl), List.map_cons, List.sum_cons, I]
      omega
section O99
variable {ρ : Nat → Nat × Nat} {tE tN : Nat → tY} {Un : List ((Nat × Nat) × Nat)} {Ls W : List Nat} {lc : List ((Nat × tY × List Nat) × Nat)}
theorem o_sm (H : tlQ ρ tE tN Un Ls W lc) {n : Nat} (hn : n ≤ 20) : ∀ (Os : List ((Nat × Nat) × tY × Nat)), (∀ p, p ∈ Os → p ∈ pcs lc ∧ yLv p.2.1 ≤ n) → 2 * (Os.map (fun p => yS p.2.1 p.2.2)).sum + 20 * Os.length + 4 * (Os.filter (fun p => decide (p.2.2 ≤ 10))).length + (Os.map (fun p => yLv p.2.1 - 1)).sum * (22 - n) ≤ 44 * ((Os.map (fun p => yLv p.2.1 - 1)).sum + Os.length) ∧ ((∀ p, p ∈ Os → p.2.2 ≤ 10) → 2 * (Os.map (fun p => yS p.2.1 p.2.2)).sum + 24 * Os.length + (Os.map (fun p => yLv p.2.1 - 1)).sum * (24 - n) ≤ 44 * ((Os.map (fun p => yLv p.2.1 - 1)).sum + Os.length)) ∧ (Os.map (fun p => yLv p.2.1)).sum = (Os.map (fun p => yLv p.2.1 - 1)).sum + Os.length
  | [], _ => ⟨by simp, fun _ => by simp, rfl⟩
  | p :: Os, h => by
    obtain ⟨I1, I2, I3⟩ := o_sm H hn Os (fun q hq => h q (List.mem_cons_of_mem _ hq))
    obtain ⟨p1, p2⟩ := h p (List.mem_cons_self ..)
    have pos := yLv_pos p.2.1
    obtain ⟨o1, o2⟩ := pc_o H p1 (by omega)
    have m1 : (yLv p.2.1 - 1) * (22 - n) ≤ (yLv p.2.1 - 1) * (22 - yLv p.2.1) := Nat.mul_le_mul_left _ (by omega)
    have m2 : (yLv p.2.1 - 1) * (24 - n) ≤ (yLv p.2.1 - 1) * (24 - yLv p.2.1) := Nat.mul_le_mul_left _ (by omega)
    have m3 : (yLv p.2.1 - 1) * (22 - yLv p.2.1) ≤ (yLv p.2.1 - 1) * (24 - yLv p.2.1) := Nat.mul_le_mul_left _ (by omega)
    rw [List.map_cons, List.sum_cons, List.map_cons, List.sum_cons, List.map_cons, List.sum_cons, List.length_cons]
    refine ⟨?_, fun hc => ?_, by omega⟩
    · rw [Nat.add_mul]
      by_cases c : p.2.2 ≤ 10
      · have := o2 c
        rw [List.filter_cons_of_pos (p := fun q : (Nat × Nat) × tY × Nat => decide (q.2.2 ≤ 10)) (decide_eq_true c), List.length_cons]
        omega
      · rw [List.filter_cons_of_neg (p := fun q : (Nat × Nat) × tY × Nat => decide (q.2.2 ≤ 10)) (by rw [decide_eq_false c]; decide)]
        omega
    · have := o2 (hc p (List.mem_cons_self ..))
      have := I2 (fun q hq => hc q (List.mem_cons_of_mem _ hq))
      rw [Nat.add_mul]
      omega
end O99
