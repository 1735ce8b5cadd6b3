/-! CAPACITIES: row 99 -/
theorem mem_sm {α : Type} (f : α → Nat) {p : α} : ∀ {L : List α}, p ∈ L → f p ≤ (L.map f).sum
  | [], h => by cases h
  | a :: L, h => by
    rw [List.map_cons, List.sum_cons]
    rcases List.mem_cons.mp h with h | h
    · rw [h]; omega
    · have := mem_sm f h
      omega
theorem zs_0 : ∀ (L : List ((Nat × Nat) × tY × Nat)), (∀ p, p ∈ L → yLv p.2.1 ≤ 1) → (L.map (fun p => yLv p.2.1 - 1)).sum = 0
  | [], _ => rfl
  | p :: L, h => by
    have I := zs_0 L (fun q hq => h q (List.mem_cons_of_mem _ hq))
    have := h p (List.mem_cons_self ..)
    rw [List.map_cons, List.sum_cons, I]
    omega
section I99
variable {ρ : Nat → Nat × Nat} {tE tN : Nat → tY} {Un : List ((Nat × Nat) × Nat)} {Ls W : List Nat} {lc : List ((Nat × tY × List Nat) × Nat)}
set_option maxHeartbeats 2000000 in
/-- **INSTANCES of one QUAL** -/
theorem in_99 (H : tlQ ρ tE tN Un Ls W lc) : sYs lc ≤ 1333 := by
  have h60 : tLv (lc.map Prod.fst) ≤ 60 := H.1.2.2.2.1
  have his : ∀ x, x ∈ lc → ∀ i, i < x.1.2.2.length → yIs (yRs i x.1.2.1) := fun x hx i hi => H.1.is (k := x.1.1) (Y := x.1.2.1) (ns := x.1.2.2) (List.mem_map.mpr ⟨x, hx, rfl⟩) hi
  obtain ⟨S1, S2⟩ := pcs_s lc his
  have nd : ((pcs lc).map Prod.fst).Nodup := pcs_nd lc H.1.2.1 (H.1.1.2.2.2.nodup H.1.2.2.1)
  rw [S2] at h60
  rw [S1]
  by_cases e0 : pcs lc = []
  · rw [e0]
    exact Nat.zero_le _
  obtain ⟨p1, m1, mx1⟩ := mx_p _ e0
  have hV : ∀ x, x ∈ lc → ((0, x.1.1), x.2) ∈ Un := fun x hx => (H.2.1 x hx).1
  by_cases small : yLv p1.2.1 ≤ 22
  · have A : ∀ L : List ((Nat × Nat) × tY × Nat), (∀ p, p ∈ L → p ∈ pcs lc) → 2 * (L.map (fun p => yS p.2.1 p.2.2)).sum ≤ 44 * (L.map (fun p => yLv p.2.1)).sum := by
      intro L
      induction L with
      | nil => intro _; exact Nat.zero_le _
      | cons p L ih =>
        intro hL
        have I := ih (fun q hq => hL q (List.mem_cons_of_mem _ hq))
        have hp := hL p (List.mem_cons_self ..)
        have := (pc_o H hp (Nat.le_trans (mx1 p hp) small)).1
        rw [List.map_cons, List.sum_cons, List.map_cons, List.sum_cons]
        omega
    have := A _ (fun p hp => hp)
    omega
  obtain ⟨k1, C1, K1⟩ := uKc_ex ρ tE tN Un Ls p1.1
  have L1 := K1.2.2.1
  obtain ⟨b60, bk⟩ := pc_bk H m1 K1
  have k4 := K1.2.1
  have c1 := (pc_c H m1).2 (by omega)
  have cj1 := pc_j H m1 K1
  have P1 := sm_sp (fun p => yS p.2.1 p.2.2) _ nd p1 m1
  have Q1 := sm_sp (fun p => yLv p.2.1) _ nd p1 m1
  have nd1 : (((pcs lc).filter (fun q => !(decide (q.1 = p1.1)))).map Prod.fst).Nodup := (List.filter_sublist.map _).nodup nd
  have in1 : ∀ q, q ∈ (pcs lc).filter (fun q => !(decide (q.1 = p1.1))) → q ∈ pcs lc ∧ q.1 ≠ p1.1 := fun q hq => by
    obtain ⟨a, b⟩ := List.mem_filter.mp hq
    refine ⟨a, fun e => ?_⟩
    rw [decide_eq_true e] at b
    cases b
  have T1 := lt_1 (p1 := p1) H L1
  -- what Q1 is worth
  have F1 : ∀ {c' M B : Nat}, 1 ≤ c' → p1.2.2 ≤ c' → ySx p1.2.1 ≤ M → (∀ u, u + 1 ≤ yLv p1.2.1 → u ≤ 4 * C1.length + 4 → iNb (yLv p1.2.1) C1.length u ≤ B) → 2 * yS p1.2.1 p1.2.2 ≤ 2 * (c' * yLv p1.2.1) + min B (iNm (yLv p1.2.1) M) := fun {c' M B} h1 h2 h3 h4 => by
    have a1 := yS_mo p1.2.1 h2
    have a2 := pc_wB h1 h3
    obtain ⟨u, u1, u2, u3⟩ := bk c' h1
    have a3 := h4 u u1 u2
    omega
  have F0 : ∀ {M : Nat}, p1.2.2 = 0 → 1 ≤ M → ySx p1.2.1 ≤ M → 2 * yS p1.2.1 p1.2.2 ≤ 2 + iNm (yLv p1.2.1) M := fun {M} h1 h2 h3 => by
    have a1 := yS_0 p1.2.1 M h2 h3
    have a2 := wB_iN M (yLv p1.2.1)
    rw [h1]
    omega
  by_cases e1 : (pcs lc).filter (fun q => !(decide (q.1 = p1.1))) = []
  · rw [e1] at P1 Q1 T1
    have j0 : C1.length ≤ 0 := T1
    obtain ⟨q1, q2, ⟨a1, -⟩, ⟨a2, -⟩, a3⟩ := pa_l2 H.1 hV m1 m1 K1 K1
    have ee : (pcs lc).filter (fun p => !(decide (p.1 = p1.1) || decide (p.1 = p1.1))) = [] := by
      have : (fun p : (Nat × Nat) × tY × Nat => !(decide (p.1 = p1.1) || decide (p.1 = p1.1))) = fun q => !(decide (q.1 = p1.1)) := by
        funext p
        rw [Bool.or_self]
      rw [this]
      exact e1
    rw [ee] at a3
    have sx := pc_sx H m1 (B := 8) (fun y hy => by
      have := a3 y hy
      have this : ySx y ≤ q1 + q2 + 0 := this
      omega)
    have hw := yS_1 p1.2.1 11 8 (by omega) sx
    have hl := wB_le 8 (yLv p1.2.1)
    have hm := yS_mo p1.2.1 c1
    have Q1 : ((pcs lc).map (fun p => yLv p.2.1)).sum = yLv p1.2.1 + 0 := Q1
    have P1 : ((pcs lc).map (fun p => yS p.2.1 p.2.2)).sum = yS p1.2.1 p1.2.2 + 0 := P1
    omega
  obtain ⟨p2, m2', mx2⟩ := mx_p _ e1
  obtain ⟨m2, ne2⟩ := in1 p2 m2'
  have ne : p1.1 ≠ p2.1 := fun e => ne2 e.symm
  obtain ⟨k2, C2, K2⟩ := uKc_ex ρ tE tN Un Ls p2.1
  have P2 := sm_sp (fun p => yS p.2.1 p.2.2) _ nd1 p2 m2'
  have Q2 := sm_sp (fun p => yLv p.2.1) _ nd1 p2 m2'
  have fe : ((pcs lc).filter (fun q => !(decide (q.1 = p1.1)))).filter (fun q => !(decide (q.1 = p2.1))) = (pcs lc).filter (fun p => !(decide (p.1 = p1.1) || decide (p.1 = p2.1))) := by
    rw [List.filter_filter]
    congr 1
    funext p
    rw [Bool.not_or, Bool.and_comm]
  obtain ⟨q1, q2, ⟨a1, a1'⟩, ⟨a2, a2'⟩, a3⟩ := pa_l2 H.1 hV m1 m2 K1 K2
  have n21 := mx1 p2 m2
  have pos2 := yLv_pos p2.2.1
  by_cases N2 : yLv p2.2.1 ≤ 1
  · -- all others are single leaves
    have one : ∀ p, p ∈ (pcs lc).filter (fun q => !(decide (q.1 = p1.1))) → p ∈ pcs lc ∧ yLv p.2.1 ≤ 1 := fun p hp => ⟨(in1 p hp).1, Nat.le_trans (mx2 p hp) N2⟩
    have z1 := zs_0 _ (fun p hp => (one p hp).2)
    have z2 : (((pcs lc).filter (fun p => !(decide (p.1 = p1.1) || decide (p.1 = p2.1)))).map (fun p => yLv p.2.1 - 1)).sum = 0 := zs_0 _ (fun p hp => by
      rw [← fe] at hp
      exact (one p (List.mem_filter.mp hp).1).2)
    obtain ⟨o1, -, o3⟩ := o_sm H (n := 1) (by omega) _ one
    rw [z1] at o1 o3
    rw [z2] at a3
    rw [Nat.zero_mul] at o1
    have sx : ySx p1.2.1 ≤ q1 := pc_sx H m1 (fun y hy => by have := a3 y hy; omega)
    by_cases j11 : C1.length ≤ 10
    · obtain ⟨B, B1, B2⟩ := iTb_of (N := yLv p1.2.1) (j := C1.length) (by omega) b60 j11
      have g1 : iLp (fun j2 => iNj (yLv p1.2.1) C1.length B 0 j2) 8 = true := iLp_of (f := fun N2 => iLp (fun j2 => iNj (yLv p1.2.1) C1.length B N2 j2) 8) (n := min (yLv p1.2.1) (60 - yLv p1.2.1) + 1) (i := 0) B1 (Nat.succ_pos _)
      have g2 : iNj (yLv p1.2.1) C1.length B 0 0 = true := iLp_of (f := fun j2 => iNj (yLv p1.2.1) C1.length B 0 j2) (n := 8) (i := 0) g1 (by omega)
      unfold iNj at g2
      rw [if_pos rfl, Bool.and_eq_true] at g2
      have hk := iNk_of (s := 0) g2.1 (by omega)
      have f1 := F1 (c' := 11 - C1.length) (M := min (4 * C1.length + 4) (yLv p1.2.1 - 1) + min 4 (0 - 1) + 0) (by omega) (by
        rcases Nat.eq_zero_or_pos C1.length with e | e
        · omega
        · have := cj1 e
          omega) (by omega) B2
      rw [Nat.mul_zero, Nat.zero_mul] at hk
      omega
    · have := cj1 (by omega)
      have g1 := iLp_of (f := fun N1 => Nat.blt N1 23 || iLp (fun N2 => iLp (fun j2 => iLp (fun s => iN11 N1 N2 j2 s) (51 - N1 - N2 - j2)) 8) (min N1 (60 - N1) + 1)) (n := 50) (i := yLv p1.2.1) iN11_a (by omega)
      have e1 : Nat.blt (yLv p1.2.1) 23 = false := by
        cases hb : Nat.blt (yLv p1.2.1) 23 with
        | false => rfl
        | true =>
          have : yLv p1.2.1 + 1 ≤ 23 := Nat.le_of_ble_eq_true hb
          omega
      rw [e1, Bool.false_or] at g1
      have g2 := iLp_of (f := fun N2 => iLp (fun j2 => iLp (fun s => iN11 (yLv p1.2.1) N2 j2 s) (51 - yLv p1.2.1 - N2 - j2)) 8) (n := min (yLv p1.2.1) (60 - yLv p1.2.1) + 1) (i := 0) g1 (Nat.succ_pos _)
      have g3 := iLp_of (f := fun j2 => iLp (fun s => iN11 (yLv p1.2.1) 0 j2 s) (51 - yLv p1.2.1 - 0 - j2)) (n := 8) (i := 0) g2 (by omega)
      have g4 : iN11 (yLv p1.2.1) 0 0 0 = true := iLp_of (f := fun s => iN11 (yLv p1.2.1) 0 0 s) (n := 51 - yLv p1.2.1 - 0 - 0) (i := 0) g3 (by omega)
      have hk := Nat.le_of_ble_eq_true g4
      have f0 := F0 (M := min 48 (yLv p1.2.1 - 1) + min (4 * 0 + 4) (0 - 1) + 0) (by omega) (by omega) (by omega)
      rw [Nat.zero_mul] at hk
      omega
  -- two pieces with functions
  rw [fe] at P2 Q2
  obtain ⟨Os, hO⟩ : ∃ Os, (pcs lc).filter (fun p => !(decide (p.1 = p1.1) || decide (p.1 = p2.1))) = Os := ⟨_, rfl⟩
  have oin : ∀ p, p ∈ Os → p ∈ pcs lc ∧ yLv p.2.1 ≤ yLv p2.2.1 := fun p hp => by
    rw [← hO, ← fe] at hp
    have hp' := (List.mem_filter.mp hp).1
    exact ⟨(in1 p hp').1, mx2 p hp'⟩
  have c2 := (pc_c H m2).2 (by omega)
  have cj2 := pc_j H m2 K2
  have LT := lt_cn (C2 := C2.take (min C2.length ((yLv p2.2.1 - 1) / 4))) H m1 m2 ne L1 ⟨(List.take_sublist _ _).nodup K2.2.2.1.1, fun c hc => K2.2.2.1.2 c ((List.take_sublist _ _).subset hc)⟩
  rw [hO] at P2 Q2 a3 LT
  have jl : (C2.take (min C2.length ((yLv p2.2.1 - 1) / 4))).length = min C2.length ((yLv p2.2.1 - 1) / 4) := by
    rw [List.length_take]
    omega
  rw [jl] at LT
  obtain ⟨j2, hj2⟩ : ∃ j2, min C2.length ((yLv p2.2.1 - 1) / 4) = j2 := ⟨_, rfl⟩
  rw [hj2] at LT
  have k24 := K2.2.1
  have o20 : ∀ p, p ∈ Os → p ∈ pcs lc ∧ yLv p.2.1 ≤ min (yLv p2.2.1) 20 := fun p hp => by
    have h1 := oin p hp
    have h2 := mem_sm (fun p : (Nat × Nat) × tY × Nat => yLv p.2.1) hp
    have h2 : yLv p.2.1 ≤ (Os.map (fun p => yLv p.2.1)).sum := h2
    exact ⟨h1.1, by omega⟩
  obtain ⟨o1, o2, o3⟩ := o_sm H (n := min (yLv p2.2.1) 20) (Nat.min_le_right _ _) Os o20
  obtain ⟨s, hs⟩ : ∃ s, (Os.map (fun p => yLv p.2.1 - 1)).sum = s := ⟨_, rfl⟩
  rw [hs] at o1 o2 o3 a3
  have n10 := List.length_filter_le (fun p : (Nat × Nat) × tY × Nat => decide (p.2.2 ≤ 10)) Os
  obtain ⟨t10, ht⟩ : ∃ t, (Os.filter (fun p => decide (p.2.2 ≤ 10))).length = t := ⟨_, rfl⟩
  rw [ht] at o1 LT n10
  have sx1 : ySx p1.2.1 ≤ q1 + q2 + s := pc_sx H m1 a3
  have sx2 : ySx p2.2.1 ≤ q1 + q2 + s := pc_sx H m2 a3
  have all10 : Os.length ≤ t10 → ∀ p, p ∈ Os → p.2.2 ≤ 10 := fun h p hp => by
    have e : Os.filter (fun p => decide (p.2.2 ≤ 10)) = Os := List.filter_sublist.eq_of_length (by omega)
    rw [← e] at hp
    exact of_decide_eq_true (List.mem_filter.mp hp).2
  have F2 : ∀ {c' M : Nat}, 1 ≤ c' → p2.2.2 ≤ c' → q1 + q2 + s ≤ M → 2 * yS p2.2.1 p2.2.2 ≤ 2 * (c' * yLv p2.2.1) + iNm (yLv p2.2.1) M := fun {c' M} h1 h2 h3 => by
    have a1 := yS_mo p2.2.1 h2
    have a2 := pc_wB h1 (Nat.le_trans sx2 h3)
    omega
  by_cases j11 : C1.length ≤ 10
  · obtain ⟨B, B1, B2⟩ := iTb_of (N := yLv p1.2.1) (j := C1.length) (by omega) b60 j11
    -- one case
    have NN : ∀ {c1' c2' q L : Nat}, iNs (yLv p1.2.1) c1' B (yLv p2.2.1) c2' q L = true → 1 ≤ c1' → p1.2.2 ≤ c1' → 1 ≤ c2' → p2.2.2 ≤ c2' → q1 + q2 ≤ q → L ≤ t10 → ((pcs lc).map (fun p => yS p.2.1 p.2.2)).sum ≤ 1333 := fun {c1' c2' q L} h g1 g2 g3 g4 hq hL => by
      have hk := iNk_of (s := s) h (by omega)
      have f1 := F1 (M := q + s) g1 g2 (by omega) B2
      have f2 := F2 (M := q + s) g3 g4 (by omega)
      by_cases r0 : 60 - yLv p1.2.1 - yLv p2.2.1 - L - s = 0
      · rw [if_pos r0] at hk
        have o2' := o2 (all10 (by omega))
        omega
      · rw [if_neg r0] at hk
        omega
    have g1 : iLp (fun j2 => iNj (yLv p1.2.1) C1.length B (yLv p2.2.1) j2) 8 = true := iLp_of (f := fun N2 => iLp (fun j2 => iNj (yLv p1.2.1) C1.length B N2 j2) 8) (n := min (yLv p1.2.1) (60 - yLv p1.2.1) + 1) (i := yLv p2.2.1) B1 (by omega)
    have g2 : iNj (yLv p1.2.1) C1.length B (yLv p2.2.1) j2 = true := iLp_of (f := fun j2 => iNj (yLv p1.2.1) C1.length B (yLv p2.2.1) j2) (n := 8) (i := j2) g1 (by omega)
    have c1j : p1.2.2 ≤ 11 - C1.length := by
      rcases Nat.eq_zero_or_pos C1.length with e | e
      · omega
      · have := cj1 e
        omega
    have c2j : p2.2.2 ≤ 11 - j2 := by
      rcases Nat.eq_zero_or_pos j2 with e | e
      · omega
      · have := cj2 (by omega)
        omega
    unfold iNj at g2
    by_cases z2 : j2 = 0
    · rw [if_pos z2, Bool.and_eq_true] at g2
      rcases LT with t | ⟨t, ⟨t1, t2⟩ | ⟨t1, t2⟩⟩
      · exact NN g2.1 (by omega) c1j (by omega) (by omega) (by omega) (by omega)
      · have g3 := g2.2
        have e : (C1.length == 0) = false := by
          cases hb : (C1.length == 0) with
          | false => rfl
          | true =>
            have : C1.length = 0 := eq_of_beq hb
            omega
        rw [e, Bool.false_or] at g3
        exact NN g3 (by omega) c1j (by omega) t2 (by omega) (by omega)
      · exact absurd t1 (by omega)
    · rw [if_neg z2, if_neg (show ¬ yLv p2.2.1 ≤ 4 * j2 by omega)] at g2
      by_cases z1 : C1.length = 0
      · rw [if_pos z1, Bool.and_eq_true] at g2
        rcases LT with t | ⟨t, ⟨t1, t2⟩ | ⟨t1, t2⟩⟩
        · exact NN g2.1 (by omega) (by omega) (by omega) c2j (by omega) (by omega)
        · exact absurd t1 (by omega)
        · exact NN g2.2 (by omega) t2 (by omega) c2j (by omega) (by omega)
      · rw [if_neg z1] at g2
        exact NN g2 (by omega) c1j (by omega) c2j (by omega) (by rcases LT with t | ⟨t, -⟩ <;> omega)
  · have := cj1 (by omega)
    have g1 := iLp_of (f := fun N1 => Nat.blt N1 23 || iLp (fun N2 => iLp (fun j2 => iLp (fun s => iN11 N1 N2 j2 s) (51 - N1 - N2 - j2)) 8) (min N1 (60 - N1) + 1)) (n := 50) (i := yLv p1.2.1) iN11_a (by omega)
    have e1 : Nat.blt (yLv p1.2.1) 23 = false := by
      cases hb : Nat.blt (yLv p1.2.1) 23 with
      | false => rfl
      | true =>
        have : yLv p1.2.1 + 1 ≤ 23 := Nat.le_of_ble_eq_true hb
        omega
    rw [e1, Bool.false_or] at g1
    have l10 : 10 + j2 ≤ t10 := by rcases LT with t | ⟨t, -⟩ <;> omega
    have g2 := iLp_of (f := fun N2 => iLp (fun j2 => iLp (fun s => iN11 (yLv p1.2.1) N2 j2 s) (51 - yLv p1.2.1 - N2 - j2)) 8) (n := min (yLv p1.2.1) (60 - yLv p1.2.1) + 1) (i := yLv p2.2.1) g1 (by omega)
    have g3 := iLp_of (f := fun j2 => iLp (fun s => iN11 (yLv p1.2.1) (yLv p2.2.1) j2 s) (51 - yLv p1.2.1 - yLv p2.2.1 - j2)) (n := 8) (i := j2) g2 (by omega)
    have g4 : iN11 (yLv p1.2.1) (yLv p2.2.1) j2 s = true := iLp_of (f := fun s => iN11 (yLv p1.2.1) (yLv p2.2.1) j2 s) (n := 51 - yLv p1.2.1 - yLv p2.2.1 - j2) (i := s) g3 (by omega)
    have hk := Nat.le_of_ble_eq_true g4
    have f0 := F0 (M := min 48 (yLv p1.2.1 - 1) + min (4 * j2 + 4) (yLv p2.2.1 - 1) + s) (by omega) (by omega) (by omega)
    have f2 := F2 (c' := 11 - j2) (M := min 48 (yLv p1.2.1 - 1) + min (4 * j2 + 4) (yLv p2.2.1 - 1) + s) (by omega) (by
      rcases Nat.eq_zero_or_pos j2 with e | e
      · omega
      · have := cj2 (by omega)
        omega) (by omega)
    omega
end I99
