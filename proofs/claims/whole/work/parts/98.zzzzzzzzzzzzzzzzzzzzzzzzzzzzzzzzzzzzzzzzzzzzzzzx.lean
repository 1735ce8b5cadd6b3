/-! ROOM: R81: R80 with the called unit's own chain, and the arrows that no call asks for apart -/
theorem su_fi {α : Type} (f : α → Nat) (p : α → Prop) : ∀ (l : List α) (x : α), x ∈ l → ¬ p x → f x + ((l.filter (fun y => @decide (p y) (Classical.propDecidable _))).map f).sum ≤ (l.map f).sum
  | [], x, h, _ => by cases h
  | y :: l, x, h, hp => by
    have mono : ∀ l : List α, ((l.filter (fun y => @decide (p y) (Classical.propDecidable _))).map f).sum ≤ (l.map f).sum := fun l => by
      induction l with
      | nil => exact Nat.le_refl _
      | cons z l ih =>
        rw [List.filter_cons]
        split
        · rw [List.map_cons, List.sum_cons, List.map_cons, List.sum_cons]; omega
        · rw [List.map_cons, List.sum_cons]; omega
    rw [List.filter_cons, List.map_cons, List.sum_cons]
    rcases List.mem_cons.mp h with e | e
    · rw [if_neg (fun z => hp (by rw [e]; exact @of_decide_eq_true _ (Classical.propDecidable _) z)), e]
      have := mono l
      omega
    · have ih := su_fi f p l x e hp
      split
      · rw [List.map_cons, List.sum_cons]; omega
      · omega
section CP3
variable {ρ : Nat → Nat × Nat} {tE tN : Nat → tY} {Un Ui : List ((Nat × Nat) × Nat)} {Ls W : List Nat} {l : List (Nat × tY × List Nat)} {L : List (tY × Nat × Nat × Nat)}
set_option maxHeartbeats 1000000 in
/-- **as ch_ps; what chains of other units ask for, and what no chain asks for, apart; the called unit's own chain j0** -/
theorem ch_p3 (h : tlH ρ tE tN Un Ls W l) (hU : ∀ x, x ∈ Ui → ∃ m, (x.1, m) ∈ Un) {O : List (tY × Nat)} (hO : ∀ o, o ∈ O → ∃ k m, ((0, k), m) ∈ Un ∧ uY tE tN (0, k) = o.1) {J : List (((Nat × Nat) × Nat) × List (tY × Nat × Nat × Nat) × (tY × Nat × Nat × Nat))} (j1 : ∀ j, j ∈ J → chJ tE tN Ui L j) (j3 : (J.map (fun j => uY tE tN j.1.1)).Nodup) {j0 : ((Nat × Nat) × Nat) × List (tY × Nat × Nat × Nat) × (tY × Nat × Nat × Nat)} (hj0 : j0 ∈ J) {m0 : Nat} (hu : (j0.1.1, m0) ∈ Un) {a m i0 : Nat} (hi0 : i0 < m) (hk0 : yK (yRs (a + i0) (uY tE tN j0.1.1)) = 1) {Z : List tY} (hp : Z.Pairwise (fun a b => yZ b < yZ a)) (hZ : ∀ z, z ∈ Z → yK z = 1 ∧ yZ z ≤ yZ (yL (yRs (a + i0) (uY tE tN j0.1.1)))) (hz : ∀ z, z ∈ Z → (∃ j, j ∈ J ∧ chZ tE tN j z) ∨ ∃ o, o ∈ O ∧ ∃ i, i < o.2 ∧ z = yRs i o.1) : ∃ (zy zu zb : Nat) (Zc : List tY), zy + zu + zb + Zc.length = Z.length ∧ Zc.Sublist Z ∧ (∀ z, z ∈ Zc → ∃ o, o ∈ O ∧ ∃ i, i < o.2 ∧ z = yRs i o.1) ∧ (zu = 0 ∨ (a + i0 + 1 + zu ≤ chW j0 ∧ a + i0 + 1 + zu ≤ ySp (uY tE tN j0.1.1))) ∧ sNx (fun i => yLa (uY tE tN j0.1.1) (a + i)) m + (a + i0 + 1) + (zu + zb + Zc.length) ≤ tlN l ∧ (∀ J1 : List (((Nat × Nat) × Nat) × List (tY × Nat × Nat × Nat) × (tY × Nat × Nat × Nat)), (∀ j, j ∈ J → (∃ i, i < m ∧ uY tE tN j.1.1 = yL (yRs (a + i) (uY tE tN j0.1.1))) → j ∈ J1) → zy ≤ (J1.map chW).sum ∧ ((∀ j, j ∈ J → uY tE tN j.1.1 ≠ uY tE tN j0.1.1 → j ∈ J1) → zy + zb ≤ (J1.map chW).sum) ∧ (j0 ∈ J1 → zy + chW j0 ≤ (J1.map chW).sum) ∧ ((∀ j, j ∈ J → j ∈ J1) → zy + zb + chW j0 ≤ (J1.map chW).sum)) := by
  have gU : ∀ id m, (id, m) ∈ Un → yG (uY tE tN id) := fun id m hm => (sx_u h hm).1
  have g0 := gU j0.1.1 m0 hu
  obtain ⟨Zy, Zr, s1, s2, s3, s4, s5⟩ := sp_2 (P := fun z => ∃ j, j ∈ J ∧ (∃ i, i < m ∧ uY tE tN j.1.1 = yL (yRs (a + i) (uY tE tN j0.1.1))) ∧ chZ tE tN j z) (Q := fun z => ¬ ∃ j, j ∈ J ∧ (∃ i, i < m ∧ uY tE tN j.1.1 = yL (yRs (a + i) (uY tE tN j0.1.1))) ∧ chZ tE tN j z) Z (fun z _ => Classical.em _)
  obtain ⟨Zu, Zo, t1, t2, t3, t4, t5⟩ := sp_2 (P := fun z => ∃ j, j ∈ J ∧ uY tE tN j.1.1 = uY tE tN j0.1.1 ∧ chZ tE tN j z) (Q := fun z => ¬ ∃ j, j ∈ J ∧ uY tE tN j.1.1 = uY tE tN j0.1.1 ∧ chZ tE tN j z) Zr (fun z _ => Classical.em _)
  obtain ⟨Zb, Zc, u1, u2, u3, u4, u5⟩ := sp_2 (P := fun z => ∃ j, j ∈ J ∧ chZ tE tN j z) (Q := fun z => ¬ ∃ j, j ∈ J ∧ chZ tE tN j z) Zo (fun z _ => Classical.em _)
  have nz : Z.Nodup := hp.imp (fun {a b} h e => by rw [e] at h; exact Nat.lt_irrefl _ h)
  have ny := nz.sublist s1
  have nr := nz.sublist s2
  have nu := nr.sublist t1
  have no := nr.sublist t2
  have nb := no.sublist u1
  -- places
  obtain ⟨B, b1, b2, b3⟩ := pos_ex (R := fun (z : tY) (b : (Nat × Nat) × Nat) => z = yRs b.2 (uY tE tN b.1) ∧ (∃ m, (b.1, m) ∈ Un) ∧ yK z = 1 ∧ yZ z ≤ yZ (yL (yRs (a + i0) (uY tE tN j0.1.1))) ∧ ((∃ k, b.1 = (0, k)) ∨ ∀ i, i < m → uY tE tN b.1 ≠ yL (yRs (a + i) (uY tE tN j0.1.1)))) (fun x x' p e e' => by rw [e.1, e'.1]) Zr nr (fun z hzb => by
    have hzZ := s2.subset hzb
    obtain ⟨k1, k2⟩ := hZ z hzZ
    rcases hz z hzZ with ⟨j, hj, d, hd, e⟩ | ⟨o, ho, i, hi, e⟩
    · refine ⟨(j.1.1, d), e, hU j.1 (j1 j hj).1, k1, k2, Or.inr (fun i hi z' => ?_)⟩
      exact s5 z hzb ⟨j, hj, ⟨i, hi, z'⟩, d, hd, e⟩
    · obtain ⟨k, m', hm, hk⟩ := hO o ho
      exact ⟨((0, k), i), by show z = yRs i (uY tE tN (0, k)); rw [hk]; exact e, ⟨m', hm⟩, k1, k2, Or.inl ⟨k, rfl⟩⟩)
  have SP : ∀ b, b ∈ B → (∃ m, (b.1, m) ∈ Un) ∧ b.2 < ySp (uY tE tN b.1) := fun b hb => by
    obtain ⟨z, -, e, ⟨m', hm⟩, k1, -⟩ := b3 b hb
    refine ⟨⟨m', hm⟩, ySp_k (gU _ _ hm) ?_⟩
    rw [← e]; exact k1
  have lt0 : yZ (yL (yRs (a + i0) (uY tE tN j0.1.1))) < yZ (yRs (a + i0) (uY tE tN j0.1.1)) := by
    obtain ⟨y1, y2, e3⟩ := yK_1 hk0
    rw [e3]
    show yZ y1 < yZ y1 + yZ y2 + 1
    omega
  have BEH : ∀ z d, yZ z ≤ yZ (yL (yRs (a + i0) (uY tE tN j0.1.1))) → z = yRs d (uY tE tN j0.1.1) → a + i0 + 1 ≤ d := fun z d k2 e => Nat.lt_of_not_le (fun c => by
    have r1 := yZ_rm (uY tE tN j0.1.1) d (a + i0) c
    rw [← e] at r1
    omega)
  have NST := tl_st h hu (a := a) (m := m) (pre := a + i0 + 1) (ySp_k g0 hk0) b2 SP (fun b hb x u i hx e0 hi hu' e1 => by
    obtain ⟨z, -, -, -, -, -, q⟩ := b3 b hb
    rcases q with ⟨k, q⟩ | q
    · rw [q] at e1
      injection e1 with e1
      cases e1
    · obtain ⟨x1, hx1, hid⟩ := h.wh hu
      have ux : uY tE tN j0.1.1 = x.2.1 := by
        rcases hid with ⟨i1, i2⟩ | ⟨j0, u0, i1, i2⟩
        · rw [e0] at i1
          have i1 : x.1 = x1.1 := by injection i1
          rw [tl_key h.2.1 hx hx1 i1]
          exact i2
        · rw [e0] at i2
          injection i2 with i2
          cases i2
      obtain ⟨n1, n2, -, -⟩ := h.nm (k := x.1) (Y := x.2.1) hx hu'
      refine q i hi ?_
      rw [e1, uY_p, ux, n2]) (fun d hd => by
    obtain ⟨z, -, e, -, -, k2, -⟩ := b3 _ hd
    exact BEH z d k2 e)
  -- one chain alone is the called unit's
  have ONE : ∀ j, j ∈ J → uY tE tN j.1.1 = uY tE tN j0.1.1 → j = j0 := fun j hj e => by
    have key : ∀ J : List (((Nat × Nat) × Nat) × List (tY × Nat × Nat × Nat) × (tY × Nat × Nat × Nat)), (J.map (fun j => uY tE tN j.1.1)).Nodup → j ∈ J → j0 ∈ J → j = j0 := fun J => by
      induction J with
      | nil => intro _ h; cases h
      | cons x J ih =>
        intro n h1 h2
        rw [List.map_cons] at n
        obtain ⟨n1, n2⟩ := List.nodup_cons.mp n
        rcases List.mem_cons.mp h1 with e1 | e1
        · rcases List.mem_cons.mp h2 with e2 | e2
          · rw [e1, e2]
          · exact absurd (List.mem_map.mpr ⟨j0, e2, by rw [← e1]; exact e.symm⟩) n1
        · rcases List.mem_cons.mp h2 with e2 | e2
          · exact absurd (List.mem_map.mpr ⟨j, e1, by rw [← e2]; exact e⟩) n1
          · exact ih n2 e1 e2
    exact key J j3 hj hj0
  refine ⟨Zy.length, Zu.length, Zb.length, Zc, by omega, (u2.trans t2).trans s2, fun z hzc => ?_, ?_, by omega, fun J1 hJ => ?_⟩
  · rcases hz z (s2.subset (t2.subset (u2.subset hzc))) with c | c
    · exact absurd c (u5 z hzc)
    · exact c
  · -- places of the called unit's row
    rcases Nat.eq_zero_or_pos Zu.length with q | q
    · exact Or.inl q
    · right
      have cv : ∀ z, z ∈ Zu → ∃ d, a + i0 + 1 ≤ d ∧ d < min (chW j0) (ySp (uY tE tN j0.1.1)) ∧ z = yRs d (uY tE tN j0.1.1) := fun z hzu => by
        obtain ⟨j, q1, q2, d, q3, q4⟩ := t4 z hzu
        have e := ONE j q1 q2
        rw [e] at q3 q4
        obtain ⟨k1, k2⟩ := hZ z (s2.subset (t1.subset hzu))
        exact ⟨d, BEH z d k2 q4, Nat.lt_min.mpr ⟨q3, ySp_k g0 (by rw [← q4]; exact k1)⟩, q4⟩
      have lz := nd_sb Zu ((List.range' (a + i0 + 1) (min (chW j0) (ySp (uY tE tN j0.1.1)) - (a + i0 + 1))).map (fun d => yRs d (uY tE tN j0.1.1))) nu (fun z hzu => by
        obtain ⟨d, q1, q2, q3⟩ := cv z hzu
        refine List.mem_map.mpr ⟨d, List.mem_range'.mpr ⟨d - (a + i0 + 1), by omega, by omega⟩, q3.symm⟩)
      rw [List.length_map, List.length_range'] at lz
      have m1 := Nat.min_le_left (chW j0) (ySp (uY tE tN j0.1.1))
      have m2 := Nat.min_le_right (chW j0) (ySp (uY tE tN j0.1.1))
      omega
  · have GY : ∀ J2 : List (((Nat × Nat) × Nat) × List (tY × Nat × Nat × Nat) × (tY × Nat × Nat × Nat)), (∀ j, j ∈ J → (∃ i, i < m ∧ uY tE tN j.1.1 = yL (yRs (a + i) (uY tE tN j0.1.1))) → j ∈ J2) → Zy.length ≤ (J2.map chW).sum := fun J2 h2 => ch_cov (tE := tE) (tN := tN) (J := J2) ny (fun z hz' => by
      obtain ⟨j, q1, q2, q3⟩ := s4 z hz'
      exact ⟨j, h2 j q1 q2, q3⟩)
    have GB : ∀ J2 : List (((Nat × Nat) × Nat) × List (tY × Nat × Nat × Nat) × (tY × Nat × Nat × Nat)), (∀ j, j ∈ J → (∃ i, i < m ∧ uY tE tN j.1.1 = yL (yRs (a + i) (uY tE tN j0.1.1))) → j ∈ J2) → (∀ j, j ∈ J → uY tE tN j.1.1 ≠ uY tE tN j0.1.1 → j ∈ J2) → Zy.length + Zb.length ≤ (J2.map chW).sum := fun J2 h2 h3 => by
      have nd : (Zy ++ Zb).Nodup := List.nodup_append.mpr ⟨ny, nb, fun x hx y hy e => by
        rw [← e] at hy
        exact s5 x (t2.subset (u1.subset hy)) (s4 x hx)⟩
      have := ch_cov (tE := tE) (tN := tN) (J := J2) nd (fun z hz' => by
        rcases List.mem_append.mp hz' with q | q
        · obtain ⟨j, q1, q2, q3⟩ := s4 z q
          exact ⟨j, h2 j q1 q2, q3⟩
        · obtain ⟨j, q1, q3⟩ := u4 z q
          exact ⟨j, h3 j q1 (fun e => t5 z (u1.subset q) ⟨j, q1, e, q3⟩), q3⟩)
      rw [List.length_append] at this
      exact this
    have ng : ∀ j, j ∈ J → (∃ i, i < m ∧ uY tE tN j.1.1 = yL (yRs (a + i) (uY tE tN j0.1.1))) → uY tE tN j.1.1 ≠ uY tE tN j0.1.1 := fun j hj ⟨i, hi, e⟩ e2 => by
      rw [e2] at e
      have k1 : yK (uY tE tN j0.1.1) = 1 := by
        have q := (j1 j0 hj0).2.2.2.2.1
        obtain ⟨eY, -⟩ := chR_to _ _ _ _ _ q
        have k := (j1 j0 hj0).2.2.2.2.2
        rw [eY] at k
        have : 0 < ySp (uY tE tN j0.1.1) := Nat.lt_of_le_of_lt (Nat.zero_le _) (ySp_k g0 k)
        exact ySp_i _ 0 this
      have k2 : yK (yL (yRs (a + i) (uY tE tN j0.1.1))) = 1 := by rw [← e]; exact k1
      have r1 := yZ_rs (a + i) (uY tE tN j0.1.1)
      have r2 : yZ (yL (yRs (a + i) (uY tE tN j0.1.1))) < yZ (yRs (a + i) (uY tE tN j0.1.1)) := by
        cases e3 : yRs (a + i) (uY tE tN j0.1.1) with
        | leaf => rw [e3] at k2; exact absurd k2 (by decide)
        | inner k u v p q =>
          show yZ p < yZ p + yZ q + 1
          omega
      rw [← e] at r2
      omega
    have FI : ∀ j, j ∈ J1 → uY tE tN j.1.1 ≠ uY tE tN j0.1.1 → j ∈ J1.filter (fun j => @decide (uY tE tN j.1.1 ≠ uY tE tN j0.1.1) (Classical.propDecidable _)) := fun j hj hne => List.mem_filter.mpr ⟨hj, @decide_eq_true _ (Classical.propDecidable _) hne⟩
    refine ⟨GY J1 hJ, fun hB => GB J1 hJ hB, fun h0 => ?_, fun hA => ?_⟩
    · have q := su_fi chW (fun j => uY tE tN j.1.1 ≠ uY tE tN j0.1.1) J1 j0 h0 (fun z => z rfl)
      have q2 := GY (J1.filter (fun j => @decide (uY tE tN j.1.1 ≠ uY tE tN j0.1.1) (Classical.propDecidable _))) (fun j hj hg => FI j (hJ j hj hg) (ng j hj hg))
      omega
    · have q := su_fi chW (fun j => uY tE tN j.1.1 ≠ uY tE tN j0.1.1) J1 j0 (hA j0 hj0) (fun z => z rfl)
      have q2 := GB (J1.filter (fun j => @decide (uY tE tN j.1.1 ≠ uY tE tN j0.1.1) (Classical.propDecidable _))) (fun j hj hg => FI j (hA j hj) (ng j hj hg)) (fun j hj hne => FI j (hA j hj) hne)
      omega
end CP3
section TX8
variable {T len cnt j N S P Q x0 : Nat} {kk pp ee f fc : Nat → Int32} {xs : List tQ} {is : List (Nat × Nat)} {e : tT} {α : Nat → tY} {g' : gG} {ρ' : Nat → tY} {τ : zSt}
/-- what R81 says of a call Y, m and its ARGS from iF on: the unit id0 whose row, from place d on, is the call's from iF on; w0 of its places are passed by its own chain of calls; zy, zu, zb, Zc: arrows of the longest way of the ARG i0, by who asks for them -/
def r81 (tE tN : Nat → tY) (Un : List ((Nat × Nat) × Nat)) (L : List (tY × Nat × Nat × Nat)) (O : List (tY × Nat)) (wt : Nat) (R : tY → Nat) (V NN : Nat) (Y : tY) (m iF i0 : Nat) : Prop :=
  ∃ (id0 : Nat × Nat) (m0 d w0 zy zu zb : Nat) (Zc : List tY), (id0, m0) ∈ Un ∧ (∀ s, yRs (iF + s) Y = yRs (d + s) (uY tE tN id0)) ∧
    (zy + zu + zb + Zc.length = yHt (yL (yRs i0 Y)) ∧ Zc.Sublist (yWt (yL (yRs i0 Y))) ∧ ∀ z, z ∈ Zc → ∃ o, o ∈ O ∧ ∃ i, i < o.2 ∧ z = yRs i o.1) ∧
    (d + 1 ≤ w0 ∧ (zu = 0 ∨ (d + (i0 - iF) + 1 + zu ≤ w0 ∧ d + (i0 - iF) + 1 + zu ≤ ySp (uY tE tN id0)))) ∧
    sNx (fun s => yLa (uY tE tN id0) (d + s)) (m - iF) + (d + (i0 - iF) + 1) + (zu + zb + Zc.length) ≤ NN ∧
    (∀ G : tY → Prop, (∀ i, iF ≤ i → i < m → G (yL (yRs i Y))) → ∃ (J1 : List (((Nat × Nat) × Nat) × List (tY × Nat × Nat × Nat) × (tY × Nat × Nat × Nat))) (n : Nat), ((∀ j, j ∈ J1 → (∃ m, (j.1.1, m) ∈ Un) ∧ j.1.2 ≤ 3 ∧ G (uY tE tN j.1.1)) ∧ (J1.map (fun j => uY tE tN j.1.1)).Nodup) ∧ (n ≤ L.length ∧ (J1.map chW).sum ≤ 4 * n) ∧ (zy ≤ (J1.map chW).sum ∧ ((∀ y, y ≠ uY tE tN id0 → G y) → zy + zb ≤ (J1.map chW).sum) ∧ (G (uY tE tN id0) → zy + w0 ≤ (J1.map chW).sum) ∧ ((∀ y, G y) → zy + zb + w0 ≤ (J1.map chW).sum)) ∧ (kSm L + 8 * (662 * n + 274 * (J1.map chW).sum) ≤ (J1.map (chK tE tN wt R)).sum + 8 * lcT L + (L.length - n) * V ∧ kSm L + 6528 * n ≤ (J1.map (chM tE tN wt R)).sum + 8 * lcT L + (L.length - n) * V))
set_option maxHeartbeats 1000000 in
/-- **R81 for a PROGRAM** -/
theorem tx_81 {wt V : Nat} {R : tY → Nat} (hT : 2010 ≤ T) (hp : pgT T len cnt j kk pp ee f fc xs is e α) (hR : pgR T len cnt kk pp ee f xs is e α N S P Q x0 g' ρ' τ)
    (hk : ∀ c, c ∈ cvE f pp ee wt (pTN f pp ee is e α) e (is.map Prod.fst) (fun _ => 0) → c.2.2.2 ≤ kB wt R c.2.1 c.1 c.2.2.1)
    (hV : ∀ c, c ∈ cvE f pp ee wt (pTN f pp ee is e α) e (is.map Prod.fst) (fun _ => 0) → c.2.2.2 ≤ 8 * lc c.1 c.2.1 + V)
    {c0 : tY × Nat × Nat × Nat} (hc0 : c0 ∈ cvE f pp ee wt (pTN f pp ee is e α) e (is.map Prod.fst) (fun _ => 0)) {iF i0 : Nat} (hi : iF ≤ i0) (hi0 : i0 < c0.2.1) (hk0 : yK (yRs i0 c0.1) = 1) :
    r81 (pTE f pp ee is e α) (pTN f pp ee is e α) (gUn (pTN f pp ee is e α) e (is.map Prod.fst)) (cvE f pp ee wt (pTN f pp ee is e α) e (is.map Prod.fst) (fun _ => 0)) (cvO (pTE f pp ee is e α) (pTN f pp ee is e α) e) wt R V (tlN (tLs (pTE f pp ee is e α) (pTN f pp ee is e α) e)) c0.1 c0.2.1 iF i0 := by
  obtain ⟨t1, t4, -⟩ := tx_ch (wt := wt) hT hp hR.2.1
  have G := tx_gu hT hp hR
  obtain ⟨ρ, H⟩ := tx_tl hT hp hR
  have Zc := tx_z (wt := wt) hT hp hR
  have hU : ∀ x, x ∈ gUi e → ∃ m, (x.1, m) ∈ gUn (pTN f pp ee is e α) e (is.map Prod.fst) := fun x hx => gUi_n e (is.map Prod.fst) x hx
  have hO := fun o => cvO_u (tE := pTE f pp ee is e α) (tN := pTN f pp ee is e α) e (is.map Prod.fst) o
  revert t1 t4 Zc hk hV hc0 hU hO H G
  generalize cvE f pp ee wt (pTN f pp ee is e α) e (is.map Prod.fst) (fun _ => 0) = L
  generalize gUn (pTN f pp ee is e α) e (is.map Prod.fst) = Un
  generalize cvO (pTE f pp ee is e α) (pTN f pp ee is e α) e = O
  generalize tLs (pTE f pp ee is e α) (pTN f pp ee is e α) e = l
  generalize pTE f pp ee is e α = tE
  generalize pTN f pp ee is e α = tN
  intro hk hV hc0 t1 t4 G H Zc hU hO
  obtain ⟨M, hM⟩ := cl_mx L
  -- places of the called type
  obtain ⟨k1, k2⟩ := t1 c0 hc0 (by omega)
  obtain ⟨x, hx, TT, -, ch⟩ := ch_ex t1 hM (M + 1) c0.1 _ k1 (by omega) k2
  obtain ⟨eY, -⟩ := chR_to _ _ _ _ _ ch
  obtain ⟨mx, hmx⟩ := hU x hx
  have rr : ∀ i, yRs i c0.1 = yRs (chN TT + i) (uY tE tN x.1) := fun i => by rw [eY, yRs_ad]
  have kF : ∀ i, i ≤ i0 → yK (yRs i c0.1) = 1 := fun i hi => by
    have g := (sx_u H hmx).1
    have hk' : yK (yRs (chN TT + i0) (uY tE tN x.1)) = 1 := by rw [← rr]; exact hk0
    rw [rr]
    exact ySp_i _ _ (by have := ySp_k g hk'; omega)
  have lts : yZ (yL (yRs i0 c0.1)) < yZ (yRs iF c0.1) := by
    have r1 : yZ (yRs i0 c0.1) ≤ yZ (yRs iF c0.1) := yZ_rm _ _ _ hi
    obtain ⟨y1, y2, e3⟩ := yK_1 hk0
    have r2 : yZ (yL (yRs i0 c0.1)) < yZ (yRs i0 c0.1) := by
      rw [e3]
      show yZ y1 < yZ y1 + yZ y2 + 1
      omega
    omega
  have cd : ∀ p : tY → Prop, ∃ Z1 : List tY, Z1.Sublist (yWt (yL (yRs i0 c0.1))) ∧ ∀ z, z ∈ Z1 ↔ z ∈ yWt (yL (yRs i0 c0.1)) ∧ p z := fun p => ⟨(yWt (yL (yRs i0 c0.1))).filter (fun z => @decide (p z) (Classical.propDecidable _)), List.filter_sublist, fun z => by
    rw [List.mem_filter]
    exact ⟨fun h => ⟨h.1, @of_decide_eq_true _ (Classical.propDecidable _) h.2⟩, fun h => ⟨h.1, @decide_eq_true _ (Classical.propDecidable _) h.2⟩⟩⟩
  obtain ⟨Zc1, s1, s2⟩ := cd (fun z => ∃ c, c ∈ L ∧ ∃ i, i < c.2.1 ∧ z = yRs i c.1)
  obtain ⟨J, j1, j2, j3, j4, -⟩ := ch_sel t1 hM (yRs iF c0.1 :: Zc1) (List.pairwise_cons.mpr ⟨fun z hz => Nat.lt_of_le_of_lt (yWt_in _ z (s1.subset hz)).2 lts, (yWt_p _).sublist s1⟩) (fun z hz => by
    rcases List.mem_cons.mp hz with q | q
    · exact ⟨c0, hc0, iF, by omega, q⟩
    · exact ((s2 z).mp q).2)
  -- the called unit
  obtain ⟨j0, hj0, d, hd, ed⟩ := j4 _ (List.mem_cons_self ..)
  obtain ⟨m0, hm0⟩ := hU j0.1 (j1 j0 hj0).1
  have g0 := (sx_u H hm0).1
  have ro : ∀ s, yRs (iF + s) c0.1 = yRs (d + s) (uY tE tN j0.1.1) := fun s => by rw [yRs_ad, ed, ← yRs_ad]
  have r0 : yRs i0 c0.1 = yRs (d + (i0 - iF)) (uY tE tN j0.1.1) := by rw [← ro, show iF + (i0 - iF) = i0 by omega]
  have hk' : yK (yRs (d + (i0 - iF)) (uY tE tN j0.1.1)) = 1 := by rw [← r0]; exact hk0
  obtain ⟨xt, hxt, zin⟩ := uY_in H hm0
  have yin : ∀ z, z ∈ yWt (yL (yRs i0 c0.1)) → yIn z (uY tE tN j0.1.1) := fun z hz => by
    have h1 := (yWt_in _ z hz).1
    rw [r0] at h1
    exact yIn_rs (d + (i0 - iF)) _ (fun i hi => yK_is (ySp_i _ _ (by have := ySp_k g0 hk'; omega))) (yIn_l (yK_is hk') h1)
  obtain ⟨zy, zu, zb, Zd, q1, q2, q3, q4, q5, q6⟩ := ch_p3 H hU (O := O) hO j1 j3 hj0 hm0 (a := d) (m := c0.2.1 - iF) (i0 := i0 - iF) (by omega) hk' (Z := yWt (yL (yRs i0 c0.1))) (yWt_p _) (fun z hz => by
    obtain ⟨h1, h2⟩ := yWt_in _ z hz
    rw [← r0]
    exact ⟨yIn_k h1, h2⟩) (fun z hz => by
    rcases Zc xt hxt z (zin z (yin z hz)) with c | c
    · exact Or.inl (j4 z (List.mem_cons_of_mem _ ((s2 z).mpr ⟨hz, c⟩)))
    · exact Or.inr c)
  rw [yWt_l] at q1
  refine ⟨j0.1.1, m0, d, chW j0, zy, zu, zb, Zd, hm0, ro, ⟨q1, q2, q3⟩, ⟨hd, q4⟩, q5, fun Gp hG => ?_⟩
  obtain ⟨J1, n, e1, e2, e3, e4, e5, e6⟩ := ch_spl hk t4 hV j1 j2 j3 Gp
  obtain ⟨w1, w2, w3, w4⟩ := q6 J1 (fun j hj ⟨i, hi', e⟩ => e2 j hj (by
    rw [e, ← ro]
    exact hG (iF + i) (by omega) (by omega)))
  exact ⟨J1, n, ⟨fun j hj => ⟨hU _ (j1 j (e1 j hj).1).1, (G _ (j1 j (e1 j hj).1).1).2, (e1 j hj).2⟩, e3⟩, ⟨e4, e5⟩, ⟨w1, fun hg => w2 (fun j hj hne => e2 j hj (hg _ hne)), fun hg => w3 (e2 j0 hj0 hg), fun hg => w4 (fun j hj => e2 j hj (hg _))⟩, e6⟩
end TX8
