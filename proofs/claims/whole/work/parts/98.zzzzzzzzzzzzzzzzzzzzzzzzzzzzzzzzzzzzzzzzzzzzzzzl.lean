/-! ROOM: the arrows of a longest way, their places, and the arrows of all TEMPLATES -/
/-- different things have different places -/
theorem pos_ex {α β : Type} {R : α → β → Prop} (hi : ∀ x x' p, R x p → R x' p → x = x') : ∀ Z : List α, Z.Nodup → (∀ z, z ∈ Z → ∃ p, R z p) → ∃ B : List β, B.length = Z.length ∧ B.Nodup ∧ ∀ b, b ∈ B → ∃ z, z ∈ Z ∧ R z b
  | [], _, _ => ⟨[], rfl, List.nodup_nil, fun b h => by cases h⟩
  | z :: Z, hn, h => by
    obtain ⟨n1, n2⟩ := List.nodup_cons.mp hn
    obtain ⟨B, b1, b2, b3⟩ := pos_ex hi Z n2 (fun x hx => h x (List.mem_cons_of_mem _ hx))
    obtain ⟨p, hp⟩ := h z (List.mem_cons_self ..)
    refine ⟨p :: B, by rw [List.length_cons, List.length_cons, b1], List.nodup_cons.mpr ⟨fun c => ?_, b2⟩, fun b hb => ?_⟩
    · obtain ⟨z', h1, h2⟩ := b3 p c
      rw [hi z z' p hp h2] at n1
      exact n1 h1
    · rcases List.mem_cons.mp hb with e | e
      · rw [e]; exact ⟨z, List.mem_cons_self .., hp⟩
      · obtain ⟨z', h1, h2⟩ := b3 b e
        exact ⟨z', List.mem_cons_of_mem _ h1, h2⟩
section CPS
variable {ρ : Nat → Nat × Nat} {tE tN : Nat → tY} {Un Ui : List ((Nat × Nat) × Nat)} {Ls W : List Nat} {l : List (Nat × tY × List Nat)} {L : List (tY × Nat × Nat × Nat)}
/-- arrows that chains ask for are no more than their ARGS -/
theorem ch_cov {J : List (((Nat × Nat) × Nat) × List (tY × Nat × Nat × Nat) × (tY × Nat × Nat × Nat))} {Z : List tY} (hn : Z.Nodup) (hz : ∀ z, z ∈ Z → ∃ j, j ∈ J ∧ chZ tE tN j z) : Z.length ≤ (J.map chW).sum := by
  have lz := nd_sb Z (J.flatMap (fun j => (List.range (chW j)).map (fun d => yRs d (uY tE tN j.1.1)))) hn (fun z h => by
    obtain ⟨j, h1, d, h2, h3⟩ := hz z h
    exact List.mem_flatMap.mpr ⟨j, h1, List.mem_map.mpr ⟨d, List.mem_range.mpr h2, h3.symm⟩⟩)
  have ll : ∀ J : List (((Nat × Nat) × Nat) × List (tY × Nat × Nat × Nat) × (tY × Nat × Nat × Nat)), (J.flatMap (fun j => (List.range (chW j)).map (fun d => yRs d (uY tE tN j.1.1)))).length = (J.map chW).sum := fun J => by
    induction J with
    | nil => rfl
    | cons j J ih => rw [List.flatMap_cons, List.length_append, ih, List.length_map, List.length_range, List.map_cons, List.sum_cons]
  rw [ll] at lz
  exact lz
set_option maxHeartbeats 1000000 in
/-- **arrows of a way fall into: those that chains of the ARGS' own types ask for; those on the called unit's row by its own chain; others: the last two have places of their own** -/
theorem ch_ps (h : tlH ρ tE tN Un Ls W l) (hU : ∀ x, x ∈ Ui → ∃ m, (x.1, m) ∈ Un) {O : List (tY × Nat)} (hO : ∀ o, o ∈ O → ∃ k m, ((0, k), m) ∈ Un ∧ uY tE tN (0, k) = o.1) {J : List (((Nat × Nat) × Nat) × List (tY × Nat × Nat × Nat) × (tY × Nat × Nat × Nat))} (j1 : ∀ j, j ∈ J → chJ tE tN Ui L j) {id0 : Nat × Nat} {m0 : Nat} (hu : (id0, m0) ∈ Un) {a m i0 : Nat} (hi0 : i0 < m) (hk0 : yK (yRs (a + i0) (uY tE tN id0)) = 1) {Z : List tY} (hp : Z.Pairwise (fun a b => yZ b < yZ a)) (hZ : ∀ z, z ∈ Z → yK z = 1 ∧ yZ z ≤ yZ (yL (yRs (a + i0) (uY tE tN id0)))) (hz : ∀ z, z ∈ Z → (∃ j, j ∈ J ∧ chZ tE tN j z) ∨ ∃ o, o ∈ O ∧ ∃ i, i < o.2 ∧ z = yRs i o.1) : ∃ Zy Zu Zo : List tY, Zy.length + Zu.length + Zo.length = Z.length ∧ (∀ J1 : List (((Nat × Nat) × Nat) × List (tY × Nat × Nat × Nat) × (tY × Nat × Nat × Nat)), (∀ j, j ∈ J → (∃ i, i < m ∧ uY tE tN j.1.1 = yL (yRs (a + i) (uY tE tN id0))) → j ∈ J1) → Zy.length ≤ (J1.map chW).sum) ∧ (∀ J1 : List (((Nat × Nat) × Nat) × List (tY × Nat × Nat × Nat) × (tY × Nat × Nat × Nat)), (∀ j, j ∈ J → (∃ i, i < m ∧ uY tE tN j.1.1 = yL (yRs (a + i) (uY tE tN id0))) ∨ uY tE tN j.1.1 = uY tE tN id0 → j ∈ J1) → Zy.length + Zu.length ≤ (J1.map chW).sum) ∧ sNx (fun i => yLa (uY tE tN id0) (a + i)) m + (a + i0 + 1) + (Zu.length + Zo.length) ≤ tlN l := by
  have gU : ∀ id m, (id, m) ∈ Un → yG (uY tE tN id) := fun id m hm => (sx_u h hm).1
  have g0 := gU id0 m0 hu
  obtain ⟨Zy, Zb, s1, s2, s3, s4, s5⟩ := sp_2 (P := fun z => ∃ j, j ∈ J ∧ (∃ i, i < m ∧ uY tE tN j.1.1 = yL (yRs (a + i) (uY tE tN id0))) ∧ chZ tE tN j z) (Q := fun z => ¬ ∃ j, j ∈ J ∧ (∃ i, i < m ∧ uY tE tN j.1.1 = yL (yRs (a + i) (uY tE tN id0))) ∧ chZ tE tN j z) Z (fun z _ => Classical.em _)
  obtain ⟨Zu, Zo, t1, t2, t3, t4, t5⟩ := sp_2 (P := fun z => ∃ j, j ∈ J ∧ uY tE tN j.1.1 = uY tE tN id0 ∧ chZ tE tN j z) (Q := fun z => ¬ ∃ j, j ∈ J ∧ uY tE tN j.1.1 = uY tE tN id0 ∧ chZ tE tN j z) Zb (fun z _ => Classical.em _)
  have nz : Z.Nodup := hp.imp (fun {a b} h e => by rw [e] at h; exact Nat.lt_irrefl _ h)
  have ny := nz.sublist s1
  have nb := nz.sublist s2
  -- places
  obtain ⟨B, b1, b2, b3⟩ := pos_ex (R := fun (z : tY) (b : (Nat × Nat) × Nat) => z = yRs b.2 (uY tE tN b.1) ∧ (∃ m, (b.1, m) ∈ Un) ∧ yK z = 1 ∧ yZ z ≤ yZ (yL (yRs (a + i0) (uY tE tN id0))) ∧ ((∃ k, b.1 = (0, k)) ∨ ∀ i, i < m → uY tE tN b.1 ≠ yL (yRs (a + i) (uY tE tN id0)))) (fun x x' p e e' => by rw [e.1, e'.1]) Zb nb (fun z hzb => by
    have hzZ := s2.subset hzb
    obtain ⟨k1, k2⟩ := hZ z hzZ
    rcases hz z hzZ with ⟨j, hj, d, hd, e⟩ | ⟨o, ho, i, hi, e⟩
    · refine ⟨(j.1.1, d), e, hU j.1 (j1 j hj).1, k1, k2, Or.inr (fun i hi z' => ?_)⟩
      exact s5 z hzb ⟨j, hj, ⟨i, hi, z'⟩, d, hd, e⟩
    · obtain ⟨k, m', hm, hk⟩ := hO o ho
      exact ⟨((0, k), i), by show z = yRs i (uY tE tN (0, k)); rw [hk]; exact e, ⟨m', hm⟩, k1, k2, Or.inl ⟨k, rfl⟩⟩)
  have SP : ∀ b, b ∈ B → (∃ m, (b.1, m) ∈ Un) ∧ b.2 < ySp (uY tE tN b.1) := fun b hb => by
    obtain ⟨z, -, e, ⟨m', hm⟩, k1, -⟩ := b3 b hb
    refine ⟨⟨m', hm⟩, ySp_k (gU _ _ hm) ?_⟩
    rw [← e]; exact k1
  have NST := tl_st h hu (a := a) (m := m) (pre := a + i0 + 1) (ySp_k g0 hk0) b2 SP (fun b hb x u i hx e0 hi hu' e1 => by
    obtain ⟨z, -, -, -, -, -, q⟩ := b3 b hb
    rcases q with ⟨k, q⟩ | q
    · rw [q] at e1
      injection e1 with e1
      cases e1
    · obtain ⟨x1, hx1, hid⟩ := h.wh hu
      have ux : uY tE tN id0 = x.2.1 := by
        rcases hid with ⟨i1, i2⟩ | ⟨j0, u0, i1, i2⟩
        · rw [e0] at i1
          have i1 : x.1 = x1.1 := by injection i1
          rw [tl_key h.2.1 hx hx1 i1]
          exact i2
        · rw [e0] at i2
          injection i2 with i2
          cases i2
      obtain ⟨n1, n2, -, -⟩ := h.nm (k := x.1) (Y := x.2.1) hx hu'
      refine q i hi ?_
      rw [e1, uY_p, ux, n2]) (fun d hd => by
    obtain ⟨z, -, e, -, -, k2, -⟩ := b3 _ hd
    refine Nat.lt_of_not_le (fun c => ?_)
    have e : z = yRs d (uY tE tN id0) := e
    have r1 := yZ_rm (uY tE tN id0) d (a + i0) c
    have r2 : yZ (yL (yRs (a + i0) (uY tE tN id0))) < yZ (yRs (a + i0) (uY tE tN id0)) := by
      obtain ⟨y1, y2, e3⟩ := yK_1 hk0
      rw [e3]
      show yZ y1 < yZ y1 + yZ y2 + 1
      omega
    rw [← e] at r1
    omega)
  refine ⟨Zy, Zu, Zo, by omega, fun J1 hJ => ch_cov (tE := tE) (tN := tN) (J := J1) ny (fun z hz' => ?_), fun J1 hJ => ?_, by omega⟩
  · obtain ⟨j, q1, q2, q3⟩ := s4 z hz'
    exact ⟨j, hJ j q1 q2, q3⟩
  · have nd : (Zy ++ Zu).Nodup := List.nodup_append.mpr ⟨ny, nb.sublist t1, fun x hx y hy e => by
      rw [← e] at hy
      exact s5 x (t1.subset hy) (s4 x hx)⟩
    have := ch_cov (tE := tE) (tN := tN) (J := J1) nd (fun z hz' => by
      rcases List.mem_append.mp hz' with q | q
      · obtain ⟨j, q1, q2, q3⟩ := s4 z q
        exact ⟨j, hJ j q1 (Or.inl q2), q3⟩
      · obtain ⟨j, q1, q2, q3⟩ := t4 z q
        exact ⟨j, hJ j q1 (Or.inr q2), q3⟩)
    rw [List.length_append] at this
    exact this
end CPS
