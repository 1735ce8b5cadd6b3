/-! CAPACITIES: the spine of a TEMPLATE without its NAMES that are functions -/
theorem yTp_le : ∀ (q : Nat) (Y : tY), (∀ i, i < q → yIs (yRs i Y)) → yLv (yTp q Y) ≤ yLv Y
  | 0, _, _ => Nat.le_refl _
  | q + 1, Y, h => by
    have I := yTp_le q (yR Y) (fun i hi => h (i + 1) (by omega))
    have e := (ySx_is (h 0 (by omega))).2
    have e : yLv Y = yLv (yL Y) + yLv (yR Y) := e
    show yLv (if yK (yL Y) = 1 then yTp q (yR Y) else yA (yL Y) (yTp q (yR Y))) ≤ yLv Y
    split
    · omega
    · show yLv (yL Y) + yLv (yTp q (yR Y)) ≤ _
      omega
theorem yTp_p : ∀ (q : Nat) (Y : tY) (i : Nat), (∀ i, i < q → yIs (yRs i Y)) → i < q → yK (yL (yRs i Y)) = 1 → yLv (yTp q Y) + yLv (yL (yRs i Y)) ≤ yLv Y
  | 0, _, _, _, h, _ => absurd h (Nat.not_lt_zero _)
  | q + 1, Y, i, h, hi, hk => by
    have e : yLv Y = yLv (yL Y) + yLv (yR Y) := (ySx_is (h 0 (by omega))).2
    have L := yTp_le q (yR Y) (fun i hi => h (i + 1) (by omega))
    show yLv (if yK (yL Y) = 1 then yTp q (yR Y) else yA (yL Y) (yTp q (yR Y))) + yLv (yL (yRs i Y)) ≤ yLv Y
    cases i with
    | zero =>
      have hk : yK (yL Y) = 1 := hk
      rw [if_pos hk]
      show yLv (yTp q (yR Y)) + yLv (yL Y) ≤ _
      omega
    | succ i =>
      have I := yTp_p q (yR Y) i (fun i hi => h (i + 1) (by omega)) (by omega) hk
      show _ + yLv (yL (yRs i (yR Y))) ≤ _
      split
      · omega
      · show yLv (yL Y) + yLv (yTp q (yR Y)) + _ ≤ _
        omega
section BLR
variable {ρ : Nat → Nat × Nat} {tE tN : Nat → tY} {Un : List ((Nat × Nat) × Nat)} {Ls W : List Nat} {l : List (Nat × tY × List Nat)} {k : Nat} {Y : tY} {ns : List Nat}
/-- an arrow of a TEMPLATE that comes from elsewhere -/
theorem far_r (h : tlH ρ tE tN Un Ls W l) (hx : (k, Y, ns) ∈ l) {C : List Nat} (hC : C.Nodup) (hL : ∀ c, c ∈ C → c ∈ Ls ∧ (0, k) ≠ ((0, 2 * c) : Nat × Nat)) {z : tY} (kz : yK z = 1) {id : Nat × Nat} {m d : Nat} (hu : (id, m) ∈ Un) (ez : z = yRs d (uY tE tN id)) (hne : id ≠ (0, k)) : yLv (yTp ns.length Y) + yLv z + C.length ≤ 61 ∧ ((∀ c, c ∈ C → id ≠ (0, 2 * c)) → yLv (yTp ns.length Y) + yLv z + C.length ≤ 60) := by
  have h60 := h.2.2.2.1
  have tl := yTp_le ns.length Y (fun i hi => h.is hx hi)
  have kC : ∀ c, c ∈ C → 2 * c ≠ k := fun c hc ek => (hL c hc).2 (by rw [ek])
  have hL' : ∀ c, c ∈ C → c ∈ Ls := fun c hc => (hL c hc).1
  have T1 := (tl_rm (s := yLv Y) ⟨_, hx, rfl, Nat.le_refl _⟩ hC (h.lc hL') kC).1
  have T2 := (tl_rm (s := yLv (yTp ns.length Y)) ⟨_, hx, rfl, tl⟩ hC (h.lc hL') kC).2
  rcases h.ot2 hx hu ez with ⟨e1, e2⟩ | ⟨i', u', e1, e2, e3⟩ | ⟨k', c, cn, x, x1, x2, x3⟩
  · exact absurd e1 hne
  · obtain ⟨m1, m2, m3, m4⟩ := h.nm hx e2
    have z2 := yLv_2 kz
    have fk : yK (tN u') = 1 := by
      apply Classical.byContradiction
      intro hk
      have : yLv (tN u') = 1 := by
        cases ey : tN u' with
        | leaf => rfl
        | inner k a b c' d' =>
          rw [ey] at hk
          exact if_neg (fun z => hk (by rw [z]; rfl))
      omega
    have p := yTp_p ns.length Y i' (fun i hi => h.is hx hi) m1 (by rw [m2]; exact fk)
    rw [m2] at p
    exact ⟨by omega, fun _ => by omega⟩
  · refine ⟨by have := T2 k' (yLv z) c (yLv_pos z) ⟨x, x1, x2, x3⟩; omega, fun hn => ?_⟩
    have := tl_rm2 (s := yLv (yTp ns.length Y)) ⟨_, hx, rfl, tl⟩ hC (h.lc hL') kC k' (yLv z) c (fun c' hc' e => hn c' hc' (cn c' (hL' c' hc') e)) ⟨x, x1, x2, x3⟩
    omega
/-- **the spine of a TEMPLATE** -/
theorem bl_r (h : tlH ρ tE tN Un Ls W l) (hx : (k, Y, ns) ∈ l) {m0 : Nat} (hm : ((0, k), m0) ∈ Un) {k1 : Nat} {C : List Nat} (K : uKc ρ tE tN Un Ls (0, k) k1 C) : yLv (yTp ns.length Y) + C.length ≤ 60 ∧ ∃ s, s ≤ k1 ∧ (∀ j, j < s → yIs (yRs j (yTp ns.length Y)) ∧ (yK (yL (yRs j (yTp ns.length Y))) = 1 → yLv (yL (yRs j (yTp ns.length Y))) + yLv (yTp ns.length Y) + C.length ≤ 60)) ∧ yLv (yRs s (yTp ns.length Y)) + yLv (yTp ns.length Y) + C.length ≤ 61 := by
  have h60 := h.2.2.2.1
  have gY : yG Y := h.2.2.2.2.1 _ hx
  have tl := yTp_le ns.length Y (fun i hi => h.is hx hi)
  obtain ⟨K1, K2, ⟨K3, K4⟩, -, -, K6⟩ := K
  have hL : ∀ c, c ∈ C → c ∈ Ls ∧ (0, k) ≠ ((0, 2 * c) : Nat × Nat) := fun c hc => ⟨(K4 c hc).1, (K4 c hc).2.1⟩
  have kC : ∀ c, c ∈ C → 2 * c ≠ k := fun c hc ek => (hL c hc).2 (by rw [ek])
  have T1 := (tl_rm (s := yLv (yTp ns.length Y)) ⟨_, hx, rfl, tl⟩ K3 (h.lc (fun c hc => (hL c hc).1)) kC).1
  have eY : uY tE tN (0, k) = Y := by
    rcases h.1.2.1 _ hm with ⟨h1, ns', h2⟩ | ⟨h1, -⟩
    · have e' := tl_key h.2.1 h2 hx rfl
      injection e' with e1 e2
      injection e2 with e2 e3
    · cases h1
  -- a large arrow of the spine is covered at its place
  have own : ∀ a, (∀ q, q ≤ a → yIs (yRs q Y)) → 61 < yLv (yRs a Y) + yLv (yTp ns.length Y) + C.length → a < k1 := fun a ha hb => by
    have kz : yK (yRs a Y) = 1 := yIs_k (ha a (Nat.le_refl _))
    have iz : yIn (yRs a Y) Y := yIn_rs a Y (fun q hq => ha q (by omega)) (yIn_me kz)
    obtain ⟨id, m', d, C', ⟨u1, u2⟩, u3, ⟨u4, u5, u6⟩, u7⟩ := h.2.2.2.2.2 _ hx _ iz
    by_cases ce : id = (0, k)
    · have ow : uOw ρ tE tN Un Ls (0, k) d := ⟨m', C', by rw [← ce]; exact u1, u3, u4, ⟨u5, by rw [← ce]; exact u6⟩, by rw [← ce]; exact u7⟩
      have dk := K1 d ow
      have e2 : yRs a Y = yRs d Y := by
        rw [ce, eY] at u2
        exact u2
      rcases Nat.lt_or_ge d a with c | c
      · have q1 := (ySx_is (ha d (by omega))).2
        have q2 := yRs_mo (d + 1) (a - (d + 1)) Y (Or.inl gY)
        rw [show d + 1 + (a - (d + 1)) = a by omega] at q2
        have q3 : yRs (d + 1) Y = yR (yRs d Y) := by rw [yRs_ad]; rfl
        rw [q3] at q2
        rw [e2] at q2
        have q4 := yLv_pos (yL (yRs d Y))
        omega
      · omega
    · have := (far_r h hx K3 hL kz u1 u2 ce).1
      omega
  have cpy : ∀ j, j < k1 → yK (yL (yRs j Y)) = 1 → yLv (yL (yRs j Y)) + yLv (yTp ns.length Y) + C.length ≤ 60 := fun j hj hk => by
    obtain ⟨id', m', k', a1, a2, a3, a4⟩ := K6 j hj (by rw [eY]; exact hk)
    rw [eY] at a4
    have := (far_r h hx K3 hL hk a1 a4 a2).2 a3
    omega
  have CL : ∀ b a, a + b = ns.length → ∃ s, (s = 0 ∨ s + a ≤ k1) ∧ (∀ j, j < s → yIs (yRs j (yTp b (yRs a Y))) ∧ (yK (yL (yRs j (yTp b (yRs a Y)))) = 1 → yLv (yL (yRs j (yTp b (yRs a Y)))) + yLv (yTp ns.length Y) + C.length ≤ 60)) ∧ yLv (yRs s (yTp b (yRs a Y))) + yLv (yTp ns.length Y) + C.length ≤ 61 := by
    intro b
    induction b with
    | zero =>
      intro a hab
      show ∃ s, (s = 0 ∨ s + a ≤ k1) ∧ (∀ j, j < s → yIs (yRs j (yRs a Y)) ∧ (yK (yL (yRs j (yRs a Y))) = 1 → yLv (yL (yRs j (yRs a Y))) + yLv (yTp ns.length Y) + C.length ≤ 60)) ∧ yLv (yRs s (yRs a Y)) + yLv (yTp ns.length Y) + C.length ≤ 61
      rcases yG_rs a Y (Or.inl gY) with g | g
      · obtain ⟨s, s1, s2⟩ := sp_min (B := 61 - (yLv (yTp ns.length Y) + C.length)) (by omega) (yRs a Y) g
        have al : ∀ j, j < s → ∀ q, q ≤ a + j → yIs (yRs q Y) := fun j hj q hq => by
          by_cases c : q < a
          · exact h.is hx (by omega)
          · have := (s1 (q - a) (by omega)).2
            rw [← yRs_ad, show a + (q - a) = q by omega] at this
            exact this
        have ow : ∀ j, j < s → a + j < k1 := fun j hj => own (a + j) (al j hj) (by
          have := (s1 j hj).1
          rw [← yRs_ad] at this
          omega)
        refine ⟨s, ?_, fun j hj => ⟨(s1 j hj).2, fun hk => ?_⟩, by omega⟩
        · rcases Nat.eq_zero_or_pos s with e | e
          · exact Or.inl e
          · have := ow (s - 1) (by omega)
            exact Or.inr (by omega)
        · rw [← yRs_ad] at hk ⊢
          exact cpy (a + j) (ow j hj) hk
      · refine ⟨0, Or.inl rfl, fun j hj => absurd hj (Nat.not_lt_zero _), ?_⟩
        show yLv (yRs a Y) + _ + _ ≤ 61
        rw [g]
        show 1 + _ + _ ≤ 61
        omega
    | succ b ih =>
      intro a hab
      obtain ⟨s, i1, i2, i3⟩ := ih (a + 1) (by omega)
      have eR : yR (yRs a Y) = yRs (a + 1) Y := by rw [yRs_ad]; rfl
      have ia : yIs (yRs a Y) := h.is hx (by omega)
      have ea : yTp (b + 1) (yRs a Y) = if yK (yL (yRs a Y)) = 1 then yTp b (yRs (a + 1) Y) else yA (yL (yRs a Y)) (yTp b (yRs (a + 1) Y)) := by
        show (if yK (yL (yRs a Y)) = 1 then yTp b (yR (yRs a Y)) else yA (yL (yRs a Y)) (yTp b (yR (yRs a Y)))) = _
        rw [eR]
      by_cases hk : yK (yL (yRs a Y)) = 1
      · rw [if_pos hk] at ea
        rw [ea]
        exact ⟨s, i1.imp_right (fun z => by omega), i2, i3⟩
      · rw [if_neg hk] at ea
        rw [ea]
        by_cases cb : yLv (yA (yL (yRs a Y)) (yTp b (yRs (a + 1) Y))) + yLv (yTp ns.length Y) + C.length ≤ 61
        · exact ⟨0, Or.inl rfl, fun j hj => absurd hj (Nat.not_lt_zero _), cb⟩
        · have lz : yLv (yA (yL (yRs a Y)) (yTp b (yRs (a + 1) Y))) ≤ yLv (yRs a Y) := by
            rw [← ea]
            exact yTp_le (b + 1) (yRs a Y) (fun i hi => by
              rw [← yRs_ad]
              exact h.is hx (by omega))
          have ak := own a (fun q hq => h.is hx (by omega)) (by omega)
          refine ⟨s + 1, Or.inr (by rcases i1 with z | z <;> omega), fun j hj => ?_, i3⟩
          cases j with
          | zero => exact ⟨rfl, fun z => absurd z hk⟩
          | succ j => exact i2 j (by omega)
  obtain ⟨s, c1, c2, c3⟩ := CL ns.length 0 (by omega)
  exact ⟨by omega, s, by rcases c1 with z | z <;> omega, c2, c3⟩
end BLR
