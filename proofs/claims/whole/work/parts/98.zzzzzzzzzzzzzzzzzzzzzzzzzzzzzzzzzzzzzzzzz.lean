/-! CAPACITIES: how many measured arrows lie one in another; leaves of TEMPLATES together -/
/-- measured ones among the first i parameters -/
def yAm : Nat → tY → Nat
  | 0, _ => 0
  | i + 1, Y => (if gMs (yL Y) = true then 1 else 0) + yAm i (yR Y)
theorem yAm_le : ∀ (i : Nat) (Y : tY), yAm i Y ≤ i
  | 0, _ => Nat.le_refl _
  | i + 1, Y => by
    have := yAm_le i (yR Y)
    show (if gMs (yL Y) = true then 1 else 0) + yAm i (yR Y) ≤ i + 1
    split <;> omega
theorem ySx_is {Y : tY} (h : yIs Y) : ySx Y = max (ySx (yL Y)) (ySx (yR Y) + if gMs (yL Y) = true then 1 else 0) ∧ yLv Y = yLv (yL Y) + yLv (yR Y) := by
  obtain ⟨a, b, e⟩ : ∃ a b, Y = yA a b := ⟨_, _, h⟩
  subst e
  exact ⟨rfl, rfl⟩
theorem ySx_lv : ∀ y : tY, ySx y + 1 ≤ yLv y
  | .leaf => Nat.le_refl _
  | .inner k u v l r => by
    have i1 := ySx_lv l
    have i2 := ySx_lv r
    have p1 := yLv_pos l
    have p2 := yLv_pos r
    show (if k = 0 then max (ySx l) (ySx r + if gMs l = true then 1 else 0) else 0) + 1 ≤ if k = 0 then yLv l + yLv r else 1
    by_cases c : k = 0
    · rw [if_pos c, if_pos c]
      have : max (ySx l) (ySx r + if gMs l = true then 1 else 0) ≤ yLv l + yLv r - 1 := Nat.max_le.mpr ⟨by omega, by split <;> omega⟩
      omega
    · rw [if_neg c, if_neg c]
      exact Nat.le_refl _
theorem yIn_lv {z : tY} : ∀ {y : tY}, yIn z y → yLv z ≤ yLv y
  | .leaf, h => absurd h (fun x => x)
  | .inner k u v l r, h => by
    obtain ⟨hk, h⟩ := h
    have e : yLv (.inner k u v l r : tY) = yLv l + yLv r := if_pos hk
    rcases h with h | h | h
    · rw [h]; exact Nat.le_refl _
    · have := yIn_lv h; omega
    · have := yIn_lv h; omega
theorem yIn_eq {z : tY} : ∀ {y : tY}, yIn z y → yLv y ≤ yLv z → z = y
  | .leaf, h, _ => absurd h (fun x => x)
  | .inner k u v l r, h, hl => by
    obtain ⟨hk, h⟩ := h
    have e : yLv (.inner k u v l r : tY) = yLv l + yLv r := if_pos hk
    have p1 := yLv_pos l
    have p2 := yLv_pos r
    rcases h with h | h | h
    · exact h
    · have := yIn_lv h; omega
    · have := yIn_lv h; omega
theorem yRs_mo : ∀ (d q : Nat) (Y : tY), yG Y ∨ Y = .leaf → yLv (yRs (d + q) Y) ≤ yLv (yRs d Y)
  | 0, q, Y, h => by
    rw [Nat.zero_add]
    rcases h with h | h
    · exact yG.rs q Y h
    · rw [h, yRs_lf]
      exact Nat.le_refl _
  | d + 1, q, Y, h => by
    rw [show d + 1 + q = (d + q) + 1 by omega]
    show yLv (yRs (d + q) (yR Y)) ≤ yLv (yRs d (yR Y))
    exact yRs_mo d q (yR Y) (by
      rcases h with h | h
      · exact h.r.2
      · rw [h]; exact Or.inr rfl)
/-- **arrows larger than t are right tails of Y, none beyond D: so many measured ones lie one in another** -/
theorem yKl {Y : tY} {D t : Nat} (hY : ∀ d q, yLv (yRs (d + q) Y) ≤ yLv (yRs d Y)) (ht : 1 ≤ t) : ∀ (y : tY) (d0 : Nat), d0 ≤ D + 1 → (∀ z, yIn z y → t < yLv z → ∃ d, d0 ≤ d ∧ d ≤ D ∧ z = yRs d Y) → ySx y + d0 ≤ D + t
  | .leaf, d0, h0, _ => by show 0 + d0 ≤ D + t; omega
  | .inner k u v l r, d0, h0, H => by
    by_cases c : k = 0
    · subst c
      have hS : ySx (.inner 0 u v l r : tY) = max (ySx l) (ySx r + if gMs l = true then 1 else 0) := if_pos rfl
      have hL : yLv (.inner 0 u v l r : tY) = yLv l + yLv r := if_pos rfl
      have p1 := yLv_pos l
      have p2 := yLv_pos r
      by_cases ct : yLv (.inner 0 u v l r : tY) ≤ t
      · have := ySx_lv (.inner 0 u v l r : tY)
        omega
      · obtain ⟨d, h1, h2, h3⟩ := H _ ⟨rfl, Or.inl rfl⟩ (by omega)
        have G : ∀ (w : tY), yLv w < yLv (.inner 0 u v l r : tY) → (∀ z, yIn z w → yIn z (.inner 0 u v l r)) → ∀ z, yIn z w → t < yLv z → ∃ d', d + 1 ≤ d' ∧ d' ≤ D ∧ z = yRs d' Y := fun w hw hin z hz hzt => by
          obtain ⟨d', q1, q2, q3⟩ := H z (hin z hz) hzt
          refine ⟨d', ?_, q2, q3⟩
          have hzw := yIn_lv hz
          apply Classical.byContradiction
          intro hc
          have e : d = d' + (d - d') := by omega
          have m := hY d' (d - d')
          rw [← e, ← h3, ← q3] at m
          omega
        have I1 := yKl hY ht l (d + 1) (by omega) (G l (by omega) (fun z hz => ⟨rfl, Or.inr (Or.inl hz)⟩))
        have I2 := yKl hY ht r (d + 1) (by omega) (G r (by omega) (fun z hz => ⟨rfl, Or.inr (Or.inr hz)⟩))
        have : max (ySx l) (ySx r + if gMs l = true then 1 else 0) ≤ D + t - d := Nat.max_le.mpr ⟨by omega, by split <;> omega⟩
        omega
    · have e : ySx (.inner k u v l r : tY) = 0 := if_neg c
      omega
/-- along a type's parameters -/
theorem ySx_sp : ∀ (q : Nat) (Y : tY) (B : Nat), (∀ i, i < q → yIs (yRs i Y)) → (∀ i, i < q → yAm i Y + ySx (yL (yRs i Y)) ≤ B) → yAm q Y + ySx (yRs q Y) ≤ B → ySx Y ≤ B
  | 0, Y, B, _, _, h => by
    have h : 0 + ySx Y ≤ B := h
    omega
  | q + 1, Y, B, hi, hl, h => by
    have h0 : yIs Y := hi 0 (by omega)
    have h : (if gMs (yL Y) = true then 1 else 0) + yAm q (yR Y) + ySx (yRs q (yR Y)) ≤ B := h
    have l0 : 0 + ySx (yL Y) ≤ B := hl 0 (by omega)
    have I := ySx_sp q (yR Y) (B - if gMs (yL Y) = true then 1 else 0) (fun i hq => hi (i + 1) (by omega)) (fun i hq => by
      have := hl (i + 1) (by omega)
      have this : (if gMs (yL Y) = true then 1 else 0) + yAm i (yR Y) + ySx (yL (yRs i (yR Y))) ≤ B := this
      omega) (by omega)
    rw [(ySx_is h0).1]
    exact Nat.max_le.mpr ⟨by omega, by omega⟩
theorem yLv_pl : ∀ (i : Nat) (Y : tY), (∀ j, j ≤ i → yIs (yRs j Y)) → yLv (yL (yRs i Y)) + yLv (yRs (i + 1) Y) ≤ yLv Y
  | 0, Y, h => by
    have : yLv Y = yLv (yL Y) + yLv (yR Y) := (ySx_is (h 0 (Nat.le_refl _))).2
    show yLv (yL Y) + yLv (yR Y) ≤ yLv Y
    omega
  | i + 1, Y, h => by
    have I := yLv_pl i (yR Y) (fun j hj => h (j + 1) (by omega))
    have e := (ySx_is (h 0 (Nat.zero_le _))).2
    have e : yLv Y = yLv (yL Y) + yLv (yR Y) := e
    show yLv (yL (yRs i (yR Y))) + yLv (yRs (i + 1) (yR Y)) ≤ yLv Y
    omega
theorem yLv_p2 {i i' : Nat} {Y : tY} (h : i < i') (hY : ∀ j, j ≤ i' → yIs (yRs j Y)) : yLv (yL (yRs i Y)) + yLv (yL (yRs i' Y)) ≤ yLv Y := by
  have h1 := yLv_pl i Y (fun j hj => hY j (by omega))
  have h2 := yLv_pl (i' - (i + 1)) (yRs (i + 1) Y) (fun j hj => by
    rw [← yRs_ad]
    exact hY (i + 1 + j) (by omega))
  rw [← yRs_ad, show i + 1 + (i' - (i + 1)) = i' by omega] at h2
  omega
/-- before its place a parameter is within what is left -/
theorem yLv_lt {d i : Nat} {Y : tY} (h : d ≤ i) (hY : ∀ j, j ≤ i → yIs (yRs j Y)) : yLv (yL (yRs i Y)) < yLv (yRs d Y) := by
  have h1 := yLv_pl (i - d) (yRs d Y) (fun j hj => by
    rw [← yRs_ad]
    exact hY (d + j) (by omega))
  rw [← yRs_ad, show d + (i - d) = i by omega] at h1
  have := yLv_pos (yRs (i - d + 1) (yRs d Y))
  omega
theorem yLv_sp : ∀ (q : Nat) (Y : tY), (∀ i, i < q → yIs (yRs i Y)) → yAm q Y + yLv (yRs q Y) ≤ yLv Y ∧ ∀ i, i < q → gMs (yL (yRs i Y)) = false → yLv (yL (yRs i Y)) + yAm q Y + yLv (yRs q Y) ≤ yLv Y
  | 0, Y, _ => ⟨by show 0 + yLv Y ≤ yLv Y; omega, fun i hi => absurd hi (Nat.not_lt_zero _)⟩
  | q + 1, Y, h => by
    obtain ⟨I1, I2⟩ := yLv_sp q (yR Y) (fun i hi => h (i + 1) (by omega))
    have e : yLv Y = yLv (yL Y) + yLv (yR Y) := (ySx_is (h 0 (by omega))).2
    have p := yLv_pos (yL Y)
    refine ⟨?_, fun i hi hm => ?_⟩
    · show (if gMs (yL Y) = true then 1 else 0) + yAm q (yR Y) + yLv (yRs q (yR Y)) ≤ yLv Y
      split <;> omega
    · cases i with
      | zero =>
        have hm : gMs (yL Y) = false := hm
        show yLv (yL Y) + ((if gMs (yL Y) = true then 1 else 0) + yAm q (yR Y)) + yLv (yRs q (yR Y)) ≤ yLv Y
        rw [hm, if_neg (by decide)]
        omega
      | succ i =>
        have := I2 i (by omega) hm
        show yLv (yL (yRs i (yR Y))) + ((if gMs (yL Y) = true then 1 else 0) + yAm q (yR Y)) + yLv (yRs q (yR Y)) ≤ yLv Y
        split <;> omega
/-- the largest -/
theorem mx_of {p : Nat → Prop} : ∀ N, (∃ d, d ≤ N ∧ p d) → ∃ D, D ≤ N ∧ p D ∧ ∀ d, d ≤ N → p d → d ≤ D
  | 0, ⟨d, h, hp⟩ => ⟨0, Nat.le_refl _, by rw [show 0 = d by omega]; exact hp, fun d h _ => h⟩
  | N + 1, ⟨d, h, hp⟩ => by
    by_cases c : p (N + 1)
    · exact ⟨N + 1, Nat.le_refl _, c, fun d h _ => h⟩
    · have hd : d ≤ N := by
        rcases Nat.lt_or_ge N d with x | x
        · exact absurd (show p (N + 1) by rw [show N + 1 = d by omega]; exact hp) c
        · exact x
      obtain ⟨D, h1, h2, h3⟩ := mx_of N ⟨d, hd, hp⟩
      refine ⟨D, by omega, h2, fun d' h' hp' => ?_⟩
      rcases Nat.lt_or_ge N d' with x | x
      · exact absurd (show p (N + 1) by rw [show N + 1 = d' by omega]; exact hp') c
      · exact h3 d' x hp'
theorem tLv_aq : ∀ (l l' : List (Nat × tY × List Nat)), tLv (l ++ l') = tLv l + tLv l'
  | [], l' => by
    have : tLv ([] : List (Nat × tY × List Nat)) = 0 := rfl
    rw [this, List.nil_append, Nat.zero_add]
  | x :: l, l' => by
    rw [List.cons_append, tLv_c, tLv_c, tLv_aq l l']
    omega
/-- different TEMPLATES have different leaves -/
theorem tLv_sub (w : Nat → Nat) : ∀ (Ks : List Nat) (l : List (Nat × tY × List Nat)), Ks.Nodup → (∀ k, k ∈ Ks → ∃ x, x ∈ l ∧ x.1 = k ∧ w k ≤ yLv x.2.1) → (Ks.map w).sum ≤ tLv l
  | [], l, _, _ => Nat.zero_le _
  | k :: Ks, l, nd, h => by
    obtain ⟨x, hx, hk, hw⟩ := h k (List.mem_cons_self ..)
    obtain ⟨s, t, e⟩ := List.append_of_mem hx
    obtain ⟨n1, n2⟩ := List.nodup_cons.mp nd
    have I := tLv_sub w Ks (s ++ t) n2 (fun k' hk' => by
      obtain ⟨y, hy, q1, q2⟩ := h k' (List.mem_cons_of_mem _ hk')
      rw [e] at hy
      refine ⟨y, ?_, q1, q2⟩
      rcases List.mem_append.mp hy with hy | hy
      · exact List.mem_append_left _ hy
      · rcases List.mem_cons.mp hy with hy | hy
        · rw [hy, hk] at q1
          rw [← q1] at hk'
          exact absurd hk' n1
        · exact List.mem_append_right _ hy)
    rw [e, tLv_aq, tLv_c]
    rw [tLv_aq] at I
    rw [List.map_cons, List.sum_cons]
    omega
theorem sm_one {a b : Nat} : ∀ l : List Nat, l.Nodup → (a ∈ l → (l.map (fun x => if x = a then b else 1)).sum + 1 = l.length + b) ∧ (a ∉ l → (l.map (fun x => if x = a then b else 1)).sum = l.length)
  | [], _ => ⟨fun h => (by cases h), fun _ => rfl⟩
  | x :: l, nd => by
    obtain ⟨n1, n2⟩ := List.nodup_cons.mp nd
    obtain ⟨I1, I2⟩ := sm_one (a := a) (b := b) l n2
    refine ⟨fun h => ?_, fun h => ?_⟩
    · rw [List.map_cons, List.sum_cons, List.length_cons]
      by_cases c : x = a
      · rw [if_pos c]
        have := I2 (by rw [← c]; exact n1)
        omega
      · rw [if_neg c]
        have := I1 (by
          rcases List.mem_cons.mp h with h | h
          · exact absurd h.symm c
          · exact h)
        omega
    · rw [List.map_cons, List.sum_cons, List.length_cons]
      rw [if_neg (fun c => h (by rw [c]; exact List.mem_cons_self ..))]
      have := I2 (fun z => h (List.mem_cons_of_mem _ z))
      omega
/-- **a TEMPLATE, lets, and another** -/
theorem tl_rm {l : List (Nat × tY × List Nat)} {k s : Nat} {C : List Nat} (h : ∃ x, x ∈ l ∧ x.1 = k ∧ s ≤ yLv x.2.1) (hC : C.Nodup) (hl : ∀ c, c ∈ C → ∃ x, x ∈ l ∧ x.1 = 2 * c) (hk : ∀ c, c ∈ C → 2 * c ≠ k) : s + C.length ≤ tLv l ∧ ∀ k' v, k' ≠ k → 1 ≤ v → (∃ x, x ∈ l ∧ x.1 = k' ∧ v ≤ yLv x.2.1) → s + v + C.length ≤ tLv l + 1 := by
  have nC : (C.map (fun c => 2 * c)).Nodup := by
    refine List.Pairwise.map _ (fun a b hab => ?_) hC
    omega
  have kC : k ∉ C.map (fun c => 2 * c) := fun hm => by
    obtain ⟨c, c1, c2⟩ := List.mem_map.mp hm
    exact hk c c1 c2
  have eC : ∀ k', k' ∈ C.map (fun c => 2 * c) → ∃ x, x ∈ l ∧ x.1 = k' := fun k' hm => by
    obtain ⟨c, c1, c2⟩ := List.mem_map.mp hm
    obtain ⟨x, x1, x2⟩ := hl c c1
    exact ⟨x, x1, x2.trans c2⟩
  have nk : (k :: C.map (fun c => 2 * c)).Nodup := List.nodup_cons.mpr ⟨kC, nC⟩
  refine ⟨?_, fun k' v hk' hv hx => ?_⟩
  · have := tLv_sub (fun x => if x = k then s else 1) _ l nk (fun k' hm => by
      rcases List.mem_cons.mp hm with hm | hm
      · obtain ⟨x, x1, x2, x3⟩ := h
        exact ⟨x, x1, x2.trans hm.symm, by show (if k' = k then s else 1) ≤ _; rw [if_pos hm]; exact x3⟩
      · obtain ⟨x, x1, x2⟩ := eC k' hm
        exact ⟨x, x1, x2, by show (if k' = k then s else 1) ≤ _; rw [if_neg (fun z => kC (by rw [← z]; exact hm))]; exact yLv_pos _⟩)
    have s1 := (sm_one (a := k) (b := s) _ nk).1 (List.mem_cons_self ..)
    rw [List.length_cons, List.length_map] at s1
    omega
  · have hw : ∀ q, q ∈ k :: C.map (fun c => 2 * c) ∨ q = k' → ∃ x, x ∈ l ∧ x.1 = q ∧ (if q = k then s else if q = k' then v else 1) ≤ yLv x.2.1 := fun q hm => by
      by_cases c : q = k
      · obtain ⟨x, x1, x2, x3⟩ := h
        exact ⟨x, x1, x2.trans c.symm, by rw [if_pos c]; exact x3⟩
      · by_cases c' : q = k'
        · obtain ⟨x, x1, x2, x3⟩ := hx
          exact ⟨x, x1, x2.trans c'.symm, by rw [if_neg c, if_pos c']; exact x3⟩
        · rcases hm with hm | hm
          · rcases List.mem_cons.mp hm with hm | hm
            · exact absurd hm c
            · obtain ⟨x, x1, x2⟩ := eC q hm
              exact ⟨x, x1, x2, by rw [if_neg c, if_neg c']; exact yLv_pos _⟩
          · exact absurd hm c'
    have cg : ∀ L : List Nat, k ∉ L → (L.map (fun q => if q = k then s else if q = k' then v else 1)) = L.map (fun q => if q = k' then v else 1) := fun L hL => List.map_congr_left (fun q hq => if_neg (fun z => hL (by rw [← z]; exact hq)))
    by_cases ck : k' ∈ C.map (fun c => 2 * c)
    · have := tLv_sub (fun q => if q = k then s else if q = k' then v else 1) _ l nk (fun q hm => hw q (Or.inl hm))
      rw [List.map_cons, List.sum_cons, if_pos rfl, cg _ kC] at this
      have s1 := (sm_one (a := k') (b := v) _ nC).1 ck
      rw [List.length_map] at s1
      omega
    · have nk' : (k :: k' :: C.map (fun c => 2 * c)).Nodup := List.nodup_cons.mpr ⟨fun hm => by
        rcases List.mem_cons.mp hm with hm | hm
        · exact hk' hm.symm
        · exact kC hm, List.nodup_cons.mpr ⟨ck, nC⟩⟩
      have := tLv_sub (fun q => if q = k then s else if q = k' then v else 1) _ l nk' (fun q hm => hw q (by
        rcases List.mem_cons.mp hm with hm | hm
        · exact Or.inl (by rw [hm]; exact List.mem_cons_self ..)
        · rcases List.mem_cons.mp hm with hm | hm
          · exact Or.inr hm
          · exact Or.inl (List.mem_cons_of_mem _ hm)))
      rw [List.map_cons, List.sum_cons, if_pos rfl, cg (k' :: _) (fun hm => by
        rcases List.mem_cons.mp hm with hm | hm
        · exact hk' hm.symm
        · exact kC hm), List.map_cons, List.sum_cons, if_pos rfl] at this
      have s1 := (sm_one (a := k') (b := v) _ nC).2 ck
      rw [List.length_map] at s1
      omega
