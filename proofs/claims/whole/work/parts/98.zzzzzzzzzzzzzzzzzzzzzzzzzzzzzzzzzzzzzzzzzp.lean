/-! CAPACITIES: measured arrows that lie one in another, as a list; counting them by units -/
/-- a longest way through measured arrows -/
def yPa : tY → List tY
  | .leaf => []
  | .inner k u v l r => if k = 0 then (if ySx r + (if gMs l = true then 1 else 0) ≤ ySx l then yPa l else (if gMs l = true then [.inner k u v l r] else []) ++ yPa r) else []
theorem yPa_len : ∀ y : tY, (yPa y).length = ySx y
  | .leaf => rfl
  | .inner k u v l r => by
    have i1 := yPa_len l
    have i2 := yPa_len r
    show (if k = 0 then (if ySx r + (if gMs l = true then 1 else 0) ≤ ySx l then yPa l else (if gMs l = true then [.inner k u v l r] else []) ++ yPa r) else ([] : List tY)).length = if k = 0 then max (ySx l) (ySx r + if gMs l = true then 1 else 0) else 0
    by_cases c : k = 0
    · rw [if_pos c, if_pos c]
      by_cases h : ySx r + (if gMs l = true then 1 else 0) ≤ ySx l
      · rw [if_pos h, i1, Nat.max_eq_left h]
      · rw [if_neg h, List.length_append, i2, Nat.max_eq_right (by omega)]
        split
        · show 1 + ySx r = ySx r + 1
          omega
        · show 0 + ySx r = ySx r + 0
          omega
    · rw [if_neg c, if_neg c]
      rfl
theorem yPa_in {z : tY} : ∀ {y : tY}, z ∈ yPa y → yIn z y ∧ gMs (yL z) = true
  | .leaf, h => by cases h
  | .inner k u v l r, h => by
    have i1 := yPa_in (z := z) (y := l)
    have i2 := yPa_in (z := z) (y := r)
    have h : z ∈ (if k = 0 then (if ySx r + (if gMs l = true then 1 else 0) ≤ ySx l then yPa l else (if gMs l = true then [.inner k u v l r] else []) ++ yPa r) else ([] : List tY)) := h
    by_cases c : k = 0
    · rw [if_pos c] at h
      by_cases h' : ySx r + (if gMs l = true then 1 else 0) ≤ ySx l
      · rw [if_pos h'] at h
        exact ⟨⟨c, Or.inr (Or.inl (i1 h).1)⟩, (i1 h).2⟩
      · rw [if_neg h'] at h
        rcases List.mem_append.mp h with h | h
        · by_cases g : gMs l = true
          · rw [if_pos g] at h
            rw [List.mem_singleton.mp h]
            exact ⟨⟨c, Or.inl rfl⟩, g⟩
          · rw [if_neg g] at h
            cases h
        · exact ⟨⟨c, Or.inr (Or.inr (i2 h).1)⟩, (i2 h).2⟩
    · rw [if_neg c] at h
      cases h
theorem yPa_nd : ∀ y : tY, (yPa y).Nodup
  | .leaf => List.nodup_nil
  | .inner k u v l r => by
    have i1 := yPa_nd l
    have i2 := yPa_nd r
    show (if k = 0 then (if ySx r + (if gMs l = true then 1 else 0) ≤ ySx l then yPa l else (if gMs l = true then [.inner k u v l r] else []) ++ yPa r) else ([] : List tY)).Nodup
    by_cases c : k = 0
    · rw [if_pos c]
      by_cases h' : ySx r + (if gMs l = true then 1 else 0) ≤ ySx l
      · rw [if_pos h']
        exact i1
      · rw [if_neg h']
        by_cases g : gMs l = true
        · rw [if_pos g, List.singleton_append]
          refine List.nodup_cons.mpr ⟨fun hm => ?_, i2⟩
          have := yIn_lv (yPa_in hm).1
          have e : yLv (.inner k u v l r : tY) = yLv l + yLv r := if_pos c
          have := yLv_pos l
          omega
        · rw [if_neg g, List.nil_append]
          exact i2
    · rw [if_neg c]
      exact List.nodup_nil
/-- different things have different places -/
theorem pg_le {α β : Type} {R : α → β → Prop} (hi : ∀ x x' p, R x p → R x' p → x = x') : ∀ (l : List α) (F : List β), l.Nodup → (∀ x, x ∈ l → ∃ p, p ∈ F ∧ R x p) → l.length ≤ F.length
  | [], _, _, _ => Nat.zero_le _
  | x :: l, F, nd, h => by
    obtain ⟨n1, n2⟩ := List.nodup_cons.mp nd
    obtain ⟨p, hp, hr⟩ := h x (List.mem_cons_self ..)
    obtain ⟨s, t, e⟩ := List.append_of_mem hp
    have I := pg_le hi l (s ++ t) n2 (fun x' hx' => by
      obtain ⟨p', hp', hr'⟩ := h x' (List.mem_cons_of_mem _ hx')
      rw [e] at hp'
      refine ⟨p', ?_, hr'⟩
      rcases List.mem_append.mp hp' with q | q
      · exact List.mem_append_left _ q
      · rcases List.mem_cons.mp q with q | q
        · rw [q] at hr'
          rw [hi x' x p hr' hr] at hx'
          exact absurd hx' n1
        · exact List.mem_append_right _ q)
    rw [e, List.length_append, List.length_cons]
    rw [List.length_append] at I
    rw [List.length_cons]
    omega
/-- places of measured parameters along a type -/
def yMl : tY → List Nat
  | .leaf => []
  | .inner k _ _ l r => if k = 0 then (if gMs l = true then [0] else []) ++ (yMl r).map (fun d => d + 1) else []
theorem yMl_le : ∀ y : tY, (yMl y).length + 1 ≤ yLv y
  | .leaf => Nat.le_refl _
  | .inner k u v l r => by
    have i2 := yMl_le r
    have p1 := yLv_pos l
    show (if k = 0 then (if gMs l = true then [0] else []) ++ (yMl r).map (fun d => d + 1) else ([] : List Nat)).length + 1 ≤ if k = 0 then yLv l + yLv r else 1
    by_cases c : k = 0
    · rw [if_pos c, if_pos c, List.length_append, List.length_map]
      split
      · show 1 + _ + 1 ≤ _
        omega
      · show 0 + _ + 1 ≤ _
        omega
    · rw [if_neg c, if_neg c]
      exact Nat.le_refl _
theorem yMl_in : ∀ (d : Nat) (y : tY), yG y → yK (yRs d y) = 1 → gMs (yL (yRs d y)) = true → d ∈ yMl y
  | _, .leaf, h, _, _ => absurd h (fun x => x)
  | 0, .inner k u v l r, _, hk, hm => by
    have hk : k + 1 = 1 := hk
    have hm : gMs l = true := hm
    show 0 ∈ (if k = 0 then (if gMs l = true then [0] else []) ++ (yMl r).map (fun d => d + 1) else ([] : List Nat))
    rw [if_pos (by omega), if_pos hm]
    exact List.mem_append_left _ (List.mem_singleton_self _)
  | d + 1, .inner k u v l r, hg, hk, hm => by
    have hk : yK (yRs d r) = 1 := hk
    have hm : gMs (yL (yRs d r)) = true := hm
    have hg : if k = 0 then yG l ∧ yG r else l = .leaf ∧ r = .leaf := hg
    show d + 1 ∈ (if k = 0 then (if gMs l = true then [0] else []) ++ (yMl r).map (fun d => d + 1) else ([] : List Nat))
    by_cases c : k = 0
    · rw [if_pos c] at hg ⊢
      exact List.mem_append_right _ (List.mem_map.mpr ⟨d, yMl_in d r hg.2 hk hm, rfl⟩)
    · rw [if_neg c] at hg
      rw [hg.2, yRs_lf] at hk
      cases hk
/-- they are no fewer without the NAMES that are functions -/
theorem yMl_tp : ∀ (q : Nat) (Y : tY), (∀ i, i < q → yIs (yRs i Y)) → (yMl Y).length = (yMl (yTp q Y)).length
  | 0, _, _ => rfl
  | q + 1, Y, h => by
    have h0 : yIs Y := h 0 (by omega)
    have I := yMl_tp q (yR Y) (fun i hi => h (i + 1) (by omega))
    have e1 : (yMl Y).length = (if gMs (yL Y) = true then [0] else ([] : List Nat)).length + (yMl (yR Y)).length := by
      obtain ⟨a, b, e⟩ : ∃ a b, Y = yA a b := ⟨_, _, h0⟩
      rw [e]
      show ((if gMs a = true then [0] else []) ++ (yMl b).map (fun d => d + 1)).length = _
      rw [List.length_append, List.length_map]
      rfl
    show _ = (yMl (if yK (yL Y) = 1 then yTp q (yR Y) else yA (yL Y) (yTp q (yR Y)))).length
    by_cases hk : yK (yL Y) = 1
    · rw [if_pos hk, e1, gMs_f hk, if_neg (by decide), I]
      show 0 + _ = _
      omega
    · rw [if_neg hk, e1, I]
      show _ = ((if gMs (yL Y) = true then [0] else []) ++ (yMl (yTp q (yR Y))).map (fun d => d + 1)).length
      rw [List.length_append, List.length_map]
