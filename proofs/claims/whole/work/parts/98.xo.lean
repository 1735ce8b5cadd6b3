/-! a word is this text iff its kind is this code -/
theorem eqT_iff {tx : String} {f : Nat → Int32} {a : Nat} : ∀ (m q : Nat), tx.toList.length ≤ q + m → (eqT tx f a m q = true ↔ ∀ j, q ≤ j → j < tx.toList.length → f (a + j) = zch tx j)
  | 0, q, h => by
    rw [eqT]
    exact ⟨fun _ j h1 h2 => by omega, fun _ => rfl⟩
  | m + 1, q, h => by
    rw [eqT]
    by_cases c1 : q < tx.toList.length
    · rw [if_pos c1]
      by_cases c2 : f (a + q) = zch tx q
      · rw [if_pos c2, eqT_iff m (q + 1) (by omega)]
        refine ⟨fun h j h1 h2 => ?_, fun h j h1 h2 => h j (by omega) h2⟩
        by_cases c3 : j = q
        · rw [c3]; exact c2
        · exact h j (by omega) h2
      · rw [if_neg c2]
        exact ⟨fun h => (by cases h), fun h => absurd (h q (Nat.le_refl _) c1) c2⟩
    · rw [if_neg c1]
      exact ⟨fun _ j h1 h2 => by omega, fun _ => rfl⟩
theorem kMap_0 (k : Int32) : kMap k ≠ 0 := by
  unfold kMap
  split
  · decide
  · split <;> decide
theorem isT_iff {tx : String} {f : Nat → Int32} {k : Int32} {a e : Nat} (hl : tx.toList.length < 1000) : isT tx f (kMap k) a e = true ↔ (e - a = tx.toList.length ∧ ∀ j, j < tx.toList.length → f (a + j) = zch tx j) := by
  unfold isT
  rw [decide_eq_true (kMap_0 k), Bool.true_and, Bool.and_eq_true, eqT_iff 1000 0 (by omega)]
  exact ⟨fun h => ⟨of_decide_eq_true h.1, fun j hj => h.2 j (Nat.zero_le _) hj⟩, fun h => ⟨decide_eq_true h.1, fun j _ hj => h.2 j hj⟩⟩
/-- what a word can be -/
theorem w_cases {T len a : Nat} {g : Nat → Int32} (h : a < wEnd len g a) : (bL (g a) = true ∧ wKind T len g a (wEnd len g a) = kKind g a (wEnd len g a - a) T 200 0 0) ∨ (bL (g a) = false ∧ bD (g a) = true ∧ wKind T len g a (wEnd len g a) = 2) ∨ (bL (g a) = false ∧ bD (g a) = false ∧ dSg len g a = 0 ∧ bS (g a) = true ∧ wEnd len g a = a + 1 ∧ wKind T len g a (wEnd len g a) = g a) ∨ (bL (g a) = false ∧ bD (g a) = false ∧ dSg len g a ≠ 0 ∧ wEnd len g a = a + 2 ∧ wKind T len g a (wEnd len g a) = dSg len g a) := by
  cases c1 : bL (g a) with
  | true =>
    refine Or.inl ⟨rfl, ?_⟩
    unfold wKind
    rw [if_pos c1]
  | false =>
    cases c2 : bD (g a) with
    | true =>
      refine Or.inr (Or.inl ⟨rfl, rfl, ?_⟩)
      unfold wKind
      rw [if_neg (by rw [c1]; decide), if_pos c2]
    | false =>
      have hw : wEnd len g a = if dSg len g a = 0 then (if bS (g a) = true then a + 1 else a) else a + 2 := by
        unfold wEnd
        rw [if_neg (by rw [c1]; decide), if_neg (by rw [c2]; decide)]
      have hk : ∀ e, wKind T len g a e = if e - a = 2 then dSg len g a else g a := fun e => by
        unfold wKind
        rw [if_neg (by rw [c1]; decide), if_neg (by rw [c2]; decide)]
      by_cases c3 : dSg len g a = 0
      · rw [if_pos c3] at hw
        by_cases c4 : bS (g a) = true
        · rw [if_pos c4] at hw
          refine Or.inr (Or.inr (Or.inl ⟨rfl, rfl, c3, c4, hw, ?_⟩))
          rw [hk, hw, if_neg (by omega)]
        · rw [if_neg c4] at hw
          omega
      · rw [if_neg c3] at hw
        refine Or.inr (Or.inr (Or.inr ⟨rfl, rfl, c3, hw, ?_⟩))
        rw [hk, hw, if_pos (by omega)]
theorem dSg_val {len a : Nat} {g : Nat → Int32} (h : dSg len g a ≠ 0) : ∃ j, j < 5 ∧ dSg len g a = nI (300 + j) := by
  revert h
  unfold dSg
  repeat' split
  all_goals first | (intro h; exact absurd rfl h) | (intro _; exact ⟨0, by decide, rfl⟩) | (intro _; exact ⟨1, by decide, rfl⟩) | (intro _; exact ⟨2, by decide, rfl⟩) | (intro _; exact ⟨3, by decide, rfl⟩) | (intro _; exact ⟨4, by decide, rfl⟩)
theorem bS_val {b : Int32} (h : bS b = true) : ∃ k, 35 ≤ k ∧ k < 94 ∧ b = nI k := by
  have h2 := of_decide_eq_true h
  simp only [List.mem_cons, List.not_mem_nil, or_false] at h2
  rcases h2 with h2 | h2 | h2 | h2 | h2 | h2 | h2 | h2 | h2 | h2 | h2 | h2 | h2 | h2 | h2 | h2 <;> subst h2
  · exact ⟨40, by decide, by decide, rfl⟩
  · exact ⟨41, by decide, by decide, rfl⟩
  · exact ⟨91, by decide, by decide, rfl⟩
  · exact ⟨93, by decide, by decide, rfl⟩
  · exact ⟨44, by decide, by decide, rfl⟩
  · exact ⟨59, by decide, by decide, rfl⟩
  · exact ⟨58, by decide, by decide, rfl⟩
  · exact ⟨61, by decide, by decide, rfl⟩
  · exact ⟨35, by decide, by decide, rfl⟩
  · exact ⟨60, by decide, by decide, rfl⟩
  · exact ⟨62, by decide, by decide, rfl⟩
  · exact ⟨43, by decide, by decide, rfl⟩
  · exact ⟨45, by decide, by decide, rfl⟩
  · exact ⟨42, by decide, by decide, rfl⟩
  · exact ⟨47, by decide, by decide, rfl⟩
  · exact ⟨37, by decide, by decide, rfl⟩
theorem kKind_val {g : Nat → Int32} {T a l : Nat} (hT : 2010 ≤ T) : kKind g a l T 200 0 0 = 1 ∨ ∃ j, j < 26 ∧ kKind g a l T 200 0 0 = nI (200 + j) := by
  rw [kKind_scan, kTab_fuel T 120 0 0 (by omega) (by omega)]
  rcases kScan_val (g := g) (a := a) (l := l) kTb 200 with h | ⟨j, h1, h2⟩
  · exact Or.inl h
  · exact Or.inr ⟨j, by rw [kTb_len] at h1; exact h1, h2⟩
theorem kTb_L : kTb.all (fun y => bL (kL y.1) && (decide (0 < y.2) && decide (y.1 + y.2 ≤ 120))) = true := by decide +kernel
section OIT
variable {T len a m : Nat} {f : Nat → Int32} {tx : String} {y : Nat × Nat}
/-- a keyword -/
theorem isT_key (hT : 2010 ≤ T) (hb : ∀ j, j < len → sB (f j)) (ha : a < len) (hwe : a < wEnd len (fun j => f j &&& 255) a) (hle : wEnd len (fun j => f j &&& 255) a ≤ len) (hm : kTb[m]? = some y) (htl : tx.toList.length = y.2) (htx : ∀ j, j < y.2 → zch tx j = kL (y.1 + j)) : isT tx f (kMap (wKind T len (fun j => f j &&& 255) a (wEnd len (fun j => f j &&& 255) a))) a (wEnd len (fun j => f j &&& 255) a) = decide (wKind T len (fun j => f j &&& 255) a (wEnd len (fun j => f j &&& 255) a) = nI (200 + m)) := by
  have hm26 : m < 26 := by
    by_cases c : m < 26
    · exact c
    · rw [List.getElem?_eq_none (by rw [kTb_len]; omega)] at hm
      cases hm
  have hy := List.all_eq_true.mp kTb_L y (List.mem_of_getElem? hm)
  rw [Bool.and_eq_true, Bool.and_eq_true] at hy
  have hy1 := of_decide_eq_true hy.2.1
  have hy2 := of_decide_eq_true hy.2.2
  rw [Bool.eq_iff_iff, isT_iff (by omega), decide_eq_true_iff, htl]
  have eqf : ∀ j, a + j < len → j < y.2 → (f (a + j) = zch tx j ↔ kL (y.1 + j) = f (a + j) &&& 255) := fun j h1 h2 => by
    rw [htx j h2, sB_eq (hb _ h1) (kL_lo _ (by omega)).1 (kL_lo _ (by omega)).2]
    exact ⟨Eq.symm, Eq.symm⟩
  have nL : bL (f a &&& 255) = false → ¬ ∀ j, j < y.2 → f (a + j) = zch tx j := fun h h2 => by
    have h3 := (eqf 0 ha hy1).mp (h2 0 hy1)
    rw [Nat.add_zero, Nat.add_zero] at h3
    rw [← h3, hy.1] at h
    cases h
  rcases w_cases (T := T) hwe with ⟨b1, b2⟩ | ⟨b1, b2, b3⟩ | ⟨b1, b2, b3, b4, b5, b6⟩ | ⟨b1, b2, b3, b5, b6⟩
  · rw [b2, kKind_iff hT hm]
    unfold kEq
    refine ⟨fun h => ⟨h.1.symm, fun j hj => ?_⟩, fun h => ⟨h.1.symm, fun j hj => ?_⟩⟩
    · rw [h.1] at hj
      exact (eqf j (by omega) hj).mp (h.2 j hj)
    · exact (eqf j (by rw [h.1] at hj; omega) hj).mpr (h.2 j (by rw [← h.1]; exact hj))
  · rw [b3]
    refine ⟨fun h => absurd h.2 (nL b1), fun h => ?_⟩
    have := nI_inj' (a := 2) (by omega) (by omega) h
    omega
  · rw [b6]
    refine ⟨fun h => absurd h.2 (nL b1), fun h => ?_⟩
    obtain ⟨k, k1, k2, k3⟩ := bS_val b4
    rw [k3] at h
    have := nI_inj' (by omega) (by omega) h
    omega
  · rw [b6]
    refine ⟨fun h => absurd h.2 (nL b1), fun h => ?_⟩
    obtain ⟨k, k1, k3⟩ := dSg_val b3
    rw [k3] at h
    have := nI_inj' (by omega) (by omega) h
    omega
/-- a sign of one letter -/
theorem isT_sign {c : Nat} (hT : 2010 ≤ T) (hb : ∀ j, j < len → sB (f j)) (ha : a < len) (hwe : a < wEnd len (fun j => f j &&& 255) a) (htl : tx.toList.length = 1) (htx : zch tx 0 = nI c) (hc : 35 ≤ c ∧ c < 94) (hcS : bL (nI c) = false ∧ bD (nI c) = false) : isT tx f (kMap (wKind T len (fun j => f j &&& 255) a (wEnd len (fun j => f j &&& 255) a))) a (wEnd len (fun j => f j &&& 255) a) = decide (wKind T len (fun j => f j &&& 255) a (wEnd len (fun j => f j &&& 255) a) = nI c) := by
  rw [Bool.eq_iff_iff, isT_iff (by omega), decide_eq_true_iff, htl]
  have eqf : f a = nI c ↔ f a &&& 255 = nI c := sB_eq (hb a ha) (nI_pos' (by omega)) (Int32.not_le.mp (nI_ge (a := c) (b := 128) (by omega) (by decide)))
  have al : (∀ j, j < 1 → f (a + j) = zch tx j) ↔ f a &&& 255 = nI c := by
    rw [← eqf]
    refine ⟨fun h => (h 0 (by decide)).trans htx, fun h j hj => ?_⟩
    have : j = 0 := by omega
    rw [this, htx]
    exact h
  rw [al]
  rcases w_cases (T := T) hwe with ⟨b1, b2⟩ | ⟨b1, b2, b3⟩ | ⟨b1, b2, b3, b4, b5, b6⟩ | ⟨b1, b2, b3, b5, b6⟩
  · refine ⟨fun h => ?_, fun h => ?_⟩
    · simp only [h.2, hcS.1] at b1
      cases b1
    · rw [b2] at h
      rcases kKind_val (g := fun j => f j &&& 255) (a := a) (l := wEnd len (fun j => f j &&& 255) a - a) hT with h9 | ⟨j, j1, j2⟩
      · rw [h9] at h
        have := nI_inj' (a := 1) (by omega) (by omega) h
        omega
      · rw [j2] at h
        have := nI_inj' (by omega) (by omega) h
        omega
  · refine ⟨fun h => ?_, fun h => ?_⟩
    · simp only [h.2, hcS.2] at b2
      cases b2
    · rw [b3] at h
      have := nI_inj' (a := 2) (by omega) (by omega) h
      omega
  · rw [b6, b5]
    exact ⟨fun h => h.2, fun h => ⟨by omega, h⟩⟩
  · rw [b6, b5]
    refine ⟨fun h => by omega, fun h => ?_⟩
    obtain ⟨k, k1, k3⟩ := dSg_val b3
    rw [k3] at h
    have := nI_inj' (by omega) (by omega) h
    omega
end OIT
