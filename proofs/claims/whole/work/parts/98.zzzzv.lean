/-! an E as it is read: where its parts stand -/
section RRE
variable {kk : Nat → Int32} {T : Nat}
/-- a C's && and || against its words -/
theorem aCL_kn {k : Nat} {F : Nat → aR tT} (hF : ∀ i t j, F i = .inr (t, j) → i + 2 * kN t + 1 ≤ j) : ∀ (t i : Nat) (x : tT) (j : Nat), aCL kk k F t i = .inr (x, j) → i + 2 * kN x ≤ j
  | 0, i, x, j, h => by unfold aCL at h; cases h
  | t + 1, i, x, j, h => by
    unfold aCL at h
    split at h
    · obtain ⟨c, j1, h1, h⟩ := on_inr h
      obtain ⟨cs, j2, h2, h⟩ := on_inr h
      injection h with h; injection h with h3 h4; subst h3; subst h4
      have := hF _ _ _ h1
      have := aCL_kn hF t j1 cs j2 h2
      show i + 2 * (kN c + kN cs + 1) ≤ j2
      omega
    · injection h with h; injection h with h3 h4; subst h3; subst h4
      show i + 2 * 0 ≤ i
      omega
theorem tMk_kn {g : Nat} (hg : g = 20 ∨ g = 21) (c cs : tT) : kN (tMk g c cs) = kN c + kN cs := by
  cases cs with
  | leaf => show kN c = kN c + 0; omega
  | inner g' d' z' x y => rcases hg with rfl | rfl <;> rfl
theorem aBo_kn {F : Nat → aR tT} (hF : ∀ i t j, F i = .inr (t, j) → i + 2 * kN t + 1 ≤ j) (i : Nat) (t : tT) (j : Nat) (h : aBo kk T F i = .inr (t, j)) : i + 2 * kN t + 1 ≤ j := by
  unfold aBo at h
  obtain ⟨c, j1, h1, h⟩ := on_inr h
  obtain ⟨cs, j2, h2, h⟩ := on_inr h
  injection h with h; injection h with h3 h4; subst h3; subst h4
  have := hF _ _ _ h1
  have := aCL_kn hF T j1 cs j2 h2
  rw [tMk_kn (Or.inr rfl)]
  omega
theorem aEi_kn {F : Nat → aR tT} (hF : ∀ i t j, F i = .inr (t, j) → i + 2 * kN t + 1 ≤ j) (i : Nat) (t : tT) (j : Nat) (h : aEi kk T F i = .inr (t, j)) : i + 2 * kN t + 1 ≤ j := by
  unfold aEi at h
  obtain ⟨c, j1, h1, h⟩ := on_inr h
  obtain ⟨cs, j2, h2, h⟩ := on_inr h
  injection h with h; injection h with h3 h4; subst h3; subst h4
  have := aBo_kn hF _ _ _ h1
  have := aCL_kn (aBo_kn hF) T j1 cs j2 h2
  rw [tMk_kn (Or.inl rfl)]
  omega
theorem aSi_kn : ∀ (k i : Nat) (t : tT) (j : Nat), aSi kk T k i = .inr (t, j) → i + 2 * kN t + 1 ≤ j
  | 0, i, t, j, h => by unfold aSi at h; cases h
  | k + 1, i, t, j, h => by
    unfold aSi at h
    split at h
    · obtain ⟨c, j1, h1, h⟩ := on_inr h
      injection h with h; injection h with h3 h4; subst h3; subst h4
      have := aSi_kn k _ _ _ h1
      show i + 2 * (kN c + 0 + 0) + 1 ≤ j1
      omega
    · split at h
      · obtain ⟨c, j1, h1, h⟩ := on_inr h
        obtain ⟨_, j2, h2, h⟩ := on_inr h
        injection h with h; injection h with h3 h4; subst h3; subst h4
        have := aEi_kn (aSi_kn k) _ _ _ h1
        have := (aMs_inr h2).2
        omega
      · split at h
        · injection h with h; injection h with h3 h4; subst h3; subst h4
          show i + 2 * 0 + 1 ≤ i + 1; omega
        · split at h
          · injection h with h; injection h with h3 h4; subst h3; subst h4
            show i + 2 * 0 + 1 ≤ i + 1; omega
          · unfold aCm at h
            obtain ⟨s, j1, h1, h⟩ := on_inr h
            have s1 := aSm_1 h1
            split at h
            · obtain ⟨s', j2, h2, h⟩ := on_inr h
              have s2 := aSm_1 h2
              injection h with h; injection h with h3 h4; subst h3; subst h4
              show i + 2 * 0 + 1 ≤ j2; omega
            · split at h
              · injection h with h; injection h with h3 h4; subst h3; subst h4
                show i + 2 * 0 + 1 ≤ j1; omega
              · cases h
theorem aAs_rg {k : Nat} {G : Nat → aR tT} (hG : eRg k G) : ∀ (q i : Nat) (t : tT) (j : Nat), aAs kk T G q i = .inr (t, j) → tRg t i j ∧ tM t + 3 * tQn t ≤ 3 * (j - i) ∧ (∀ X, j ≤ i + 2 * X → tKb X t) ∧ tDc t ≤ 5 * k + 100 ∧ i ≤ j
  | 0, i, t, j, h => by
    unfold aAs at h
    split at h
    · cases h
    · injection h with h; injection h with h3 h4; subst h3; subst h4
      exact ⟨Nat.le_refl _, by show 0 + 3 * 0 ≤ _; omega, fun _ _ => trivial, Nat.zero_le _, Nat.le_refl _⟩
  | q + 1, i, t, j, h => by
    unfold aAs at h
    split at h
    · obtain ⟨a, j1, h1, h⟩ := on_inr h
      obtain ⟨as, j2, h2, h⟩ := on_inr h
      injection h with h; injection h with h3 h4; subst h3; subst h4
      obtain ⟨b1, b2, b3, b4, b5⟩ := aAs_rg hG q j1 as j2 h2
      obtain ⟨c1, c2⟩ := aA1_rg hG h1
      obtain ⟨d1, d2, d3, d4, d5⟩ := c2 as j2 b1
      exact ⟨d1, by rw [d2]; omega, fun X hX => d4 X (by omega) (b3 X (by omega)), by omega, by omega⟩
    · injection h with h; injection h with h3 h4; subst h3; subst h4
      exact ⟨Nat.le_refl _, by show 0 + 3 * 0 ≤ _; omega, fun _ _ => trivial, Nat.zero_le _, Nat.le_refl _⟩
/-- a node without E's below it -/
theorem one_rg {g d1 d2 d3 : Nat} {s s' : tS} {i j : Nat} (hg : g ≠ 31 ∧ g ≠ 33 ∧ g ≠ 34 ∧ g ≠ 35 ∧ g ≠ 2 ∧ g ≠ 3 ∧ g ≠ 4 ∧ g ≠ 5 ∧ g ≠ 15) (hd : d1 = i) (hs : g = 10 → s.1 = i) (hj : i < j) (k : Nat) : tRg (tN g d1 d2 d3 s s' tZ tZ) i j ∧ tFw (tN g d1 d2 d3 s s' tZ tZ) = i ∧ tM (tN g d1 d2 d3 s s' tZ tZ) ≤ 3 * (j - i) ∧ (∀ X, j ≤ i + 2 * X → tKb X (tN g d1 d2 d3 s s' tZ tZ)) ∧ tDc (tN g d1 d2 d3 s s' tZ tZ) ≤ 5 * (k + 1) + 100 ∧ i < j := by
  subst hd
  obtain ⟨g1, g2, g3, g4, g5, g6, g7, g8, g9⟩ := hg
  refine ⟨?_, rfl, ?_, fun X _ => ?_, ?_, hj⟩
  · unfold tRg
    rw [if_neg g1]
    refine ⟨⟨Nat.le_refl _, hj, hs, fun z => absurd z g2⟩, d1 + 1, ⟨Nat.le_refl _, fun z => absurd z g2⟩, ?_, hj⟩
    split
    · trivial
    · exact Nat.le_refl _
  · unfold tM
    rw [if_neg g5, if_neg g6, if_neg g9]
    show 0 + (if g = 4 ∨ g = 5 then 0 else 0) + 0 ≤ _
    split <;> omega
  · unfold tKb
    rw [if_neg (by omega)]
    exact ⟨trivial, trivial⟩
  · unfold tDc
    rw [if_neg (by omega), if_neg (by omega)]
    show max 0 0 + 2 ≤ _
    omega
theorem aOp_rg {k : Nat} {G : Nat → aR tT} (hG : eRg k G) : eRg (k + 1) (aOp kk T G) := fun i t j h => by
  unfold aOp at h
  split at h
  · obtain ⟨s, j1, h1, h⟩ := on_inr h
    obtain ⟨_, j2, h2, h⟩ := on_inr h
    injection h with h; injection h with h3 h4; subst h3; subst h4
    have w := (aMs_inr h2).2
    have s1 := aSm_1 h1
    exact one_rg (by decide) rfl (fun z => absurd z (by decide)) (by omega) k
  · split at h
    · obtain ⟨as, j1, h1, h⟩ := on_inr h
      injection h with h; injection h with h3 h4; subst h3; subst h4
      obtain ⟨b1, b2, b3, b4, b5⟩ := aAs_rg hG 4 _ _ _ h1
      refine ⟨⟨⟨Nat.le_refl _, by show i < j1; omega, fun z => absurd z (by decide), fun z => absurd z (by decide)⟩, j1, ⟨b5, fun z => absurd z (by decide)⟩, b1, Nat.le_refl _⟩, rfl, ?_, fun X hX => ⟨b3 X (by omega), trivial⟩, ?_, by omega⟩
      · show 3 * tQn as + tM as + 0 ≤ _; omega
      · show max (tDc as) 0 + 2 ≤ _; omega
    · unfold aOq at h
      obtain ⟨s, j1, h1, h⟩ := on_inr h
      have s1 := aSm_1 h1
      split at h
      · obtain ⟨s', j2, h2, h⟩ := on_inr h
        injection h with h; injection h with h3 h4; subst h3; subst h4
        have s2 := aSm_1 h2
        exact one_rg (by decide) rfl (fun z => absurd z (by decide)) (by omega) k
      · split at h
        · obtain ⟨s', j2, h2, h⟩ := on_inr h
          injection h with h; injection h with h3 h4; subst h3; subst h4
          have s2 := aSm_1 h2
          exact one_rg (by decide) rfl (fun z => absurd z (by decide)) (by omega) k
        · split at h
          · obtain ⟨s', j2, h2, h⟩ := on_inr h
            injection h with h; injection h with h3 h4; subst h3; subst h4
            have s2 := aSm_1 h2
            exact one_rg (by decide) rfl (fun z => absurd z (by decide)) (by omega) k
          · injection h with h; injection h with h3 h4; subst h3; subst h4
            exact one_rg (by decide) rfl (fun _ => s1.1) (by omega) k
theorem aLt_rg {k : Nat} {G : Nat → aR tT} (hG : eRg k G) {mk : tT → tT → tT} {i j : Nat} {t : tT} (h : aLt kk G mk i = .inr (t, j)) : ∃ a b l, t = mk a b ∧ i < l ∧ l < j ∧ tRg a (i + 1) l ∧ tRg b l j ∧ tM a + tM b ≤ 3 * (j - i - 2) ∧ (∀ X, j ≤ i + 2 * X → tKb X a ∧ tKb X b) ∧ tDc a ≤ 5 * k + 100 ∧ tDc b ≤ 5 * k + 100 := by
  unfold aLt at h
  obtain ⟨_, i1, h1, h⟩ := on_inr h
  obtain ⟨a, i2, h2, h⟩ := on_inr h
  obtain ⟨_, i3, h3, h⟩ := on_inr h
  obtain ⟨b, i4, h4, h⟩ := on_inr h
  injection h with h
  injection h with h5 h6
  subst h5
  subst h6
  have w1 := (aMs_inr h1).2
  have w3 := (aMs_inr h3).2
  subst w1
  obtain ⟨a1, a2, a3, a4, a5, a6⟩ := hG _ _ _ h2
  obtain ⟨b1, b2, b3, b4, b5, b6⟩ := hG _ _ _ h4
  exact ⟨a, b, i3, rfl, by omega, by omega, tRg_mo a1 (by omega), b1, by omega, fun X hX => ⟨a4 X (by omega), b4 X (by omega)⟩, a5, b5⟩
set_option maxHeartbeats 1000000 in
theorem aE_rg : ∀ (k : Nat), eRg k (aE kk T k)
  | 0, i, t, j, h => by unfold aE at h; cases h
  | k + 1, i, t, j, h => by
    have IH := aE_rg k
    by_cases c212 : kk i = nI 212
    · rw [aE_212 c212] at h
      split at h
      · unfold aRc at h
        obtain ⟨_, i1, h1, h⟩ := on_inr h
        have w1 := (aMs_inr h1).2
        by_cases cn : aIs kk 1 i1 = true
        · rw [if_pos cn] at h
          obtain ⟨a, b, l, rfl, l1, l2, l3, l4, l5, l6, l7, l8⟩ := aLt_rg IH h
          have pq := (aPs_rd (kk := kk) 4 i1).1
          refine ⟨⟨⟨Nat.le_refl _, by show i < j; omega, fun z => absurd z (by decide), fun z => absurd z (by decide)⟩, l, ⟨by show i + 1 ≤ l; omega, fun z => absurd z (by decide)⟩, tRg_lo l3 (by show i + 1 ≤ _; omega), l4⟩, rfl, ?_, fun X hX => l6 X (by omega), ?_, by omega⟩
          · show 2 * aPs kk 4 i1 + 1 + tM a + tM b ≤ _; omega
          · show max (tDc a) (tDc b) + 2 ≤ _; omega
        · rw [if_neg cn] at h; cases h
      · obtain ⟨_, i1, h1, h⟩ := on_inr h
        have w1 := (aMs_inr h1).2
        obtain ⟨a, b, l, rfl, l1, l2, l3, l4, l5, l6, l7, l8⟩ := aLt_rg IH h
        refine ⟨⟨⟨Nat.le_refl _, by show i < j; omega, fun z => absurd z (by decide), fun z => absurd z (by decide)⟩, l, ⟨by show i + 1 ≤ l; omega, fun z => absurd z (by decide)⟩, tRg_lo l3 (by show i + 1 ≤ _; omega), l4⟩, rfl, ?_, fun X hX => l6 X (by omega), ?_, by omega⟩
        · show 0 + tM a + tM b ≤ _; omega
        · show max (tDc a) (tDc b) + 2 ≤ _; omega
    by_cases c206 : kk i = nI 206
    · rw [aE_206 c206] at h
      unfold aFn at h
      obtain ⟨_, i1, h1, h⟩ := on_inr h
      obtain ⟨_, i2, h2, h⟩ := on_inr h
      obtain ⟨a, i3, h3, h⟩ := on_inr h
      injection h with h
      injection h with h5 h6
      subst h5
      subst h6
      have w1 := (aMs_inr h1).2
      have w2 := (aMs_inr h2).2
      obtain ⟨a1, a2, a3, a4, a5, a6⟩ := IH _ _ _ h3
      refine ⟨⟨⟨Nat.le_refl _, by show i < i3; omega, fun z => absurd z (by decide), fun z => absurd z (by decide)⟩, i3, ⟨by show i + 1 ≤ i3; omega, fun z => absurd z (by decide)⟩, tRg_lo a1 (by show i + 1 ≤ _; omega), Nat.le_refl _⟩, rfl, ?_, fun X hX => ⟨a4 X (by omega), trivial⟩, ?_, by omega⟩
      · show 2 + tM a + 0 ≤ _; omega
      · show max (tDc a) 0 + 2 ≤ _; omega
    by_cases c207 : kk i = nI 207
    · rw [aE_207 c207] at h
      unfold aIf at h
      obtain ⟨c, i1, h1, h⟩ := on_inr h
      obtain ⟨_, i2, h2, h⟩ := on_inr h
      obtain ⟨a, i3, h3, h⟩ := on_inr h
      obtain ⟨_, i4, h4, h⟩ := on_inr h
      obtain ⟨b, i5, h5, h⟩ := on_inr h
      injection h with h
      injection h with h6 h7
      subst h6
      subst h7
      have w2 := (aMs_inr h2).2
      have w4 := (aMs_inr h4).2
      have e1 := aEi_ev (aSi_ev (k + 1)) _ _ _ h1
      have d1 := aEi_dp (aSi_dp (k + 1)) _ _ _ h1
      have n1 := aEi_kn (aSi_kn (k + 1)) _ _ _ h1
      obtain ⟨a1, a2, a3, a4, a5, a6⟩ := IH _ _ _ h3
      obtain ⟨b1, b2, b3, b4, b5, b6⟩ := IH _ _ _ h5
      have hi1 := e1.1
      refine ⟨⟨⟨Nat.le_refl _, by show i < i5; omega, fun z => absurd z (by decide), fun z => absurd z (by decide)⟩, i2, ⟨by show i + 1 ≤ i2; omega, fun z => absurd z (by decide)⟩, trivial, i4, tRg_mo a1 (by omega), b1⟩, rfl, ?_, fun X hX => ⟨by show kN c ≤ X; omega, a4 X (by omega), b4 X (by omega)⟩, ?_, by omega⟩
      · show 0 + 0 + (0 + tM a + tM b) ≤ _; omega
      · show max (cDp c) (max (tDc a) (tDc b)) + 2 ≤ _; omega
    by_cases c201 : kk i = nI 201
    · rw [aE_201 c201] at h
      unfold aAt at h
      obtain ⟨c, i1, h1, h⟩ := on_inr h
      obtain ⟨_, i2, h2, h⟩ := on_inr h
      obtain ⟨a, i3, h3, h⟩ := on_inr h
      injection h with h
      injection h with h6 h7
      subst h6
      subst h7
      have w2 := (aMs_inr h2).2
      have e1 := aEi_ev (aSi_ev (k + 1)) _ _ _ h1
      have d1 := aEi_dp (aSi_dp (k + 1)) _ _ _ h1
      have n1 := aEi_kn (aSi_kn (k + 1)) _ _ _ h1
      obtain ⟨a1, a2, a3, a4, a5, a6⟩ := IH _ _ _ h3
      have hi1 := e1.1
      refine ⟨⟨⟨Nat.le_refl _, by show i < i3; omega, fun z => absurd z (by decide), fun z => absurd z (by decide)⟩, i2, ⟨by show i + 1 ≤ i2; omega, fun z => absurd z (by decide)⟩, trivial, a1⟩, rfl, ?_, fun X hX => ⟨by show kN c ≤ X; omega, a4 X (by omega)⟩, ?_, by omega⟩
      · show 0 + 0 + tM a ≤ _; omega
      · show max (cDp c) (tDc a) + 2 ≤ _; omega
    by_cases c220 : kk i = nI 220
    · rw [aE_220 c220] at h
      obtain ⟨S, i2, i3, S', i4, i6, ta, d1, d2, d3, d4, d5, rfl⟩ := aSe_eq h
      unfold aIx at d1
      obtain ⟨_, p1, g1, d1⟩ := on_inr d1
      obtain ⟨_, p2, g2, d1⟩ := on_inr d1
      obtain ⟨S0, p3, g3, d1⟩ := on_inr d1
      obtain ⟨_, p4, g4, d1⟩ := on_inr d1
      injection d1 with d1
      injection d1 with d6 d7
      subst d6
      subst d7
      have w1 := (aMs_inr g1).2
      have w2 := (aMs_inr g2).2
      have w4 := (aMs_inr g4).2
      have w5 := (aMs_inr d2).2
      have w6 := (aMs_inr d4).2
      have s1 := aSm_1 g3
      have s2 := aSm_1 d3
      obtain ⟨a1, a2, a3, a4, a5, a6⟩ := IH _ _ _ d5
      refine ⟨⟨⟨Nat.le_refl _, by show i < j; omega, fun z => absurd z (by decide), fun z => absurd z (by decide)⟩, j, ⟨by show i + 1 ≤ j; omega, fun z => absurd z (by decide)⟩, tRg_lo a1 (by show i + 1 ≤ _; omega), Nat.le_refl _⟩, rfl, ?_, fun X hX => ⟨a4 X (by omega), trivial⟩, ?_, by omega⟩
      · show 0 + tM ta + 0 ≤ _; omega
      · show max (tDc ta) 0 + 2 ≤ _; omega
    by_cases c215 : kk i = nI 215
    · rw [aE_215 c215] at h
      obtain ⟨s, i1, h1, h⟩ := on_inr h
      injection h with h
      injection h with h6 h7
      subst h6
      subst h7
      have s1 := aSm_1 h1
      exact one_rg (by decide) rfl (fun z => absurd z (by decide)) (by omega) k
    by_cases c216 : kk i = nI 216
    · rw [aE_216 c216] at h
      injection h with h
      injection h with h6 h7
      subst h6
      subst h7
      exact one_rg (by decide) rfl (fun z => absurd z (by decide)) (by omega) k
    by_cases c203 : kk i = nI 203
    · rw [aE_203 c203] at h
      obtain ⟨s, i1, h1, h⟩ := on_inr h
      obtain ⟨_, i2, h2, h⟩ := on_inr h
      injection h with h
      injection h with h6 h7
      subst h6
      subst h7
      have s1 := aSm_1 h1
      have w2 := (aMs_inr h2).2
      exact one_rg (by decide) rfl (fun z => absurd z (by decide)) (by omega) k
    by_cases c214 : kk i = nI 214
    · rw [aE_214 c214] at h
      unfold aMt at h
      obtain ⟨_, i1, h1, h⟩ := on_inr h
      obtain ⟨_, i2, h2, h⟩ := on_inr h
      obtain ⟨_, i3, h3, h⟩ := on_inr h
      obtain ⟨_, i4, h4, h⟩ := on_inr h
      obtain ⟨a, i5, h5, h⟩ := on_inr h
      obtain ⟨_, i6, h6, h⟩ := on_inr h
      obtain ⟨_, i7, h7, h⟩ := on_inr h
      obtain ⟨_, i8, h8, h⟩ := on_inr h
      obtain ⟨_, i9, h9, h⟩ := on_inr h
      obtain ⟨b, i10, h10, h⟩ := on_inr h
      injection h with h
      injection h with g6 g7
      subst g6
      subst g7
      have w1 := (aMs_inr h1).2
      have w2 := (aMs_inr h2).2
      have w3 := (aMs_inr h3).2
      have w4 := (aMs_inr h4).2
      have w6 := (aMs_inr h6).2
      have w7 := (aMs_inr h7).2
      have w8 := (aMs_inr h8).2
      have w9 := (aMs_inr h9).2
      obtain ⟨a1, a2, a3, a4, a5, a6⟩ := IH _ _ _ h5
      obtain ⟨b1, b2, b3, b4, b5, b6⟩ := IH _ _ _ h10
      refine ⟨⟨⟨Nat.le_refl _, by show i < i10; omega, fun z => absurd z (by decide), fun z => absurd z (by decide)⟩, i9, ⟨by show i + 1 ≤ i9; omega, fun z => absurd z (by decide)⟩, tRg_mo (tRg_lo a1 (by show i + 1 ≤ _; omega)) (by omega), b1⟩, rfl, ?_, fun X hX => ⟨a4 X (by omega), b4 X (by omega)⟩, ?_, by omega⟩
      · show 0 + tM a + tM b ≤ _; omega
      · show max (tDc a) (tDc b) + 2 ≤ _; omega
    by_cases c223 : kk i = nI 223
    · rw [aE_223 c223] at h
      injection h with h
      injection h with h6 h7
      subst h6
      subst h7
      exact one_rg (by decide) rfl (fun z => absurd z (by decide)) (by omega) k
    by_cases c205 : kk i = nI 205
    · rw [aE_205 c205] at h
      injection h with h
      injection h with h6 h7
      subst h6
      subst h7
      exact one_rg (by decide) rfl (fun z => absurd z (by decide)) (by omega) k
    by_cases c40 : kk i = nI 40
    · rw [aE_40 c40] at h
      obtain ⟨a, i1, h1, h⟩ := on_inr h
      obtain ⟨_, i2, h2, h⟩ := on_inr h
      injection h with h
      injection h with h6 h7
      subst h6
      subst h7
      have w2 := (aMs_inr h2).2
      obtain ⟨a1, a2, a3, a4, a5, a6⟩ := IH _ _ _ h1
      refine ⟨⟨⟨Nat.le_refl _, by show i < i2; omega, fun z => absurd z (by decide), fun z => absurd z (by decide)⟩, i2, ⟨by show i + 1 ≤ i2; omega, fun z => absurd z (by decide)⟩, tRg_mo a1 (by omega), Nat.le_refl _⟩, rfl, ?_, fun X hX => ⟨a4 X (by omega), trivial⟩, ?_, by omega⟩
      · show 0 + tM a + 0 ≤ _; omega
      · show max (tDc a) 0 + 2 ≤ _; omega
    rw [aE_no c212 c206 c207 c201 c220 c215 c216 c203 c214 c223 c205 c40] at h
    exact aOp_rg IH _ _ _ h
end RRE
