/-! an E as it is read: where its parts stand -/
/-- t stands in the words from i to j -/
def tRg : tT → Nat → Nat → Prop
  | .leaf, i, j => i ≤ j
  | .inner g d _ a b, i, j => if g = 31 then ∃ k, tRg a i k ∧ tRg b k j else (i ≤ d.1 ∧ d.1 < j ∧ (g = 10 → d.2.2.2.1.1 = d.1) ∧ (g = 33 → d.1 ≤ d.2.2.2.1.1 ∧ d.2.2.2.1.1 ≤ d.1 + 1)) ∧ ∃ k, (d.1 + 1 ≤ k ∧ (g = 33 → d.2.2.2.1.1 < k)) ∧ (if g = 4 ∨ g = 5 then True else tRg a (d.1 + 1) k) ∧ tRg b k j
/-- types that the class makes of it, at most -/
def tM : tT → Nat
  | .leaf => 0
  | .inner g d _ a b => (if g = 2 then 2 * d.2.1 + 1 else if g = 3 then 2 else if g = 15 then 3 * tQn a else 0) + (if g = 4 ∨ g = 5 then 0 else tM a) + tM b
/-- its C's have at most X && and || -/
def tKb (X : Nat) : tT → Prop
  | .leaf => True
  | .inner g _ _ a b => (if g = 4 ∨ g = 5 then kN a ≤ X else tKb X a) ∧ tKb X b
/-- how deep the class goes within it -/
def tDc : tT → Nat
  | .leaf => 0
  | .inner g _ _ a b => if g = 31 ∨ g = 33 ∨ g = 34 ∨ g = 35 then max (tDc a) (tDc b) else if g = 4 ∨ g = 5 then max (cDp a) (tDc b) + 2 else max (tDc a) (tDc b) + 2
theorem tRg.le : ∀ (t : tT) (i j : Nat), tRg t i j → i ≤ j
  | .leaf, i, j, h => h
  | .inner g d _ a b, i, j, h => by
    unfold tRg at h
    by_cases c : g = 31
    · rw [if_pos c] at h
      obtain ⟨k, h1, h2⟩ := h
      exact Nat.le_trans (tRg.le a i k h1) (tRg.le b k j h2)
    · rw [if_neg c] at h
      omega
theorem tRg_mo : ∀ {t : tT} {i j j' : Nat}, tRg t i j → j ≤ j' → tRg t i j'
  | .leaf, i, j, j', h, hj => Nat.le_trans h hj
  | .inner g d _ a b, i, j, j', h, hj => by
    unfold tRg at h ⊢
    by_cases c : g = 31
    · rw [if_pos c] at h ⊢
      obtain ⟨k, h1, h2⟩ := h
      exact ⟨k, h1, tRg_mo h2 hj⟩
    · rw [if_neg c] at h ⊢
      obtain ⟨⟨h1, h2, h3⟩, k, h4, h5, h6⟩ := h
      exact ⟨⟨h1, by omega, h3⟩, k, h4, h5, tRg_mo h6 hj⟩
theorem tRg_lo : ∀ {t : tT} {i i' j : Nat}, tRg t i j → i' ≤ i → tRg t i' j
  | .leaf, i, i', j, h, hi => Nat.le_trans hi h
  | .inner g d _ a b, i, i', j, h, hi => by
    unfold tRg at h ⊢
    by_cases c : g = 31
    · rw [if_pos c] at h ⊢
      obtain ⟨k, h1, h2⟩ := h
      exact ⟨k, tRg_lo h1 hi, h2⟩
    · rw [if_neg c] at h ⊢
      obtain ⟨⟨h1, h2⟩, h3⟩ := h
      exact ⟨⟨Nat.le_trans hi h1, h2⟩, h3⟩
section RRG
variable {kk : Nat → Int32} {T : Nat}
theorem tMk_dp {g : Nat} (hg : g = 20 ∨ g = 21) (c cs : tT) : cDp (tMk g c cs) ≤ max (cDp c) (cDp cs) + 1 := by
  cases cs with
  | leaf => show cDp c ≤ max (cDp c) 0 + 1; omega
  | inner g' d' z' x y =>
    rcases hg with rfl | rfl
    · show max (cDp c) (cDp (.inner g' d' z' x y)) + 1 ≤ _; omega
    · show max (cDp c) (cDp (.inner g' d' z' x y)) + 1 ≤ _; omega
theorem aCL_dp {k X : Nat} {F : Nat → aR tT} (hF : ∀ i t j, F i = .inr (t, j) → cDp t ≤ X) : ∀ (t i : Nat) (x : tT) (j : Nat), aCL kk k F t i = .inr (x, j) → cDp x ≤ X
  | 0, i, x, j, h => by unfold aCL at h; cases h
  | t + 1, i, x, j, h => by
    unfold aCL at h
    split at h
    · obtain ⟨c, j1, h1, h⟩ := on_inr h
      obtain ⟨cs, j2, h2, h⟩ := on_inr h
      injection h with h; injection h with h3 h4; subst h3; subst h4
      have := hF _ _ _ h1
      have := aCL_dp hF t j1 cs j2 h2
      show max (cDp c) (cDp cs) ≤ X
      omega
    · injection h with h; injection h with h3 h4; subst h3; subst h4
      exact Nat.zero_le _
theorem aBo_dp {X : Nat} {F : Nat → aR tT} (hF : ∀ i t j, F i = .inr (t, j) → cDp t ≤ X) (i : Nat) (t : tT) (j : Nat) (h : aBo kk T F i = .inr (t, j)) : cDp t ≤ X + 1 := by
  unfold aBo at h
  obtain ⟨c, j1, h1, h⟩ := on_inr h
  obtain ⟨cs, j2, h2, h⟩ := on_inr h
  injection h with h; injection h with h3 h4; subst h3; subst h4
  have := hF _ _ _ h1
  have := aCL_dp hF T j1 cs j2 h2
  have := tMk_dp (Or.inr rfl : (21 : Nat) = 20 ∨ 21 = 21) c cs
  omega
theorem aEi_dp {X : Nat} {F : Nat → aR tT} (hF : ∀ i t j, F i = .inr (t, j) → cDp t ≤ X) (i : Nat) (t : tT) (j : Nat) (h : aEi kk T F i = .inr (t, j)) : cDp t ≤ X + 2 := by
  unfold aEi at h
  obtain ⟨c, j1, h1, h⟩ := on_inr h
  obtain ⟨cs, j2, h2, h⟩ := on_inr h
  injection h with h; injection h with h3 h4; subst h3; subst h4
  have := aBo_dp hF _ _ _ h1
  have := aCL_dp (aBo_dp hF) T j1 cs j2 h2
  have := tMk_dp (Or.inl rfl : (20 : Nat) = 20 ∨ 20 = 21) c cs
  omega
theorem aSi_dp : ∀ (k i : Nat) (t : tT) (j : Nat), aSi kk T k i = .inr (t, j) → cDp t ≤ 3 * k
  | 0, i, t, j, h => by unfold aSi at h; cases h
  | k + 1, i, t, j, h => by
    unfold aSi at h
    split at h
    · obtain ⟨c, j1, h1, h⟩ := on_inr h
      injection h with h; injection h with h3 h4; subst h3; subst h4
      have := aSi_dp k _ _ _ h1
      show max (cDp c) 0 + 1 ≤ 3 * (k + 1)
      omega
    · split at h
      · obtain ⟨c, j1, h1, h⟩ := on_inr h
        obtain ⟨_, j2, h2, h⟩ := on_inr h
        injection h with h; injection h with h3 h4; subst h3; subst h4
        have := aEi_dp (aSi_dp k) _ _ _ h1
        omega
      · split at h
        · injection h with h; injection h with h3 h4; subst h3; subst h4
          exact Nat.zero_le _
        · split at h
          · injection h with h; injection h with h3 h4; subst h3; subst h4
            exact Nat.zero_le _
          · unfold aCm at h
            obtain ⟨s, j1, h1, h⟩ := on_inr h
            split at h
            · obtain ⟨s', j2, h2, h⟩ := on_inr h
              injection h with h; injection h with h3 h4; subst h3; subst h4
              exact Nat.zero_le _
            · split at h
              · injection h with h; injection h with h3 h4; subst h3; subst h4
                exact Nat.zero_le _
              · cases h
def eRg (k : Nat) (F : Nat → aR tT) : Prop := ∀ i t j, F i = .inr (t, j) → tRg t i j ∧ tFw t = i ∧ tM t ≤ 3 * (j - i) ∧ (∀ X, j ≤ i + 2 * X → tKb X t) ∧ tDc t ≤ 5 * k + 100 ∧ i < j
theorem aA1_rg {k : Nat} {G : Nat → aR tT} (hG : eRg k G) {i j : Nat} {a : tT → tT} (h : aA1 kk T G i = .inr (a, j)) : i < j ∧ ∀ r l, tRg r j l → tRg (a r) i l ∧ tQn (a r) = tQn r + 1 ∧ tM (a r) ≤ 3 * (j - i - 1) + tM r ∧ (∀ X, j ≤ i + 2 * X → tKb X r → tKb X (a r)) ∧ tDc (a r) ≤ max (5 * k + 100) (tDc r) := by
  unfold aA1 at h
  split at h
  · injection h with h; injection h with h3 h4; subst h3; subst h4
    refine ⟨by omega, fun r l hr => ⟨⟨⟨Nat.le_refl _, by have := hr.le; omega, fun z => absurd z (by decide), fun z => absurd z (by decide)⟩, i + 1, ⟨Nat.le_refl _, fun z => absurd z (by decide)⟩, Nat.le_refl _, hr⟩, rfl, by show 0 + 0 + tM r ≤ _; omega, fun X _ z => ⟨trivial, z⟩, by show max 0 (tDc r) ≤ _; omega⟩⟩
  · split at h
    · injection h with h; injection h with h3 h4; subst h3; subst h4
      refine ⟨by omega, fun r l hr => ⟨⟨⟨Nat.le_refl _, by have := hr.le; omega, fun z => absurd z (by decide), fun z => absurd z (by decide)⟩, i + 1, ⟨Nat.le_refl _, fun z => absurd z (by decide)⟩, Nat.le_refl _, hr⟩, rfl, by show 0 + 0 + tM r ≤ _; omega, fun X _ z => ⟨trivial, z⟩, by show max 0 (tDc r) ≤ _; omega⟩⟩
    · split at h
      · split at h
        · obtain ⟨e, j1, h1, h⟩ := on_inr h
          obtain ⟨_, j2, h2, h⟩ := on_inr h
          injection h with h; injection h with h3 h4; subst h3; subst h4
          have w := (aMs_inr h2).2
          obtain ⟨a1, a2, a3, a4, a5, a6⟩ := hG _ _ _ h1
          refine ⟨by omega, fun r l hr => ⟨⟨⟨Nat.le_refl _, by have := hr.le; show i < l; omega, fun z => absurd z (by decide), fun z => absurd z (by decide)⟩, j2, ⟨by show i + 1 ≤ j2; omega, fun z => absurd z (by decide)⟩, ?_, hr⟩, rfl, by show 0 + tM e + tM r ≤ _; omega, fun X hX z => ⟨a4 X (by omega), z⟩, by show max (tDc e) (tDc r) ≤ _; omega⟩⟩
          exact tRg_mo a1 (by omega)
        · obtain ⟨s, j1, h1, h⟩ := on_inr h
          obtain ⟨_, j2, h2, h⟩ := on_inr h
          injection h with h; injection h with h3 h4; subst h3; subst h4
          have w := (aMs_inr h2).2
          have s1 := aSm_1 h1
          refine ⟨by omega, fun r l hr => ⟨⟨⟨Nat.le_refl _, by have := hr.le; show i < l; omega, fun z => absurd z (by decide), fun _ => by show i ≤ s.1 ∧ s.1 ≤ i + 1; omega⟩, j2, ⟨by show i + 1 ≤ j2; omega, fun _ => by show s.1 < j2; omega⟩, by show i + 1 ≤ j2; omega, hr⟩, rfl, by show 0 + 0 + tM r ≤ _; omega, fun X _ z => ⟨trivial, z⟩, by show max 0 (tDc r) ≤ _; omega⟩⟩
      · injection h with h; injection h with h3 h4; subst h3; subst h4
        refine ⟨by omega, fun r l hr => ⟨⟨⟨Nat.le_refl _, by have := hr.le; show i < l; omega, fun z => absurd z (by decide), fun _ => by show i ≤ i ∧ i ≤ i + 1; omega⟩, i + 1, ⟨Nat.le_refl _, fun _ => Nat.lt_succ_self _⟩, Nat.le_refl _, hr⟩, rfl, by show 0 + 0 + tM r ≤ _; omega, fun X _ z => ⟨trivial, z⟩, by show max 0 (tDc r) ≤ _; omega⟩⟩
end RRG
