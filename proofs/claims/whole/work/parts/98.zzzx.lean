/-! S and C as they are read: their words -/
/-- words from i to j are words -/
def nz (kk : Nat → Int32) (i j : Nat) : Prop := ∀ w, i ≤ w → w < j → ¬ kk w = 0
section SCW
variable {kk : Nat → Int32} {T cnt : Nat}
theorem nz.no {i : Nat} : nz kk i i := fun w h1 h2 => absurd h1 (by omega)
theorem nz.one {i : Nat} {c : Nat} (h : aIs kk c i = true) (hc : ¬ nI c = 0) : nz kk i (i + 1) := fun w h1 h2 => by
  have : w = i := by omega
  subst this
  intro z
  exact hc ((of_decide_eq_true h).symm.trans z)
theorem nz.ap {i j l : Nat} (h : nz kk i j) (h' : nz kk j l) : nz kk i l := fun w h1 h2 => by
  by_cases c : w < j
  · exact h w h1 c
  · exact h' w (by omega) h2
theorem nz.sub {i j i' j' : Nat} (h : nz kk i j) (h1 : i ≤ i') (h2 : j' ≤ j) : nz kk i' j' := fun w a b => h w (by omega) (by omega)
theorem nz.ms {c i j : Nat} {u : Unit} (h : aMs kk c i = .inr (u, j)) (hc : ¬ nI c = 0) : nz kk i j ∧ j = i + 1 := by
  obtain ⟨h1, h2⟩ := aMs_inr h
  subst h2
  exact ⟨nz.one h1 hc, rfl⟩
theorem nz.lt (hz : ∀ i, cnt ≤ i → kk i = 0) {i j : Nat} (h : nz kk i j) (hij : i < j) : j ≤ cnt := by
  by_cases c : j ≤ cnt
  · exact c
  · exact absurd (hz (j - 1) (by omega)) (h (j - 1) (by omega) (by omega))
theorem aPt_nz {g : Bool} {i j : Nat} {p : tP} (h : aPt kk g i = .inr (p, j)) : i < j ∧ nz kk i j := by
  unfold aPt at h
  split at h
  · rename_i c
    obtain ⟨_, j1, h1, h⟩ := on_inr h
    injection h with h; injection h with h3 h4; subst h4
    obtain ⟨z1, z2⟩ := nz.ms h1 (by decide)
    exact ⟨by omega, (nz.one c (by decide)).ap z1⟩
  · split at h
    · rename_i c
      obtain ⟨_, j1, h1, h⟩ := on_inr h
      injection h with h; injection h with h3 h4; subst h4
      obtain ⟨z1, z2⟩ := nz.ms h1 (by decide)
      exact ⟨by omega, (nz.one c (by decide)).ap z1⟩
    · split at h
      · rename_i c
        injection h with h; injection h with h3 h4; subst h4
        exact ⟨Nat.lt_succ_self _, nz.one c (by decide)⟩
      · obtain ⟨_, j1, h1, h⟩ := on_inr h
        injection h with h; injection h with h3 h4; subst h4
        obtain ⟨z1, z2⟩ := nz.ms h1 (by decide)
        exact ⟨by omega, z1⟩
theorem aSL_nz : ∀ (t i : Nat) {ps : List tP} {j : Nat}, aSL kk t i = .inr (ps, j) → i ≤ j ∧ nz kk i j
  | 0, i, ps, j, h => by unfold aSL at h; cases h
  | t + 1, i, ps, j, h => by
    unfold aSL at h
    split at h
    · rename_i c
      obtain ⟨p, j1, h1, h⟩ := on_inr h
      obtain ⟨ps', j2, h2, h⟩ := on_inr h
      injection h with h; injection h with h3 h4; subst h4
      obtain ⟨a1, a2⟩ := aPt_nz h1
      obtain ⟨b1, b2⟩ := aSL_nz t j1 h2
      refine ⟨by omega, nz.ap ?_ (a2.ap b2)⟩
      rcases Bool.or_eq_true .. ▸ c with c | c
      · exact nz.one c (by decide)
      · exact nz.one c (by decide)
    · injection h with h; injection h with h3 h4; subst h4
      exact ⟨Nat.le_refl _, nz.no⟩
theorem aSm_nz {i j : Nat} {s : tS} (h : aSm kk T i = .inr (s, j)) : i < j ∧ nz kk i j := by
  unfold aSm at h
  obtain ⟨p, j1, h1, h⟩ := on_inr h
  obtain ⟨ps, j2, h2, h⟩ := on_inr h
  injection h with h; injection h with h3 h4; subst h4
  obtain ⟨a1, a2⟩ := aPt_nz h1
  obtain ⟨b1, b2⟩ := aSL_nz T j1 h2
  by_cases c : aIs kk 45 i = true
  · rw [if_pos c] at a1 a2
    exact ⟨by omega, (nz.one c (by decide)).ap (a2.ap b2)⟩
  · rw [if_neg c] at a1 a2
    exact ⟨by omega, a2.ap b2⟩
theorem aSm_ok (hz : ∀ i, cnt ≤ i → kk i = 0) {i j : Nat} {s : tS} (h : aSm kk T i = .inr (s, j)) : (i < j ∧ nz kk i j) ∧ pOk cnt s.2 := by
  have z := aSm_nz h
  refine ⟨z, fun p hp => ?_⟩
  have l := z.2.lt hz z.1
  unfold aSm at h
  obtain ⟨p', j1, h1, h⟩ := on_inr h
  obtain ⟨ps, j2, h2, h⟩ := on_inr h
  injection h with h; injection h with h3 h4; subst h3; subst h4
  have w1 := aPt_w h1
  have w2 := aSL_w T j1 h2
  rcases List.mem_cons.mp hp with e | e
  · subst e
    exact ⟨by omega, fun _ => by omega⟩
  · have := w2.2 p e
    exact ⟨by omega, fun _ => by omega⟩
/-- a C as it is read -/
def cRd (kk : Nat → Int32) (cnt k : Nat) (F : Nat → aR tT) : Prop := ∀ i t j, F i = .inr (t, j) → i < j ∧ nz kk i j ∧ cWf cnt t false ∧ i + 2 * kN t + 1 ≤ j ∧ kH t ≤ k
theorem aCm_rd (hz : ∀ i, cnt ≤ i → kk i = 0) (k : Nat) : cRd kk cnt k (aCm kk T) := fun i t j h => by
  unfold aCm at h
  obtain ⟨s, j1, h1, h⟩ := on_inr h
  obtain ⟨⟨a1, a2⟩, a3⟩ := aSm_ok hz h1
  split at h
  · rename_i c
    obtain ⟨s', j2, h2, h⟩ := on_inr h
    injection h with h; injection h with h3 h4; subst h3; subst h4
    obtain ⟨⟨b1, b2⟩, b3⟩ := aSm_ok hz h2
    have zr : nz kk j1 (j1 + 1) := by
      unfold aRl at c
      split at c
      · exact nz.one (by assumption) (by decide)
      split at c
      · exact nz.one (by assumption) (by decide)
      split at c
      · exact nz.one (by assumption) (by decide)
      split at c
      · exact nz.one (by assumption) (by decide)
      split at c
      · exact nz.one (by assumption) (by decide)
      split at c
      · exact nz.one (by assumption) (by decide)
      · omega
    exact ⟨by omega, a2.ap (zr.ap b2), Or.inr ⟨rfl, Or.inr (Or.inr (Or.inr (Or.inr ⟨rfl, a3, b3⟩)))⟩, by show i + 2 * 0 + 1 ≤ j2; omega, Nat.zero_le _⟩
  · split at h
    · rename_i c c2
      injection h with h; injection h with h3 h4; subst h3; subst h4
      have := (a3 (1, false, i) (by rw [c2]; exact List.mem_singleton_self _)).2 Nat.one_ne_zero
      exact ⟨a1, a2, Or.inr ⟨rfl, Or.inr (Or.inr (Or.inr (Or.inl ⟨rfl, this⟩)))⟩, by show i + 2 * 0 + 1 ≤ j1; omega, Nat.zero_le _⟩
    · cases h
theorem aCL_rd {k c : Nat} {F : Nat → aR tT} (hF : cRd kk cnt k F) (hc : ¬ nI c = 0) : ∀ (t i : Nat) (x : tT) (j : Nat), aCL kk c F t i = .inr (x, j) → i ≤ j ∧ nz kk i j ∧ cWf cnt x true ∧ i + 2 * kN x ≤ j ∧ kH x ≤ k
  | 0, i, x, j, h => by unfold aCL at h; cases h
  | t + 1, i, x, j, h => by
    unfold aCL at h
    split at h
    · rename_i c1
      obtain ⟨y, j1, h1, h⟩ := on_inr h
      obtain ⟨ys, j2, h2, h⟩ := on_inr h
      injection h with h; injection h with h3 h4; subst h3; subst h4
      obtain ⟨a1, a2, a3, a4, a5⟩ := hF _ _ _ h1
      obtain ⟨b1, b2, b3, b4, b5⟩ := aCL_rd hF hc t j1 ys j2 h2
      exact ⟨by omega, (nz.one c1 hc).ap (a2.ap b2), Or.inl ⟨rfl, rfl, a3, b3⟩, by show i + 2 * (kN y + kN ys + 1) ≤ j2; omega, by show max (kH y) (kH ys) + 0 ≤ k; omega⟩
    · injection h with h; injection h with h3 h4; subst h3; subst h4
      exact ⟨Nat.le_refl _, nz.no, rfl, by show i + 2 * 0 ≤ i; omega, Nat.zero_le _⟩
theorem tMk_rd {g k i j j1 : Nat} {c cs : tT} (hg : g = 20 ∨ g = 21) (h : i < j1 ∧ nz kk i j1 ∧ cWf cnt c false ∧ i + 2 * kN c + 1 ≤ j1 ∧ kH c ≤ k) (h' : j1 ≤ j ∧ nz kk j1 j ∧ cWf cnt cs true ∧ j1 + 2 * kN cs ≤ j ∧ kH cs ≤ k) : i < j ∧ nz kk i j ∧ cWf cnt (tMk g c cs) false ∧ i + 2 * kN (tMk g c cs) + 1 ≤ j ∧ kH (tMk g c cs) ≤ k := by
  obtain ⟨a1, a2, a3, a4, a5⟩ := h
  obtain ⟨b1, b2, b3, b4, b5⟩ := h'
  cases cs with
  | leaf => exact ⟨by omega, a2.ap b2, a3, by show i + 2 * kN c + 1 ≤ j; omega, a5⟩
  | inner g' d' z' x y =>
    refine ⟨by omega, a2.ap b2, Or.inr ⟨rfl, Or.inl ⟨hg, a3, b3⟩⟩, ?_, ?_⟩
    · rcases hg with rfl | rfl
      · show i + 2 * (kN c + kN (.inner g' d' z' x y) + 0) + 1 ≤ j; omega
      · show i + 2 * (kN c + kN (.inner g' d' z' x y) + 0) + 1 ≤ j; omega
    · rcases hg with rfl | rfl
      · show max (kH c) (kH (.inner g' d' z' x y)) + 0 ≤ k; omega
      · show max (kH c) (kH (.inner g' d' z' x y)) + 0 ≤ k; omega
theorem aBo_rd {k : Nat} {F : Nat → aR tT} (hF : cRd kk cnt k F) : cRd kk cnt k (aBo kk T F) := fun i t j h => by
  unfold aBo at h
  obtain ⟨c, j1, h1, h⟩ := on_inr h
  obtain ⟨cs, j2, h2, h⟩ := on_inr h
  injection h with h; injection h with h3 h4; subst h3; subst h4
  exact tMk_rd (Or.inr rfl) (hF _ _ _ h1) (aCL_rd hF (by decide) T j1 cs j2 h2)
theorem aEi_rd {k : Nat} {F : Nat → aR tT} (hF : cRd kk cnt k F) : cRd kk cnt k (aEi kk T F) := fun i t j h => by
  unfold aEi at h
  obtain ⟨c, j1, h1, h⟩ := on_inr h
  obtain ⟨cs, j2, h2, h⟩ := on_inr h
  injection h with h; injection h with h3 h4; subst h3; subst h4
  exact tMk_rd (Or.inl rfl) (aBo_rd hF _ _ _ h1) (aCL_rd (aBo_rd hF) (by decide) T j1 cs j2 h2)
theorem aSi_rd (hz : ∀ i, cnt ≤ i → kk i = 0) : ∀ (k : Nat), cRd kk cnt k (aSi kk T k)
  | 0, i, t, j, h => by unfold aSi at h; cases h
  | k + 1, i, t, j, h => by
    unfold aSi at h
    split at h
    · rename_i c1
      obtain ⟨c, j1, h1, h⟩ := on_inr h
      injection h with h; injection h with h3 h4; subst h3; subst h4
      obtain ⟨a1, a2, a3, a4, a5⟩ := aSi_rd hz k _ _ _ h1
      exact ⟨by omega, (nz.one c1 (by decide)).ap a2, Or.inr ⟨rfl, Or.inr (Or.inl ⟨rfl, a3, rfl⟩)⟩, by show i + 2 * (kN c + 0 + 0) + 1 ≤ j1; omega, by show max (kH c) 0 + 1 ≤ k + 1; omega⟩
    · split at h
      · rename_i c1
        obtain ⟨c, j1, h1, h⟩ := on_inr h
        obtain ⟨_, j2, h2, h⟩ := on_inr h
        injection h with h; injection h with h3 h4; subst h3; subst h4
        obtain ⟨a1, a2, a3, a4, a5⟩ := aEi_rd (aSi_rd hz k) _ _ _ h1
        obtain ⟨b1, b2⟩ := nz.ms h2 (by decide)
        exact ⟨by omega, (nz.one c1 (by decide)).ap (a2.ap b1), a3, by omega, by omega⟩
      · split at h
        · rename_i c1
          injection h with h; injection h with h3 h4; subst h3; subst h4
          exact ⟨by omega, nz.one c1 (by decide), Or.inr ⟨rfl, Or.inr (Or.inr (Or.inl ⟨rfl, rfl, rfl⟩))⟩, by show i + 2 * 0 + 1 ≤ i + 1; omega, Nat.zero_le _⟩
        · split at h
          · rename_i c1
            injection h with h; injection h with h3 h4; subst h3; subst h4
            exact ⟨by omega, nz.one c1 (by decide), Or.inr ⟨rfl, Or.inr (Or.inr (Or.inl ⟨rfl, rfl, rfl⟩))⟩, by show i + 2 * 0 + 1 ≤ i + 1; omega, Nat.zero_le _⟩
          · exact aCm_rd hz (k + 1) _ _ _ h
end SCW
