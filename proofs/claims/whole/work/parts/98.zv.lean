/-! the class's parser: a C at every depth -/
theorem aCL_le {kk : Nat → Int32} {k : Nat} {F : Nat → aR tT} (hF : ∀ i t j, F i = .inr (t, j) → i < j) : ∀ (t i : Nat) (x : tT) (j : Nat), aCL kk k F t i = .inr (x, j) → i ≤ j
  | 0, i, x, j, h => by cases h
  | t + 1, i, x, j, h => by
    rw [aCL] at h
    by_cases c : aIs kk k i = true
    · rw [if_pos c] at h
      obtain ⟨y, j1, e1, h⟩ := on_ok h
      obtain ⟨z, j2, e2, h⟩ := on_ok h
      cases h
      have := hF _ _ _ e1
      have := aCL_le hF t j1 z j e2
      omega
    · rw [if_neg c] at h
      cases h
      exact Nat.le_refl _
theorem aBo_lt {kk : Nat → Int32} {T : Nat} {F : Nat → aR tT} (hF : ∀ i t j, F i = .inr (t, j) → i < j) (i : Nat) (t : tT) (j : Nat) (h : aBo kk T F i = .inr (t, j)) : i < j := by
  unfold aBo at h
  obtain ⟨y, j1, e1, h⟩ := on_ok h
  obtain ⟨z, j2, e2, h⟩ := on_ok h
  cases h
  have := hF _ _ _ e1
  have := aCL_le hF T j1 z j e2
  omega
theorem aEi_lt {kk : Nat → Int32} {T : Nat} {F : Nat → aR tT} (hF : ∀ i t j, F i = .inr (t, j) → i < j) (i : Nat) (t : tT) (j : Nat) (h : aEi kk T F i = .inr (t, j)) : i < j := by
  unfold aEi at h
  obtain ⟨y, j1, e1, h⟩ := on_ok h
  obtain ⟨z, j2, e2, h⟩ := on_ok h
  cases h
  have := aBo_lt hF _ _ _ e1
  have := aCL_le (aBo_lt hF) T j1 z j e2
  omega
theorem aCm_lt {kk : Nat → Int32} {T : Nat} (i : Nat) (t : tT) (j : Nat) (h : aCm kk T i = .inr (t, j)) : i < j := by
  unfold aCm at h
  obtain ⟨S, j1, e1, h⟩ := on_ok h
  have w1 := (aSm_w e1).2.1
  by_cases c : aRl kk j1 < 6
  · rw [if_pos c] at h
    obtain ⟨S', j2, e2, h⟩ := on_ok h
    cases h
    have w2 := (aSm_w e2).2.1
    omega
  · rw [if_neg c] at h
    split at h
    · cases h; omega
    · cases h
theorem aSi_lt {kk : Nat → Int32} {T : Nat} : ∀ (k i : Nat) (t : tT) (j : Nat), aSi kk T k i = .inr (t, j) → i < j
  | 0, i, t, j, h => by cases h
  | k + 1, i, t, j, h => by
    rw [aSi] at h
    split at h
    · obtain ⟨y, j1, e1, h⟩ := on_ok h
      cases h
      have := aSi_lt k _ _ _ e1
      omega
    · split at h
      · obtain ⟨y, j1, e1, h⟩ := on_ok h
        obtain ⟨u, j2, e2, h⟩ := on_ok h
        cases h
        have := aEi_lt (aSi_lt k) _ _ _ e1
        have := (aMs_ok e2).2
        omega
      · split at h
        · cases h; omega
        · split at h
          · cases h; omega
          · exact aCm_lt i t j h
section CQI
variable {κ : oKv} {sz T n m len cnt : Nat} {kk pp ee f : Nat → Int32} {A : Nat → Nat} {nq ni : Int32} {rt : Value} {D : cDt} {cd : Nat} {cn : Int32} {nm : Nat → Option Nat}
/-- single at every depth -/
theorem c_sgl (hT : 2010 ≤ T) (hwl : ∀ j, j < cnt → wL pp ee j ≤ 10) : ∀ (k dp m : Nat), k + dp = 31 → 12 + 3 * k ≤ m → cCc κ sz T len cnt kk pp ee f A nq ni rt D cd cn nm 128 dp m (aSi kk T k) 22 165 := by
  intro k
  induction k with
  | zero =>
    intro dp m hk hm
    obtain ⟨m1, rfl⟩ : ∃ m1, m = m1 + 1 := ⟨m - 1, by omega⟩
    exact c_single hk (by omega) hT hwl (fun k' e => by omega) (fun k' e => by omega)
  | succ k IH =>
    intro dp m hk hm
    obtain ⟨m1, rfl⟩ : ∃ m1, m = m1 + 1 := ⟨m - 1, by omega⟩
    refine c_single hk (by omega) hT hwl (fun k' e => ?_) (fun k' e => ?_)
    · have e' : k' = k := by omega
      subst e'
      exact IH (dp + 1) m1 (by omega) (by omega)
    · have e' : k' = k := by omega
      subst e'
      obtain ⟨m2, rfl⟩ : ∃ m2, m1 = m2 + 2 := ⟨m1 - 2, by omega⟩
      rw [aEi_eq]
      exact c_either (by omega) hT (c_both (by omega) hT (IH (dp + 1) m2 (by omega) (by omega)) (aSi_lt k')) (aBo_lt (aSi_lt k'))
/-- either at every depth: a C -/
theorem c_cnd (hT : 2010 ≤ T) (hwl : ∀ j, j < cnt → wL pp ee j ≤ 10) {k dp m : Nat} (hk : k + dp = 31) (hm : 14 + 3 * k ≤ m) : cCc κ sz T len cnt kk pp ee f A nq ni rt D cd cn nm 127 dp m (aEi kk T (aSi kk T k)) 22 190 := by
  obtain ⟨m2, rfl⟩ : ∃ m2, m = m2 + 2 := ⟨m - 2, by omega⟩
  rw [aEi_eq]
  exact c_either (by omega) hT (c_both (by omega) hT (c_sgl hT hwl k dp m2 hk (by omega)) (aSi_lt k)) (aBo_lt (aSi_lt k))
end CQI
