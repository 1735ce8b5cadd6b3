/-! weakenAll(): lastChange() -/
/-- when a Known was changed -/
def chG (σ : oSt) (w : Nat) : Int32 := (ovi (ofd σ (some w) 4 8)).getD 0
/-- a Scope, as lastChange() goes through it: the origins that it sees -/
def lcS (σ : oSt) : List sEn → Option Nat → List Nat → Prop
  | [], s, Ws => s = none ∧ Ws = []
  | .inl a :: r, s, Ws => ∃ q ou fs k gs w hs v Ws', (s = some q ∧ σ.1 q = some (.inr (10, [.ref a, va_rf none, .int 0, va_rf ou]))) ∧ (σ.1 a = some (.inr (6, fs)) ∧ fs[4]? = some (.ref k)) ∧ (σ.1 k = some (.inr (4, gs)) ∧ gs[1]? = some (.ref w)) ∧ (σ.1 w = some (.inr (4, hs)) ∧ hs[8]? = some (.int v)) ∧ Ws = w :: Ws' ∧ lcS σ r ou Ws'
  | .inr (m, h) :: r, s, Ws => ∃ q ou, (s = some q ∧ σ.1 q = some (.inr (10, [va_rf none, .ref m, .int (b01 h), va_rf ou]))) ∧ lcS σ r ou Ws
section LCH
variable {κ : oKv} {T n : Nat} {call : oCl} {σ : oSt}
theorem chG_at {w : Nat} {hs : List Value} {v : Int32} (h : σ.1 w = some (.inr (4, hs))) (h8 : hs[8]? = some (.int v)) : chG σ w = v := by
  unfold chG
  rw [ofd_at h, h8]; rfl
theorem mx_ge (x v : Int32) : x.toInt ≤ (if x < v then v else x).toInt ∧ v.toInt ≤ (if x < v then v else x).toInt := by
  by_cases c : x < v
  · rw [if_pos c]
    rw [Int32.lt_iff_toInt_lt] at c
    omega
  · rw [if_neg c]
    rw [Int32.lt_iff_toInt_lt] at c
    omega
/-- **lastChange()'s loop** -/
theorem c_lc30 : ∀ (Sc : List sEn) (s : Option Nat) (Ws : List Nat) (t : Nat) (x : Int32), lcS σ Sc s Ws → Sc.length < t → ∃ v, ol_X0_lastChange_30 n call κ t x s σ = some (some (.int v), σ) ∧ x.toInt ≤ v.toInt ∧ ∀ w, w ∈ Ws → (chG σ w).toInt ≤ v.toInt
  | [], s, Ws, t, x, ⟨h1, h2⟩, ht => by
    obtain ⟨t, rfl⟩ : ∃ t', t = t' + 1 := ⟨t - 1, by omega⟩
    refine ⟨x, ?_, Int.le_refl _, fun w hw => by rw [h2] at hw; cases hw⟩
    rw [ol_X0_lastChange_30, if_pos h1]
  | .inl a :: r, s, Ws, t, x, ⟨q, ou, fs, k, gs, w, hs, v, Ws', ⟨h1, h2⟩, ⟨h3, h4⟩, ⟨h5, h6⟩, ⟨h7, h8⟩, h9, h10⟩, ht => by
    obtain ⟨t, rfl⟩ : ∃ t', t = t' + 1 := ⟨t - 1, by omega⟩
    obtain ⟨v', i1, i2, i3⟩ := c_lc30 r ou Ws' t (if x < v then v else x) h10 (by have : r.length + 1 < t + 1 := ht; omega)
    have m := mx_ge x v
    refine ⟨v', ?_, by omega, fun y hy => ?_⟩
    · have e0 : ovr (ofd σ s 10 0) = some (some a) := by
        rw [h1, ofd_at h2]; rfl
      have e3 : ovr (ofd σ s 10 3) = some ou := by
        rw [h1, ofd_at h2]
        show ovr (some (va_rf ou)) = _
        cases ou <;> rfl
      have e4 : ovr (ofd σ (some a) 6 4) = some (some k) := by
        rw [ofd_at h3, h4]; rfl
      have e5 : ovr (ofd σ (some k) 4 1) = some (some w) := by
        rw [ofd_at h5, h6]; rfl
      have e6 : ovi (ofd σ (some w) 4 8) = some v := by
        rw [ofd_at h7, h8]; rfl
      rw [ol_X0_lastChange_30, if_neg (by rw [h1]; exact fun z => by cases z), e0, obn_at, if_neg (fun z => by cases z), obn_at, e4, obn_at, if_neg (fun z => by cases z), obn_at, e4, obn_at, e5, obn_at, e6, obn_at]
      unfold oj_X0_lastChange_69
      rw [e3, obn_at]
      exact i1
    · rw [h9] at hy
      rcases List.mem_cons.mp hy with z | z
      · rw [z, chG_at h7 h8]; omega
      · exact i3 y z
  | .inr (m, h) :: r, s, Ws, t, x, ⟨q, ou, ⟨h1, h2⟩, h10⟩, ht => by
    obtain ⟨t, rfl⟩ : ∃ t', t = t' + 1 := ⟨t - 1, by omega⟩
    obtain ⟨v', i1, i2, i3⟩ := c_lc30 r ou Ws t x h10 (by have : r.length + 1 < t + 1 := ht; omega)
    refine ⟨v', ?_, i2, i3⟩
    have e0 : ovr (ofd σ s 10 0) = some none := by
      rw [h1, ofd_at h2]; rfl
    have e3 : ovr (ofd σ s 10 3) = some ou := by
      rw [h1, ofd_at h2]
      show ovr (some (va_rf ou)) = _
      cases ou <;> rfl
    rw [ol_X0_lastChange_30, if_neg (by rw [h1]; exact fun z => by cases z), e0, obn_at, if_pos rfl]
    unfold oj_X0_lastChange_69
    rw [e3, obn_at]
    exact i1
end LCH
