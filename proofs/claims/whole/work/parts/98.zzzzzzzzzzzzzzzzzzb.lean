/-! TEMPLATES' places and their numbers -/
/-- only functions have parts -/
def yPr : tY → Prop
  | .leaf => True
  | .inner k _ _ l r => if k = 0 then yPr l ∧ yPr r else l = .leaf ∧ r = .leaf
section MGP
variable {Γ : uGm} {rt : Nat → gTm}
theorem mGo_ty : ∀ (p : List Bool) (m : gTm), (mGo m p).2.2.1 = pTy m.2.2.1 p
  | [], _ => rfl
  | false :: p, m => mGo_ty p (mTk m)
  | true :: p, m => mGo_ty p (mAn m)
theorem mGo_1 : ∀ (p : List Bool) (m : gTm), (mGo m p).1 = m.1 ∧ (mGo m p).2.1 = m.2.1 ++ p
  | [], m => ⟨rfl, (List.append_nil _).symm⟩
  | false :: p, m => by
    obtain ⟨a, b⟩ := mGo_1 p (mTk m)
    refine ⟨a, b.trans ?_⟩
    show (m.2.1 ++ [false]) ++ p = m.2.1 ++ (false :: p)
    rw [List.append_assoc]; rfl
  | true :: p, m => by
    obtain ⟨a, b⟩ := mGo_1 p (mAn m)
    refine ⟨a, b.trans ?_⟩
    show (m.2.1 ++ [true]) ++ p = m.2.1 ++ (true :: p)
    rw [List.append_assoc]; rfl
theorem mGo_ns : ∀ (p : List Bool) (m : gTm) (w : Nat), w ∈ (mGo m p).2.2.2.1 → w ∈ m.2.2.2.1
  | [], _, _, h => h
  | false :: p, m, w, h => by
    have := mGo_ns p (mTk m) w h
    cases this
  | true :: p, m, w, h => List.mem_of_mem_tail (mGo_ns p (mAn m) w h)
theorem pTy_lf : ∀ p : List Bool, pTy .leaf p = .leaf
  | [] => rfl
  | false :: p => pTy_lf p
  | true :: p => pTy_lf p
theorem mGo_un : ∀ (p : List Bool) (m : gTm), yPr m.2.2.1 → yK (pTy m.2.2.1 p) = 1 → (mGo m p).2.2.2.1 = [] → pUn m.2.2.1 m.2.2.2.1.length p := by
  intro p
  induction p with
  | nil =>
    intro m _ h hn
    obtain ⟨l, r, e⟩ := yK_1 h
    have e : m.2.2.1 = .inner 0 () () l r := e
    have hn : m.2.2.2.1 = [] := hn
    rw [e, hn]
    exact ⟨rfl, rfl⟩
  | cons b p ih =>
    intro m hp h hn
    cases ey : m.2.2.1 with
    | leaf => rw [ey, pTy_lf] at h; cases h
    | inner k x1 x2 l r =>
      rw [ey] at hp h
      by_cases z : k = 0
      · have hp : yPr l ∧ yPr r := by unfold yPr at hp; rw [if_pos z] at hp; exact hp
        cases b with
        | false =>
          have := ih (mTk m) (by show yPr (yL m.2.2.1); rw [ey]; exact hp.1) (by show yK (pTy (yL m.2.2.1) p) = 1; rw [ey]; exact h) hn
          refine ⟨z, ?_⟩
          have this : pUn (yL m.2.2.1) 0 p := this
          rw [ey] at this
          exact this
        | true =>
          have := ih (mAn m) (by show yPr (yR m.2.2.1); rw [ey]; exact hp.2) (by show yK (pTy (yR m.2.2.1) p) = 1; rw [ey]; exact h) hn
          refine ⟨z, ?_⟩
          have this : pUn (yR m.2.2.1) m.2.2.2.1.tail.length p := this
          rw [ey, List.length_tail] at this
          exact this
      · have hp : l = .leaf ∧ r = .leaf := by unfold yPr at hp; rw [if_neg z] at hp; exact hp
        cases b with
        | false => rw [show pTy (.inner k x1 x2 l r) (false :: p) = pTy l p from rfl, hp.1, pTy_lf] at h; cases h
        | true => rw [show pTy (.inner k x1 x2 l r) (true :: p) = pTy r p from rfl, hp.2, pTy_lf] at h; cases h
theorem mGo_le : ∀ (p : List Bool) (y : tY), yPr y → gMs (pTy y p) = true → pLe y p := by
  intro p
  induction p with
  | nil =>
    intro y _ h
    match y, h with
    | .leaf, h => cases h
    | .inner k x1 x2 l r, h =>
      have h : (k + 1 == 2 || k + 1 == 4 || k + 1 == 5) = true := h
      simp only [Bool.or_eq_true, beq_iff_eq] at h
      exact ⟨by omega, by omega⟩
  | cons b p ih =>
    intro y hp h
    cases y with
    | leaf => rw [pTy_lf] at h; cases h
    | inner k x1 x2 l r =>
      by_cases z : k = 0
      · have hp : yPr l ∧ yPr r := by unfold yPr at hp; rw [if_pos z] at hp; exact hp
        cases b with
        | false => exact ⟨z, ih l hp.1 h⟩
        | true => exact ⟨z, ih r hp.2 h⟩
      · have hp : l = .leaf ∧ r = .leaf := by unfold yPr at hp; rw [if_neg z] at hp; exact hp
        cases b with
        | false => rw [show pTy (.inner k x1 x2 l r) (false :: p) = pTy l p from rfl, hp.1, pTy_lf] at h; cases h
        | true => rw [show pTy (.inner k x1 x2 l r) (true :: p) = pTy r p from rfl, hp.2, pTy_lf] at h; cases h
/-- parameters have numbers -/
theorem rtQ_of (h0 : ∀ k, (rt k).1 = k ∧ (rt k).2.1 = [] ∧ yPr (rt k).2.2.1) (hL : ∀ k w, w ∈ (rt k).2.2.2.1 → uNm Γ (.inl w)) (hU : ∀ k p, pUn (rt k).2.2.1 (rt k).2.2.2.1.length p → uNm Γ (.inr (k, p))) : rtQ Γ rt := by
  intro k p hk
  obtain ⟨a1, a2, a3⟩ := h0 k
  obtain ⟨b1, b2⟩ := mGo_1 p (rt k)
  rw [mGo_ty] at hk
  unfold mPn
  cases e : (mGo (rt k) p).2.2.2.1 with
  | nil =>
    show uNm Γ (.inr ((mGo (rt k) p).1, (mGo (rt k) p).2.1))
    rw [b1, b2, a1, a2, List.nil_append]
    exact hU k p (mGo_un p (rt k) a3 hk e)
  | cons w r => exact hL k w (mGo_ns p (rt k) w (by rw [e]; exact List.mem_cons_self ..))
theorem pLf_lt : ∀ (y : tY) (p : List Bool), pLe y p → pLf y p < yLs y
  | .leaf, _, h => False.elim h
  | .inner k _ _ l r, [], h => by
    unfold yLs pLf
    rw [if_neg h.1, if_neg h.2]
    exact Nat.one_pos
  | .inner k _ _ l r, false :: p, h => by
    have := pLf_lt l p h.2
    unfold yLs
    rw [if_pos h.1]
    show pLf l p < _
    omega
  | .inner k _ _ l r, true :: p, h => by
    have := pLf_lt r p h.2
    unfold yLs
    rw [if_pos h.1]
    show yLs l + pLf r p < _
    omega
theorem pLf_inj : ∀ (y : tY) (p p' : List Bool), pLe y p → pLe y p' → pLf y p = pLf y p' → p = p'
  | .leaf, _, _, h, _, _ => False.elim h
  | .inner k _ _ l r, [], [], _, _, _ => rfl
  | .inner k _ _ l r, [], false :: p, h, h', _ => absurd h'.1 h.1
  | .inner k _ _ l r, [], true :: p, h, h', _ => absurd h'.1 h.1
  | .inner k _ _ l r, false :: p, [], h, h', _ => absurd h.1 h'.1
  | .inner k _ _ l r, true :: p, [], h, h', _ => absurd h.1 h'.1
  | .inner k _ _ l r, false :: p, false :: p', h, h', e => by rw [pLf_inj l p p' h.2 h'.2 e]
  | .inner k _ _ l r, true :: p, true :: p', h, h', e => by
    have e : yLs l + pLf r p = yLs l + pLf r p' := e
    rw [pLf_inj r p p' h.2 h'.2 (by omega)]
  | .inner k _ _ l r, false :: p, true :: p', h, h', e => by
    have e : pLf l p = yLs l + pLf r p' := e
    have := pLf_lt l p h.2
    omega
  | .inner k _ _ l r, true :: p, false :: p', h, h', e => by
    have e : yLs l + pLf r p = pLf l p' := e
    have := pLf_lt l p' h'.2
    omega
/-- CASES have numbers of their own -/
theorem rtI_of (h0 : ∀ k, yPr (rt k).2.2.1) (cb : Nat → Nat) (hn : ∀ k p, pLe (rt k).2.2.1 p → Γ.2.1 (k, p) = cb k + pLf (rt k).2.2.1 p) (hd : ∀ k k', k ≠ k' → yLs (rt k).2.2.1 ≠ 0 → yLs (rt k').2.2.1 ≠ 0 → cb k + yLs (rt k).2.2.1 ≤ cb k' ∨ cb k' + yLs (rt k').2.2.1 ≤ cb k) : rtI Γ rt := by
  rintro ⟨k, p⟩ ⟨k', p'⟩ h h' e
  dsimp only at h h'
  rw [mGo_ty] at h h'
  have l1 := mGo_le p _ (h0 k) h
  have l2 := mGo_le p' _ (h0 k') h'
  have t1 := pLf_lt _ _ l1
  have t2 := pLf_lt _ _ l2
  rw [hn k p l1, hn k' p' l2] at e
  by_cases z : k = k'
  · subst z
    rw [pLf_inj _ p p' l1 l2 (by omega)]
  · rcases hd k k' z (by omega) (by omega) with w | w <;> omega
end MGP
