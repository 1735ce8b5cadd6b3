/-! numbers of a TEMPLATE's NAMES and CASES by their paths -/
/-- the type at a path -/
def pTy : tY → List Bool → tY
  | y, [] => y
  | y, false :: p => pTy (yL y) p
  | y, true :: p => pTy (yR y) p
/-- a parameter without a NAME stands there; a CASE -/
def pUn : tY → Nat → List Bool → Prop
  | .leaf, _, _ => False
  | .inner k _ _ _ _, q, [] => k = 0 ∧ q = 0
  | .inner k _ _ l _, _, false :: p => k = 0 ∧ pUn l 0 p
  | .inner k _ _ _ r, q, true :: p => k = 0 ∧ pUn r (q - 1) p
def pLe : tY → List Bool → Prop
  | .leaf, _ => False
  | .inner k _ _ _ _, [] => k ≠ 0 ∧ k ≠ 2
  | .inner k _ _ l _, false :: p => k = 0 ∧ pLe l p
  | .inner k _ _ _ r, true :: p => k = 0 ∧ pLe r p
/-- their numbers -/
def pFz : tY → Nat → List Bool → Nat
  | .leaf, _, _ => 0
  | .inner _ _ _ _ _, _, [] => 0
  | .inner _ _ _ l _, q, false :: p => (if q = 0 then 1 else 0) + pFz l 0 p
  | .inner _ _ _ l r, q, true :: p => (if q = 0 then 1 else 0) + yFz l 0 + pFz r (q - 1) p
def pLf : tY → List Bool → Nat
  | .leaf, _ => 0
  | .inner _ _ _ _ _, [] => 0
  | .inner _ _ _ l _, false :: p => pLf l p
  | .inner _ _ _ l r, true :: p => yLs l + pLf r p
/-- types of parameters that have a NAME -/
def pNa : tY → Nat → tY
  | y, 0 => yL y
  | y, i + 1 => pNa (yR y) i
section MOF
variable {Γ : uGm}
theorem mOk_of : ∀ (y : tY) (m : gTm) (fb cb : Nat), (∀ p, pUn y m.2.2.2.1.length p → uNm Γ (.inr (m.1, m.2.1 ++ p)) ∧ Γ.2.2.2.2.1 (.inr (m.1, m.2.1 ++ p)) = yL (pTy y p) ∧ Γ.1 (.inr (m.1, m.2.1 ++ p)) = 700 + (fb + pFz y m.2.2.2.1.length p)) → (∀ p, pLe y p → Γ.2.1 (m.1, m.2.1 ++ p) = cb + pLf y p) → (∀ i w, m.2.2.2.1[i]? = some w → uNm Γ (.inl w) ∧ Γ.2.2.2.2.1 (.inl w) = pNa y i) → mOk Γ y m fb cb
  | .leaf, _, _, _, _, _, _ => trivial
  | .inner k _ _ l r, m, fb, cb, h1, h2, h3 => by
    by_cases z : k = 0
    · show if k = 0 then _ else _
      rw [if_pos z]
      refine ⟨?_, mOk_of l (mTk m) _ cb (fun p hp => ?_) (fun p hp => ?_) (fun i w e => by cases e), mOk_of r (mAn m) _ _ (fun p hp => ?_) (fun p hp => ?_) (fun i w e => ?_)⟩
      · cases e : m.2.2.2.1 with
        | nil =>
          have ep : mPn m = .inr (m.1, m.2.1) := by unfold mPn; rw [e]
          rw [ep]
          have := h1 [] (by rw [e]; exact ⟨z, rfl⟩)
          rw [List.append_nil] at this
          exact ⟨this.1, this.2.1, fun _ => this.2.2⟩
        | cons w ns =>
          have ep : mPn m = .inl w := by unfold mPn; rw [e]
          rw [ep]
          have := h3 0 w (by rw [e]; rfl)
          exact ⟨this.1, this.2, fun q => by cases q⟩
      · have := h1 (false :: p) ⟨z, hp⟩
        rw [show m.2.1 ++ false :: p = (m.2.1 ++ [false]) ++ p by rw [List.append_assoc]; rfl] at this
        refine ⟨this.1, this.2.1, ?_⟩
        have e3 := this.2.2
        have ef : pFz (.inner k () () l r) m.2.2.2.1.length (false :: p) = (if m.2.2.2.1.length = 0 then 1 else 0) + pFz l 0 p := rfl
        rw [ef] at e3
        show Γ.1 (.inr (m.1, m.2.1 ++ [false] ++ p)) = 700 + (fb + (if m.2.2.2.1.length = 0 then 1 else 0) + pFz l 0 p)
        omega
      · have := h2 (false :: p) ⟨z, hp⟩
        rw [show m.2.1 ++ false :: p = (m.2.1 ++ [false]) ++ p by rw [List.append_assoc]; rfl] at this
        exact this
      · have el : (mAn m).2.2.2.1.length = m.2.2.2.1.length - 1 := by show m.2.2.2.1.tail.length = _; rw [List.length_tail]
        rw [el] at hp ⊢
        have := h1 (true :: p) ⟨z, hp⟩
        rw [show m.2.1 ++ true :: p = (m.2.1 ++ [true]) ++ p by rw [List.append_assoc]; rfl] at this
        refine ⟨this.1, this.2.1, ?_⟩
        have e3 := this.2.2
        have ef : pFz (.inner k () () l r) m.2.2.2.1.length (true :: p) = (if m.2.2.2.1.length = 0 then 1 else 0) + yFz l 0 + pFz r (m.2.2.2.1.length - 1) p := rfl
        rw [ef] at e3
        show Γ.1 (.inr (m.1, m.2.1 ++ [true] ++ p)) = 700 + (fb + (if m.2.2.2.1.length = 0 then 1 else 0) + yFz l 0 + pFz r (m.2.2.2.1.length - 1) p)
        omega
      · have := h2 (true :: p) ⟨z, hp⟩
        rw [show m.2.1 ++ true :: p = (m.2.1 ++ [true]) ++ p by rw [List.append_assoc]; rfl] at this
        have ef : pLf (.inner k () () l r) (true :: p) = yLs l + pLf r p := rfl
        rw [ef] at this
        show Γ.2.1 (m.1, m.2.1 ++ [true] ++ p) = cb + yLs l + pLf r p
        omega
      · have e : m.2.2.2.1.tail[i]? = some w := e
        rw [List.getElem?_tail] at e
        exact h3 (i + 1) w e
    · show if k = 0 then _ else _
      rw [if_neg z]
      intro z2
      have := h2 [] ⟨z, z2⟩
      rw [List.append_nil] at this
      exact this
/-- numbers of one TEMPLATE are below what it takes, and all different -/
theorem pFz_lt : ∀ (y : tY) (q : Nat) (p : List Bool), pUn y q p → pFz y q p < yFz y q
  | .leaf, _, _, h => False.elim h
  | .inner k _ _ l r, q, [], h => by
    obtain ⟨h1, h2⟩ : k = 0 ∧ q = 0 := h
    subst h1 h2
    show 0 < 1 + yFz l 0 + yFz r (0 - 1)
    omega
  | .inner k _ _ l r, q, false :: p, h => by
    obtain ⟨h1, h2⟩ : k = 0 ∧ pUn l 0 p := h
    subst h1
    have := pFz_lt l 0 p h2
    show (if q = 0 then 1 else 0) + pFz l 0 p < (if q = 0 then 1 else 0) + yFz l 0 + yFz r (q - 1)
    omega
  | .inner k _ _ l r, q, true :: p, h => by
    obtain ⟨h1, h2⟩ : k = 0 ∧ pUn r (q - 1) p := h
    subst h1
    have := pFz_lt r (q - 1) p h2
    show (if q = 0 then 1 else 0) + yFz l 0 + pFz r (q - 1) p < (if q = 0 then 1 else 0) + yFz l 0 + yFz r (q - 1)
    omega
theorem pFz_inj : ∀ (y : tY) (q : Nat) (p p' : List Bool), pUn y q p → pUn y q p' → pFz y q p = pFz y q p' → p = p'
  | .leaf, _, _, _, h, _, _ => False.elim h
  | .inner k _ _ l r, q, p, p', h, h', e => by
    have v0 : ∀ p, pFz (.inner k () () l r) q (false :: p) = (if q = 0 then 1 else 0) + pFz l 0 p := fun _ => rfl
    have v1 : ∀ p, pFz (.inner k () () l r) q (true :: p) = (if q = 0 then 1 else 0) + yFz l 0 + pFz r (q - 1) p := fun _ => rfl
    have vn : pFz (.inner k () () l r) q [] = 0 := rfl
    have un : ∀ p, pUn (.inner k () () l r) q (false :: p) → pUn l 0 p := fun p h => h.2
    have ut : ∀ p, pUn (.inner k () () l r) q (true :: p) → pUn r (q - 1) p := fun p h => h.2
    match p, p', h, h', e with
    | [], [], _, _, _ => rfl
    | [], false :: p', h, h', e => rw [vn, v0, if_pos h.2] at e; omega
    | [], true :: p', h, h', e => rw [vn, v1, if_pos h.2] at e; omega
    | false :: p, [], h, h', e => rw [vn, v0, if_pos h'.2] at e; omega
    | true :: p, [], h, h', e => rw [vn, v1, if_pos h'.2] at e; omega
    | false :: p, false :: p', h, h', e =>
      rw [v0, v0] at e
      rw [pFz_inj l 0 p p' (un p h) (un p' h') (by omega)]
    | true :: p, true :: p', h, h', e =>
      rw [v1, v1] at e
      rw [pFz_inj r (q - 1) p p' (ut p h) (ut p' h') (by omega)]
    | false :: p, true :: p', h, h', e =>
      rw [v0, v1] at e
      have := pFz_lt l 0 p (un p h)
      omega
    | true :: p, false :: p', h, h', e =>
      rw [v0, v1] at e
      have := pFz_lt l 0 p' (un p' h')
      omega
end MOF
