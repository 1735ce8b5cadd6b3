/-! type(): a TEMPLATE's own NAMES -/
theorem kNj.bd {na : gN → Nat} : ∀ (y : tY) (m : gTm) {a b : Nat} (p : List Bool), kNj na y m a b → pUn y m.2.2.2.1.length p → a ≤ na (.inr (m.1, m.2.1 ++ p)) ∧ na (.inr (m.1, m.2.1 ++ p)) < b
  | .leaf, _, _, _, _, _, h => h.elim
  | .inner k x v ya yb, m, a, b, [], h, hp => by
    obtain ⟨c, c', h1, h2, h3, h4⟩ := h.2 hp.1
    have e : m.2.2.2.1 = [] := List.length_eq_zero_iff.mp hp.2
    have ep : mPn m = .inr (m.1, m.2.1) := by unfold mPn; rw [e]
    have := h1 e
    rw [ep] at this
    have := kNj.le _ _ h3
    have := kNj.le _ _ h4
    rw [List.append_nil]
    omega
  | .inner k x v ya yb, m, a, b, false :: p, h, hp => by
    obtain ⟨c, c', h1, h2, h3, h4⟩ := h.2 hp.1
    have := kNj.bd ya (mTk m) p h3 hp.2
    have e : (mTk m).2.1 ++ p = m.2.1 ++ false :: p := by show m.2.1 ++ [false] ++ p = _; rw [List.append_assoc]; rfl
    rw [e] at this
    have e1 : (mTk m).1 = m.1 := rfl
    rw [e1] at this
    have := kNj.le _ _ h4
    omega
  | .inner k x v ya yb, m, a, b, true :: p, h, hp => by
    obtain ⟨c, c', h1, h2, h3, h4⟩ := h.2 hp.1
    have := kNj.bd yb (mAn m) p h4 (by show pUn yb m.2.2.2.1.tail.length p; rw [List.length_tail]; exact hp.2)
    have e : (mAn m).2.1 ++ p = m.2.1 ++ true :: p := by show m.2.1 ++ [true] ++ p = _; rw [List.append_assoc]; rfl
    rw [e] at this
    have e1 : (mAn m).1 = m.1 := rfl
    rw [e1] at this
    have := kNj.le _ _ h3
    omega
theorem kNj.inj {na : gN → Nat} : ∀ (y : tY) (m : gTm) {a b : Nat} (p p' : List Bool), kNj na y m a b → pUn y m.2.2.2.1.length p → pUn y m.2.2.2.1.length p' → na (.inr (m.1, m.2.1 ++ p)) = na (.inr (m.1, m.2.1 ++ p')) → p = p'
  | .leaf, _, _, _, _, _, _, h, _, _ => h.elim
  | .inner k x v ya yb, m, a, b, p, p', h, hp, hp', e => by
    have k0 : k = 0 := by cases p with | nil => exact hp.1 | cons c p => cases c <;> exact hp.1
    obtain ⟨c, c', h1, h2, h3, h4⟩ := h.2 k0
    have z : ∀ q, q = [] → pUn (.inner k x v ya yb) m.2.2.2.1.length q → c ≤ na (.inr (m.1, m.2.1 ++ q)) ∧ na (.inr (m.1, m.2.1 ++ q)) < c' := fun q hq w => by
      subst hq
      have e : m.2.2.2.1 = [] := List.length_eq_zero_iff.mp w.2
      have ep : mPn m = .inr (m.1, m.2.1) := by unfold mPn; rw [e]
      have := h1 e
      rw [ep] at this
      rw [List.append_nil]
      exact this
    have lf : ∀ q, pUn ya 0 q → na (.inr (m.1, m.2.1 ++ false :: q)) < c := fun q w => by
      have := (kNj.bd ya (mTk m) q h3 w).2
      have e : (mTk m).2.1 ++ q = m.2.1 ++ false :: q := by show m.2.1 ++ [false] ++ q = _; rw [List.append_assoc]; rfl
      rw [e] at this
      exact this
    have rg : ∀ q, pUn yb (m.2.2.2.1.length - 1) q → c' ≤ na (.inr (m.1, m.2.1 ++ true :: q)) := fun q w => by
      have := (kNj.bd yb (mAn m) q h4 (by show pUn yb m.2.2.2.1.tail.length q; rw [List.length_tail]; exact w)).1
      have e : (mAn m).2.1 ++ q = m.2.1 ++ true :: q := by show m.2.1 ++ [true] ++ q = _; rw [List.append_assoc]; rfl
      rw [e] at this
      exact this
    match p, p', hp, hp', e with
    | [], [], _, _, _ => rfl
    | [], false :: q, hp, hp', e =>
      have := z [] rfl hp
      have := lf q hp'.2
      omega
    | [], true :: q, hp, hp', e =>
      have := z [] rfl hp
      have := rg q hp'.2
      omega
    | false :: q, [], hp, hp', e =>
      have := z [] rfl hp'
      have := lf q hp.2
      omega
    | true :: q, [], hp, hp', e =>
      have := z [] rfl hp'
      have := rg q hp.2
      omega
    | false :: q, true :: q', hp, hp', e =>
      have := lf q hp.2
      have := rg q' hp'.2
      omega
    | true :: q, false :: q', hp, hp', e =>
      have := rg q hp.2
      have := lf q' hp'.2
      omega
    | false :: q, false :: q', hp, hp', e =>
      rw [kNj.inj ya (mTk m) q q' h3 hp.2 hp'.2 (by
        show na (.inr (m.1, m.2.1 ++ [false] ++ q)) = na (.inr (m.1, m.2.1 ++ [false] ++ q'))
        rw [List.append_assoc, List.append_assoc]; exact e)]
    | true :: q, true :: q', hp, hp', e =>
      rw [kNj.inj yb (mAn m) q q' h4 (by show pUn yb m.2.2.2.1.tail.length q; rw [List.length_tail]; exact hp.2) (by show pUn yb m.2.2.2.1.tail.length q'; rw [List.length_tail]; exact hp'.2) (by
        show na (.inr (m.1, m.2.1 ++ [true] ++ q)) = na (.inr (m.1, m.2.1 ++ [true] ++ q'))
        rw [List.append_assoc, List.append_assoc]; exact e)]
section KNM
variable {st : Nat} {l : Nat → Nat} {b0 : Nat} {nq : tQ → Int} {xs : List tQ} {Ψ : kGh} {σG σ : oSt} {Q : Nat → Prop} {pa ph ta th : Nat} {Γ : uGm} {v : Nat → Nat} {τ : zSt}
theorem kTo.nm (hf : wFr Q pa ph ta th σG σ) : ∀ (y : tY) (m : gTm) (p : List Bool), kTo st l b0 nq xs Ψ σG y m → pUn y m.2.2.2.1.length p → ∃ gs, σ.1 (Ψ.1 (.inr (m.1, m.2.1 ++ p))) = some (.inr (6, gs)) ∧ gs[3]? = some (.int (cKd (yK (yL (pTy y p))))) ∧ gs[0]? = some .null
  | .leaf, _, _, _, h => h.elim
  | .inner k x w ya yb, m, p, h, hp => by
    have k0 : k = 0 := by cases p with | nil => exact hp.1 | cons c p => cases c <;> exact hp.1
    have h2 := h.2
    rw [if_pos k0] at h2
    obtain ⟨⟨⟨fs, gs, g1, -, g3, g4, g5⟩, g6⟩, ha, hb⟩ := h2
    match p, hp with
    | [], hp =>
      have e : m.2.2.2.1 = [] := List.length_eq_zero_iff.mp hp.2
      have ep : mPn m = .inr (m.1, m.2.1) := by unfold mPn; rw [e]
      rw [ep] at g3
      obtain ⟨gs', n1, n2, n3⟩ := hf.2.2.1 _ _ g3
      refine ⟨gs', by rw [List.append_nil]; exact n1, (n3 3 (by decide) (by decide)).trans g5.1, (n3 0 (by decide) (by decide)).trans (g5.2 e)⟩
    | false :: p, hp =>
      have := kTo.nm hf ya (mTk m) p ha hp.2
      have e : (mTk m).2.1 ++ p = m.2.1 ++ false :: p := by show m.2.1 ++ [false] ++ p = _; rw [List.append_assoc]; rfl
      rw [e] at this
      exact this
    | true :: p, hp =>
      have := kTo.nm hf yb (mAn m) p hb (by show pUn yb m.2.2.2.1.tail.length p; rw [List.length_tail]; exact hp.2)
      have e : (mAn m).2.1 ++ p = m.2.1 ++ true :: p := by show m.2.1 ++ [true] ++ p = _; rw [List.append_assoc]; rfl
      rw [e] at this
      exact this
theorem uTy.nm {A2 : List (gN × gTe)} : ∀ (y : tY) (m : gTm) (t : Nat) (p : List Bool), uTy Γ v τ y t (.inr m, A2) → pUn y m.2.2.2.1.length p → uNm Γ (.inr (m.1, m.2.1 ++ p)) ∧ Γ.2.2.2.2.1 (.inr (m.1, m.2.1 ++ p)) = yL (pTy y p)
  | .leaf, _, _, _, h, _ => h.elim
  | .inner k x w ya yb, m, t, p, h, hp => by
    have k0 : k = 0 := by cases p with | nil => exact hp.1 | cons c p => cases c <;> exact hp.1
    have h2 := h.2.2
    rw [if_pos k0] at h2
    obtain ⟨-, -, ⟨-, g1, g2⟩, tl, tr, -, -, ha, hb⟩ := h2
    match p, hp with
    | [], hp =>
      have e : m.2.2.2.1 = [] := List.length_eq_zero_iff.mp hp.2
      have ep : gPn (.inr m, A2) = .inr (m.1, m.2.1) := by show mPn m = _; unfold mPn; rw [e]
      rw [ep] at g1 g2
      rw [List.append_nil]
      exact ⟨g1, g2⟩
    | false :: p, hp =>
      have := uTy.nm ya (mTk m) tl p ha hp.2
      have e : (mTk m).2.1 ++ p = m.2.1 ++ false :: p := by show m.2.1 ++ [false] ++ p = _; rw [List.append_assoc]; rfl
      rw [e] at this
      exact this
    | true :: p, hp =>
      have := uTy.nm yb (mAn m) tr p hb (by show pUn yb m.2.2.2.1.tail.length p; rw [List.length_tail]; exact hp.2)
      have e : (mAn m).2.1 ++ p = m.2.1 ++ true :: p := by show m.2.1 ++ [true] ++ p = _; rw [List.append_assoc]; rfl
      rw [e] at this
      exact this
end KNM
/-- what is printed hangs on what the type's own places say -/
theorem tTy_sy {wd : Nat → List Int32} {bk : gN → Nat} {sy sy' : gTy → List gFc} : ∀ (y : tY) (A : gTy) (s : tPs), (∀ X, sbT y A X → sy X = sy' X) → y ≠ .leaf → yW y → tTy wd bk sy y A s = tTy wd bk sy' y A s
  | .leaf, _, _, _, h, _ => absurd rfl h
  | .inner k x v a b, A, s, h, _, hw => by
    unfold tTy
    unfold yW at hw
    by_cases c : k = 0
    · rw [if_pos c] at hw
      have na : a ≠ .leaf := fun z => by rw [z] at hw; exact hw.1
      have nb : b ≠ .leaf := fun z => by rw [z] at hw; exact hw.2
      have Ia := fun s' => tTy_sy (wd := wd) (bk := bk) a (gTk A) s' (fun X hX => h X (Or.inr ⟨c, Or.inl hX⟩)) na hw.1
      have Ib := fun s' => tTy_sy (wd := wd) (bk := bk) b (gAn A) s' (fun X hX => h X (Or.inr ⟨c, Or.inr hX⟩)) nb hw.2
      rw [if_pos c, if_pos c]
      by_cases ca : yK a = 1
      · simp only [if_pos ca, Ia, Ib]
      · simp only [if_neg ca, Ia, Ib]
    · rw [if_neg c, if_neg c, h A (Or.inl rfl)]
