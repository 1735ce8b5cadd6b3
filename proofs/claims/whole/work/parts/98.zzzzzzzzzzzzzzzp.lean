/-! numbers of NAMES and CASES: there are such -/
/-- a TEMPLATE by its key: type, NAMES, where its numbers begin -/
def bFi : List (Nat × tY × List Nat) → Nat → Nat → Nat → Option (tY × List Nat × Nat × Nat)
  | [], _, _, _ => none
  | x :: r, fb, cb, key => if x.1 = key then some (x.2.1, x.2.2, fb, cb) else bFi r (fb + yFz x.2.1 x.2.2.length) (cb + yLs x.2.1) key
section BFI
theorem bFi_rg : ∀ (l : List (Nat × tY × List Nat)) (fb cb key : Nat) (e : tY × List Nat × Nat × Nat), bFi l fb cb key = some e → fb ≤ e.2.2.1 ∧ e.2.2.1 + yFz e.1 e.2.1.length ≤ fb + lsF l ∧ (key, e.1, e.2.1) ∈ l
  | [], _, _, _, _, h => by cases h
  | x :: r, fb, cb, key, e, h => by
    unfold bFi at h
    rw [lsF_c]
    by_cases c : x.1 = key
    · rw [if_pos c] at h
      injection h with h
      subst h
      refine ⟨Nat.le_refl _, ?_, ?_⟩
      · show fb + yFz x.2.1 x.2.2.length ≤ _
        omega
      · rw [← c]
        exact List.mem_cons_self ..
    · rw [if_neg c] at h
      obtain ⟨h1, h2, h3⟩ := bFi_rg r _ _ key e h
      exact ⟨by omega, by omega, List.mem_cons_of_mem _ h3⟩
theorem bFi_dj : ∀ (l : List (Nat × tY × List Nat)) (fb cb key key' : Nat) (e e' : tY × List Nat × Nat × Nat), key ≠ key' → bFi l fb cb key = some e → bFi l fb cb key' = some e' → e.2.2.1 + yFz e.1 e.2.1.length ≤ e'.2.2.1 ∨ e'.2.2.1 + yFz e'.1 e'.2.1.length ≤ e.2.2.1
  | [], _, _, _, _, _, _, _, h, _ => by cases h
  | x :: r, fb, cb, key, key', e, e', hk, h, h' => by
    unfold bFi at h h'
    by_cases c : x.1 = key
    · rw [if_pos c] at h
      rw [if_neg (fun z => hk (c.symm.trans z))] at h'
      injection h with h
      subst h
      left
      exact (bFi_rg r _ _ key' e' h').1
    · rw [if_neg c] at h
      by_cases c' : x.1 = key'
      · rw [if_pos c'] at h'
        injection h' with h'
        subst h'
        right
        exact (bFi_rg r _ _ key e h).1
      · rw [if_neg c'] at h'
        exact bFi_dj r _ _ key key' e e' hk h h'
theorem lOk_of {Γ : uGm} : ∀ (l : List (Nat × tY × List Nat)) (fb cb : Nat), (l.map Prod.fst).Nodup → (∀ key e, bFi l fb cb key = some e → mOk Γ e.1 (key, [], e.1, e.2.1, []) e.2.2.1 e.2.2.2) → lOk Γ l fb cb
  | [], _, _, _, _ => trivial
  | x :: r, fb, cb, hn, h => by
    rw [List.map_cons] at hn
    obtain ⟨n1, n2⟩ := List.nodup_cons.mp hn
    refine ⟨?_, lOk_of r _ _ n2 (fun key e he => h key e ?_)⟩
    · exact h x.1 (x.2.1, x.2.2, fb, cb) (by unfold bFi; rw [if_pos rfl])
    · unfold bFi
      rw [if_neg (fun z => n1 (by rw [z]; exact List.mem_map.mpr ⟨_, (bFi_rg r _ _ key e he).2.2, rfl⟩))]
      exact he
end BFI
/-- numbers of NAMES -/
def nuG (R : Nat → Int32) (l : List (Nat × tY × List Nat)) : gN → Nat
  | .inl w => nuO R w
  | .inr (key, p) => match bFi l 0 0 key with
    | none => 0
    | some e => 700 + (e.2.2.1 + pFz e.1 e.2.1.length p)
/-- NAMES that there are -/
def vaG (L : List Nat) (l : List (Nat × tY × List Nat)) : gN → Prop
  | .inl w => w ∈ L
  | .inr (key, p) => ∃ e, bFi l 0 0 key = some e ∧ pUn e.1 e.2.1.length p
section GAM
variable {R : Nat → Int32} {L : List Nat} {l : List (Nat × tY × List Nat)} {tN : Nat → tY}
theorem nuG_r {key : Nat} {p : List Bool} {e : tY × List Nat × Nat × Nat} (h : bFi l 0 0 key = some e) : nuG R l (.inr (key, p)) = 700 + (e.2.2.1 + pFz e.1 e.2.1.length p) := by
  show (match bFi l 0 0 key with | none => 0 | some e => 700 + (e.2.2.1 + pFz e.1 e.2.1.length p)) = _
  rw [h]
theorem nuG_inj (hN : rNu R L) : ∀ x y : gN, vaG L l x → vaG L l y → nuG R l x = nuG R l y → x = y
  | .inl w, .inl w', h, h', e => by rw [hN.inj w w' h h' e]
  | .inl w, .inr (key, p), h, h', e => by
    obtain ⟨e1, h1, h2⟩ := h'
    rw [nuG_r h1] at e
    have := (hN.at (show w ∈ L from h)).2.2
    have e : nuO R w = _ := e
    omega
  | .inr (key, p), .inl w, h, h', e => by
    obtain ⟨e1, h1, h2⟩ := h
    rw [nuG_r h1] at e
    have := (hN.at (show w ∈ L from h')).2.2
    have e : _ = nuO R w := e
    omega
  | .inr (key, p), .inr (key', p'), h, h', e => by
    obtain ⟨e1, h1, h2⟩ := h
    obtain ⟨e2, h3, h4⟩ := h'
    rw [nuG_r h1, nuG_r h3] at e
    have b1 := pFz_lt _ _ _ h2
    have b2 := pFz_lt _ _ _ h4
    by_cases c : key = key'
    · subst c
      rw [h1] at h3
      injection h3 with h3
      subst h3
      rw [pFz_inj _ _ _ _ h2 h4 (by omega)]
    · rcases bFi_dj l 0 0 key key' e1 e2 c h1 h3 with d | d
      · omega
      · omega
/-- which NAME a number is -/
theorem inv_ex (hN : rNu R L) : ∃ inv : Nat → gN, ∀ x, vaG L l x → inv (nuG R l x) = x := by
  refine ⟨fun n => @Classical.epsilon gN ⟨.inl 0⟩ (fun x => vaG L l x ∧ nuG R l x = n), fun x hx => ?_⟩
  have := @Classical.epsilon_spec gN (fun x' => vaG L l x' ∧ nuG R l x' = nuG R l x) ⟨x, hx, rfl⟩
  exact nuG_inj hN _ _ this.1 hx this.2
/-- **Gamma** -/
def gaM (R : Nat → Int32) (l : List (Nat × tY × List Nat)) (tN : Nat → tY) (nq : tQ → Int) (xs : List tQ) (inv : Nat → gN) : uGm := (nuG R l, fun k => (match bFi l 0 0 k.1 with | none => 0 | some e => e.2.2.2 + pLf e.1 k.2), nq, xs, fun x => (match x with | .inl w => tN w | .inr (key, p) => match bFi l 0 0 key with | none => (.leaf : tY) | some e => yL (pTy e.1 p)), inv)
theorem gaM_nm {nq : tQ → Int} {xs : List tQ} {inv : Nat → gN} (hi : ∀ x, vaG L l x → inv (nuG R l x) = x) (hN : rNu R L) (hl : lsF l ≤ 800) (x : gN) (hx : vaG L l x) : uNm (gaM R l tN nq xs inv) x := by
  refine ⟨?_, hi x hx⟩
  show nuG R l x < 1500
  match x, hx with
  | .inl w, hx => have := (hN.at (show w ∈ L from hx)).2.2; show nuO R w < 1500; omega
  | .inr (key, p), hx =>
    obtain ⟨e1, h1, h2⟩ := hx
    rw [nuG_r h1]
    have := pFz_lt _ _ _ h2
    have := (bFi_rg l 0 0 key e1 h1).2.1
    omega
/-- its numbers are those that the reference gives -/
theorem gaM_ok {nq : tQ → Int} {xs : List tQ} {inv : Nat → gN} (hi : ∀ x, vaG L l x → inv (nuG R l x) = x) (hN : rNu R L) (hl : lsF l ≤ 800) (hn : (l.map Prod.fst).Nodup) (hP : ∀ x, x ∈ l → ∀ i w, x.2.2[i]? = some w → w ∈ L ∧ tN w = pNa x.2.1 i) : lOk (gaM R l tN nq xs inv) l 0 0 := by
  refine lOk_of l 0 0 hn (fun key e he => mOk_of e.1 _ _ _ (fun p hp => ?_) (fun p hp => ?_) (fun i w ei => ?_))
  · have va : vaG L l (.inr (key, p)) := ⟨e, he, hp⟩
    refine ⟨gaM_nm hi hN hl _ va, ?_, ?_⟩
    · show (match bFi l 0 0 key with | none => (.leaf : tY) | some e => yL (pTy e.1 p)) = _
      rw [he]
    · show nuG R l (.inr (key, p)) = _
      rw [nuG_r he]
  · show (match bFi l 0 0 key with | none => 0 | some e => e.2.2.2 + pLf e.1 p) = _
    rw [he]
  · obtain ⟨-, -, hm⟩ := bFi_rg l 0 0 key e he
    obtain ⟨h1, h2⟩ := hP _ hm i w ei
    exact ⟨gaM_nm hi hN hl _ h1, h2⟩
end GAM
