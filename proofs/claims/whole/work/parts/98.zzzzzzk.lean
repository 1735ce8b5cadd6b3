/-! types at the end: what is still free is an int -/
/-- an int may become anything -/
def yLe : tY → tY → Prop
  | .leaf, y => y = .leaf
  | .inner k _ _ a b, y => ((.inner k () () a b : tY) = yB 0) ∨ y = .inner k () () a b ∨ (k = 0 ∧ ∃ c d, y = yA c d ∧ yLe a c ∧ yLe b d)
theorem yLe.as : ∀ (x y : tY), yLe x y → yLe y x → x = y
  | .leaf, y, h, _ => (show y = .leaf from h).symm
  | .inner k _ _ a b, y, h, h' => by
    rcases h with h | h | ⟨rfl, c, d, rfl, h1, h2⟩
    · have e : (.inner k () () a b : tY) = yB 0 := h
      show (.inner k () () a b : tY) = y
      rw [e]
      have h' : yLe y (yB 0) := by rw [← e]; exact h'
      match y, h' with
      | .leaf, h' => cases (show (yB 0 : tY) = .leaf from h')
      | .inner k' _ _ a' b', h' =>
        rcases h' with h' | h' | ⟨_, c, d, h', _⟩
        · exact (show (.inner k' () () a' b' : tY) = yB 0 from h').symm
        · exact h'
        · exact (yA_ne h'.symm).elim
    · exact h.symm
    · rcases h' with h' | h' | ⟨_, c', d', h', h3, h4⟩
      · exact (yA_ne h').elim
      · exact h'
      · obtain ⟨e1, e2⟩ := yA_inj h'
        subst e1 e2
        show yA a b = yA c d
        rw [yLe.as a c h1 h3, yLe.as b d h2 h4]
/-- the solution in which what is free is an int -/
def gCo (g : gG) (ρ : Nat → tY) : Prop := gS g ρ ∧ ∀ x, x < g.n → g.S x = x → g.K x = 0 → ρ x = yB 0
section GCO
variable {g : gG} {ρ ρ' ρ0 : Nat → tY} {T : Nat → mF} {s : mS}
theorem gCo.le (hK : gK g) (h : gCo g ρ) (hs : gS g ρ') : ∀ (k x : Nat), x < g.n → yH (ρ x) ≤ k → yLe (ρ x) (ρ' x)
  | k, x, hx, hk => by
    have hr := gR_lt hK.1 hx
    have hrs := gR_root hK.1 hx
    rw [← gR_eq hK.1 hx h.1] at hk ⊢
    rw [← gR_eq hK.1 hx hs]
    generalize gR g x = r at hr hrs hk
    obtain ⟨-, a1, a2⟩ := h.1 r hr
    obtain ⟨-, b1, b2⟩ := hs r hr
    by_cases c0 : g.K r = 0
    · rw [h.2 r hr hrs c0]
      exact Or.inl rfl
    · by_cases c1 : g.K r = 1
      · obtain ⟨l1, l2⟩ := (hK.2 r hr).1 c1
        rw [a1 c1] at hk ⊢
        rw [b1 c1]
        have q := yA_lt (ρ (g.L r)) (ρ (g.R r))
        match k, hk with
        | 0, hk => omega
        | k + 1, hk => exact Or.inr (Or.inr ⟨rfl, _, _, rfl, gCo.le hK h hs k _ l1 (by omega), gCo.le hK h hs k _ l2 (by omega)⟩)
      · rw [a2 (g.K r - 2) (by omega), b2 (g.K r - 2) (by omega)]
        exact Or.inr (Or.inl rfl)
theorem gCo.ex (hK : gK g) (hC : gC g) (hs : gS g ρ0) : ∃ ρ, gCo g ρ ∧ ∀ x, x < g.n → yH (ρ x) ≤ 1 + xN g.n (fun y => decide (g.K y = 1)) := by
  obtain ⟨ρ, h1, -, h3⟩ := gEx (B := fun _ => False) (β := fun _ => yB 0) hK hC hs (fun _ _ _ z => z.elim)
  refine ⟨ρ, ⟨h1, fun x hx hr h0 => ?_⟩, fun x hx => ?_⟩
  · rw [h3 x]
    unfold gVa
    rw [if_neg (fun z => z), gR_fix hr, h0]
    rfl
  · rw [h3 x]
    refine Nat.le_trans (gVa_H hK hs _ x hx) (Nat.add_le_add_left (xN_le (fun y _ hy => ?_)) 1)
    exact decide_eq_true (of_decide_eq_true hy).1
/-- the free ones as ints make t as small as can be -/
def mCn (s : mS) (α : Nat → tY) (t : mF) : Prop := ∀ α', mAll s.1 α' → yLe (t α) (t α')
theorem mCn.uq {α β : Nat → tY} {t : mF} (ha : mAll s.1 α) (hb : mAll s.1 β) (h : mCn s α t) (h' : mCn s β t) : t α = t β := yLe.as _ _ (h β hb) (h' α ha)
theorem gCo.cn (hK : gK g) (hT : gT g T s) (h : gCo g ρ) : ∃ α, mAll s.1 α ∧ (∀ c, c < g.n → ρ c = T c α) ∧ ∀ c t, gY g T s c t → mCn s α t ∧ ρ c = t α := by
  obtain ⟨α, q1, q2⟩ := hT.2.1 ρ h.1
  refine ⟨α, q1, q2, fun c t hy => ?_⟩
  have e : ρ c = t α := (q2 c hy.1).trans (hy.2 α q1)
  refine ⟨fun α' h' => ?_, e⟩
  have := gCo.le hK h (hT.1 α' h') _ c hy.1 (Nat.le_refl _)
  rw [e] at this
  rw [← hy.2 α' h']
  exact this
/-- what stands at c, by its end -/
theorem gCo.at (hK : gK g) (h : gCo g ρ) {c : Nat} (hc : c < g.n) : (g.K (gR g c) = 1 ∧ ρ c = yA (ρ (g.L (gR g c))) (ρ (g.R (gR g c))) ∧ g.L (gR g c) < g.n ∧ g.R (gR g c) < g.n) ∨ (g.K (gR g c) ≠ 1 ∧ ρ c = yB (g.K (gR g c) - 2)) := by
  have hr := gR_lt hK.1 hc
  have hrs := gR_root hK.1 hc
  rw [← gR_eq hK.1 hc h.1]
  obtain ⟨-, a1, a2⟩ := h.1 _ hr
  by_cases c1 : g.K (gR g c) = 1
  · obtain ⟨l1, l2⟩ := (hK.2 _ hr).1 c1
    exact Or.inl ⟨c1, a1 c1, l1, l2⟩
  · refine Or.inr ⟨c1, ?_⟩
    by_cases c0 : g.K (gR g c) = 0
    · rw [h.2 _ hr hrs c0, c0]
    · exact a2 _ (by omega)
end GCO
