/-! graphs of types that have a solution -/
/-- what is the same takes and answers the same -/
def gC (g : gG) : Prop := ∀ t, t < g.n → g.K t = 1 → gR g (g.L t) = gR g (g.L (gR g t)) ∧ gR g (g.R t) = gR g (g.R (gR g t))
section GSO
/-- a value: fixed on B, else by its kind -/
noncomputable def gVa (g : gG) (B : Nat → Prop) (β : Nat → tY) : Nat → Nat → tY
  | 0, _ => .leaf
  | k + 1, x => @ite tY (B (gR g x)) (Classical.propDecidable _) (β (gR g x)) (if g.K (gR g x) = 1 then yA (gVa g B β k (g.L (gR g x))) (gVa g B β k (g.R (gR g x))) else yB (g.K (gR g x) - 2))
variable {g : gG} {ρ0 : Nat → tY} {B : Nat → Prop} {β : Nat → tY}
theorem gVa_cg {k x y : Nat} (h : gR g x = gR g y) : gVa g B β k x = gVa g B β k y := by
  cases k with
  | zero => rfl
  | succ k => unfold gVa; rw [h]
theorem gCh (h : gK g) (hs : gS g ρ0) {x : Nat} (hx : x < g.n) (hk : g.K (gR g x) = 1) : (g.L (gR g x) < g.n ∧ g.R (gR g x) < g.n) ∧ yH (ρ0 (g.L (gR g x))) < yH (ρ0 x) ∧ yH (ρ0 (g.R (gR g x))) < yH (ρ0 x) := by
  have hr := gR_lt h.1 hx
  have e := (hs (gR g x) hr).2.1 hk
  rw [gR_eq h.1 hx hs] at e
  rw [e]
  exact ⟨(h.2 _ hr).1 hk, yA_lt _ _⟩
theorem gVa_st (h : gK g) (hs : gS g ρ0) : ∀ (k k' x : Nat), x < g.n → yH (ρ0 x) < k → yH (ρ0 x) < k' → gVa g B β k x = gVa g B β k' x
  | 0, _, _, _, h1, _ => by omega
  | k + 1, k', x, hx, h1, h2 => by
    obtain ⟨k', rfl⟩ : ∃ k2, k' = k2 + 1 := ⟨k' - 1, by omega⟩
    unfold gVa
    by_cases c : B (gR g x)
    · rw [if_pos c, if_pos c]
    · rw [if_neg c, if_neg c]
      by_cases c2 : g.K (gR g x) = 1
      · obtain ⟨⟨l1, l2⟩, l3, l4⟩ := gCh h hs hx c2
        rw [if_pos c2, if_pos c2, gVa_st h hs k k' _ l1 (by omega) (by omega), gVa_st h hs k k' _ l2 (by omega) (by omega)]
      · rw [if_neg c2, if_neg c2]
/-- B's values go on to a solution -/
theorem gEx (h : gK g) (hc : gC g) (hs : gS g ρ0) (hB : ∀ x, x < g.n → g.S x = x → B x → (g.K x = 1 → (B (gR g (g.L x)) ∧ B (gR g (g.R x))) ∧ β x = yA (β (gR g (g.L x))) (β (gR g (g.R x)))) ∧ ∀ k, g.K x = k + 2 → β x = yB k) : ∃ ρ, gS g ρ ∧ (∀ x, x < g.n → B (gR g x) → ρ x = β (gR g x)) ∧ ∀ x, ρ x = gVa g B β (yH (ρ0 x) + 1) x := by
  refine ⟨fun x => gVa g B β (yH (ρ0 x) + 1) x, fun t ht => ⟨?_, fun hk => ?_, fun k hk => ?_⟩, fun x hx hb => ?_, fun _ => rfl⟩
  · show gVa g B β (yH (ρ0 t) + 1) t = gVa g B β (yH (ρ0 (g.S t)) + 1) (g.S t)
    rw [(hs t ht).1]
    exact gVa_cg (gR_S h.1 ht).symm
  · show gVa g B β (yH (ρ0 t) + 1) t = yA (gVa g B β (yH (ρ0 (g.L t)) + 1) (g.L t)) (gVa g B β (yH (ρ0 (g.R t)) + 1) (g.R t))
    have hr := gR_lt h.1 ht
    have kr : g.K (gR g t) = 1 := by
      rcases gR_kind h ht with e | e
      · rw [hk] at e; cases e
      · exact e.trans hk
    obtain ⟨e1, e2⟩ := hc t ht hk
    obtain ⟨⟨l1, l2⟩, l3, l4⟩ := gCh h hs ht kr
    have hl := (h.2 t ht).1 hk
    have eL : ρ0 (g.L t) = ρ0 (g.L (gR g t)) := by rw [← gR_eq h.1 hl.1 hs, e1, gR_eq h.1 l1 hs]
    have eR : ρ0 (g.R t) = ρ0 (g.R (gR g t)) := by rw [← gR_eq h.1 hl.2 hs, e2, gR_eq h.1 l2 hs]
    rw [eL, eR, gVa_cg e1, gVa_cg e2]
    unfold gVa
    by_cases c : B (gR g t)
    · obtain ⟨⟨b1, b2⟩, b3⟩ := (hB _ hr (gR_root h.1 ht) c).1 kr
      rw [if_pos c, if_pos b1, if_pos b2]
      exact b3
    · rw [if_neg c, if_pos kr]
      have s1 := gVa_st (B := B) (β := β) h hs (yH (ρ0 t)) (yH (ρ0 (g.L (gR g t))) + 1) _ l1 (by omega) (by omega)
      have s2 := gVa_st (B := B) (β := β) h hs (yH (ρ0 t)) (yH (ρ0 (g.R (gR g t))) + 1) _ l2 (by omega) (by omega)
      rw [s1, s2]
      rfl
  · show gVa g B β (yH (ρ0 t) + 1) t = yB k
    have hr := gR_lt h.1 ht
    have kr : g.K (gR g t) = k + 2 := by
      rcases gR_kind h ht with e | e
      · rw [hk] at e; cases e
      · exact e.trans hk
    unfold gVa
    by_cases c : B (gR g t)
    · rw [if_pos c]
      exact (hB _ hr (gR_root h.1 ht) c).2 k kr
    · rw [if_neg c, if_neg (by omega), kr]
      rfl
  · show gVa g B β (yH (ρ0 x) + 1) x = _
    unfold gVa
    rw [if_pos hb]
/-- no deeper than there are functions -/
theorem gVa_H (h : gK g) (hs : gS g ρ0) : ∀ (k x : Nat), x < g.n → yH (gVa g (fun _ => False) β k x) ≤ 1 + xN g.n (fun y => decide (g.K y = 1 ∧ yH (ρ0 y) ≤ yH (ρ0 x)))
  | 0, x, hx => by
    show 0 ≤ _
    omega
  | k + 1, x, hx => by
    unfold gVa
    rw [if_neg (fun z => z)]
    by_cases c : g.K (gR g x) = 1
    · rw [if_pos c]
      obtain ⟨⟨l1, l2⟩, l3, l4⟩ := gCh h hs hx c
      have hr := gR_lt h.1 hx
      have er := gR_eq h.1 hx hs
      have i1 := gVa_H h hs k _ l1
      have i2 := gVa_H h hs k _ l2
      have up : ∀ y, yH (ρ0 y) < yH (ρ0 x) → xN g.n (fun z => decide (g.K z = 1 ∧ yH (ρ0 z) ≤ yH (ρ0 y))) < xN g.n (fun z => decide (g.K z = 1 ∧ yH (ρ0 z) ≤ yH (ρ0 x))) := fun y hy => by
        refine xN_lt hr (fun z _ hz => ?_) ?_ ?_
        · have := of_decide_eq_true hz
          exact decide_eq_true ⟨this.1, by omega⟩
        · exact decide_eq_false (fun hz => by rw [er] at hz; omega)
        · exact decide_eq_true ⟨c, by rw [er]; omega⟩
      have u1 := up _ l3
      have u2 := up _ l4
      show max (yH _) (yH _) + 1 ≤ _
      omega
    · rw [if_neg c]
      show max 0 0 + 1 ≤ _
      omega
theorem gCan (h : gK g) (hc : gC g) (hs : gS g ρ0) : ∃ ρ, gS g ρ ∧ ∀ x, x < g.n → yH (ρ x) ≤ 1 + xN g.n (fun y => decide (g.K y = 1)) := by
  obtain ⟨ρ, h1, -, h3⟩ := gEx (B := fun _ => False) (β := fun _ => .leaf) h hc hs (fun x _ _ z => z.elim)
  refine ⟨ρ, h1, fun x hx => ?_⟩
  rw [h3]
  have a := gVa_H (β := fun _ => .leaf) h hs (yH (ρ0 x) + 1) x hx
  have b : xN g.n (fun y => decide (g.K y = 1 ∧ yH (ρ0 y) ≤ yH (ρ0 x))) ≤ xN g.n (fun y => decide (g.K y = 1)) := xN_le (fun y _ hy => decide_eq_true (of_decide_eq_true hy).1)
  omega
/-- a free end v may be what t is, if v does not stand in t: M holds all functions within t -/
theorem gBind (h : gK g) (hc : gC g) (hs : gS g ρ0) {v t : Nat} (hv : v < g.n) (hv1 : g.S v = v) (hv2 : g.K v = 0) (ht : t < g.n) (ht1 : g.S t = t) (hvt : v ≠ t) {M : Nat → Prop} (hM : ∀ m, M m → m < g.n → g.K m = 1 → (gR g (g.L m) ≠ v ∧ (g.K (gR g (g.L m)) = 1 → M (gR g (g.L m)))) ∧ (gR g (g.R m) ≠ v ∧ (g.K (gR g (g.R m)) = 1 → M (gR g (g.R m))))) (hMt : g.K t = 1 → M t) : ∃ ρ, gS g ρ ∧ ρ v = ρ t := by
  have key : ∀ x, x < g.n → g.S x = x → (fun x => g.K x = 1 → M x) x → (g.K x = 1 → ((fun x => g.K x = 1 → M x) (gR g (g.L x)) ∧ (fun x => g.K x = 1 → M x) (gR g (g.R x))) ∧ (fun x => if x = v then ρ0 t else ρ0 x) x = yA ((fun x => if x = v then ρ0 t else ρ0 x) (gR g (g.L x))) ((fun x => if x = v then ρ0 t else ρ0 x) (gR g (g.R x)))) ∧ ∀ k, g.K x = k + 2 → (fun x => if x = v then ρ0 t else ρ0 x) x = yB k := by
    intro x hx hxs hb
    refine ⟨fun hk => ?_, fun k hk => ?_⟩
    · obtain ⟨⟨m1, m2⟩, m3, m4⟩ := hM x (hb hk) hx hk
      have hl := (h.2 x hx).1 hk
      refine ⟨⟨m2, m4⟩, ?_⟩
      show (if x = v then ρ0 t else ρ0 x) = yA (if gR g (g.L x) = v then ρ0 t else ρ0 (gR g (g.L x))) (if gR g (g.R x) = v then ρ0 t else ρ0 (gR g (g.R x)))
      rw [if_neg (fun e => by rw [e, hv2] at hk; cases hk), if_neg m1, if_neg m3, gR_eq h.1 hl.1 hs, gR_eq h.1 hl.2 hs]
      exact (hs x hx).2.1 hk
    · show (if x = v then ρ0 t else ρ0 x) = yB k
      rw [if_neg (fun e => by rw [e, hv2] at hk; cases hk)]
      exact (hs x hx).2.2 k hk
  obtain ⟨ρ, h1, h2, -⟩ := gEx (B := fun x => g.K x = 1 → M x) (β := fun x => if x = v then ρ0 t else ρ0 x) h hc hs key
  refine ⟨ρ, h1, ?_⟩
  have e1 := h2 v hv (by rw [gR_fix hv1]; intro z; rw [hv2] at z; cases z)
  have e2 := h2 t ht (by rw [gR_fix ht1]; exact hMt)
  rw [gR_fix hv1] at e1
  rw [gR_fix ht1] at e2
  rw [e1, e2]
  show (if v = v then ρ0 t else ρ0 v) = (if t = v then ρ0 t else ρ0 t)
  rw [if_pos rfl, ite_self]
/-- values of what is done, by rank -/
noncomputable def gW' (g : gG) : Nat → Nat → tY
  | 0, _ => .leaf
  | k + 1, x => if g.K x = 1 then yA (gW' g k (gR g (g.L x))) (gW' g k (gR g (g.R x))) else yB (g.K x - 2)
theorem gW_st {r : Nat → Nat} {B : Nat → Prop} (hB : ∀ x, B x → g.K x = 1 → (B (gR g (g.L x)) ∧ r (gR g (g.L x)) < r x) ∧ (B (gR g (g.R x)) ∧ r (gR g (g.R x)) < r x)) : ∀ (k k' x : Nat), B x → r x < k → r x < k' → gW' g k x = gW' g k' x
  | 0, _, _, _, h, _ => by omega
  | k + 1, k', x, hb, h1, h2 => by
    obtain ⟨k', rfl⟩ : ∃ k2, k' = k2 + 1 := ⟨k' - 1, by omega⟩
    unfold gW'
    by_cases c : g.K x = 1
    · obtain ⟨⟨b1, b2⟩, b3, b4⟩ := hB x hb c
      rw [if_pos c, if_pos c, gW_st hB k k' _ b1 (by omega) (by omega), gW_st hB k k' _ b3 (by omega) (by omega)]
    · rw [if_neg c, if_neg c]
theorem gRank {r : Nat → Nat} {B : Nat → Prop} (hB : ∀ x, B x → g.K x = 1 → (B (gR g (g.L x)) ∧ r (gR g (g.L x)) < r x) ∧ (B (gR g (g.R x)) ∧ r (gR g (g.R x)) < r x)) : ∃ β : Nat → tY, ∀ x, B x → (g.K x = 1 → β x = yA (β (gR g (g.L x))) (β (gR g (g.R x)))) ∧ ∀ k, g.K x = k + 2 → β x = yB k := by
  refine ⟨fun x => gW' g (r x + 1) x, fun x hb => ⟨fun hk => ?_, fun k hk => ?_⟩⟩
  · obtain ⟨⟨b1, b2⟩, b3, b4⟩ := hB x hb hk
    show gW' g (r x + 1) x = yA (gW' g (r (gR g (g.L x)) + 1) _) (gW' g (r (gR g (g.R x)) + 1) _)
    rw [← gW_st hB (r x) (r (gR g (g.L x)) + 1) _ b1 b2 (by omega), ← gW_st hB (r x) (r (gR g (g.R x)) + 1) _ b3 b4 (by omega)]
    show (if g.K x = 1 then _ else _) = _
    rw [if_pos hk]
  · show (if g.K x = 1 then _ else yB (g.K x - 2)) = yB k
    rw [if_neg (by omega), hk]
    rfl
end GSO
