/-! octagons of whole numbers: what two-sided limits say -/
section OCT
/-- A p q c: side q is at most side p and c; br p is the other sign of p -/
def xUp (A : Nat → Nat → Int → Prop) : Prop := ∀ p q c c', A p q c → c ≤ c' → A p q c'
def xTri (A : Nat → Nat → Int → Prop) : Prop := ∀ p q r c d, A p q c → A q r d → A p r (c + d)
def xCoh (br : Nat → Nat) (A : Nat → Nat → Int → Prop) : Prop := ∀ p q c, A p q c → A (br q) (br p) c
def xEv (br : Nat → Nat) (A : Nat → Nat → Int → Prop) : Prop := ∀ p c, A p (br p) c → A p (br p) (2 * (c / 2))
def xSt (br : Nat → Nat) (A : Nat → Nat → Int → Prop) : Prop := ∀ i j a b, A i (br i) a → A (br j) j b → A i j (a / 2 + b / 2)
/-- all that follows of the limits C -/
def xDv (br : Nat → Nat) (C : Nat → Nat → Int → Prop) (p q : Nat) (c : Int) : Prop := ∀ A : Nat → Nat → Int → Prop, xUp A → (∀ p, A p p 0) → (∀ p q c, C p q c → A p q c) → xTri A → xCoh br A → xEv br A → xSt br A → A p q c
/-- twice a whole number is even -/
def x1 (br : Nat → Nat) (A : Nat → Nat → Int → Prop) (p q : Nat) (c : Int) : Prop := A p q c ∨ (q = br p ∧ ∃ c0, A p q c0 ∧ 2 * (c0 / 2) ≤ c)
/-- half of both sides' own -/
def x2 (br : Nat → Nat) (A : Nat → Nat → Int → Prop) (i j : Nat) (c : Int) : Prop := A i j c ∨ ∃ a b, A i (br i) a ∧ A (br j) j b ∧ a / 2 + b / 2 ≤ c
variable {br : Nat → Nat} {A : Nat → Nat → Int → Prop}
theorem x1.ev (hu : xUp A) {p : Nat} {c : Int} (h : x1 br A p (br p) c) : ∃ c0, A p (br p) c0 ∧ 2 * (c0 / 2) ≤ c := by
  rcases h with h | ⟨-, c0, h1, h2⟩
  · exact ⟨c, h, by omega⟩
  · exact ⟨c0, h1, h2⟩
theorem x1.even (hu : xUp A) {p : Nat} {c : Int} (h : x1 br A p (br p) c) : x1 br A p (br p) (2 * (c / 2)) := by
  obtain ⟨c0, h1, h2⟩ := h.ev hu
  exact Or.inr ⟨rfl, c0, h1, by omega⟩
theorem x1.up (hu : xUp A) : xUp (x1 br A) := fun p q c c' h hc => by
  rcases h with h | ⟨e, c0, h1, h2⟩
  · exact Or.inl (hu p q c c' h hc)
  · exact Or.inr ⟨e, c0, h1, by omega⟩
theorem x1.coh (hb : ∀ p, br (br p) = p) (hc : xCoh br A) : xCoh br (x1 br A) := fun p q c h => by
  rcases h with h | ⟨e, c0, h1, h2⟩
  · exact Or.inl (hc p q c h)
  · subst e
    exact Or.inr ⟨(hb _).symm, c0, hc _ _ _ h1, h2⟩
/-- the key: a way from k to j and k's own give j's own -/
theorem x1.own (hb : ∀ p, br (br p) = p) (hu : xUp A) (ht : xTri A) (hc : xCoh br A) (ho : ∀ i a b, x1 br A i (br i) a → x1 br A (br i) i b → 0 ≤ a + b) {k j : Nat} {a c : Int} (h : x1 br A k j c) (hk : x1 br A (br k) k a) : x1 br A (br j) j (2 * (a / 2) + 2 * c) := by
  have hk' : x1 br A (br k) (br (br k)) a := by rw [hb]; exact hk
  obtain ⟨a0, a1, a2⟩ := hk'.ev hu
  rw [hb] at a1
  rcases h with h | ⟨e, c0, h1, h2⟩
  · have w := ht _ _ _ _ _ (hc _ _ _ h) (ht _ _ _ _ _ a1 h)
    refine Or.inr ⟨(hb j).symm, _, w, ?_⟩
    omega
  · subst e
    have q1 : x1 br A k (br k) (2 * (c0 / 2)) := Or.inr ⟨rfl, c0, h1, Int.le_refl _⟩
    have q2 : x1 br A (br k) k (2 * (a / 2)) := by
      have := hk'.even hu
      rw [hb] at this
      exact this
    have := ho k _ _ q1 q2
    rw [hb]
    exact x1.up hu _ _ _ _ q1 (by omega)
section CLO
/-- **one tightening closes**: no numbers are lost, and nothing more follows -/
theorem x2_tri (hb : ∀ p, br (br p) = p) (hu : xUp A) (hz : ∀ p, A p p 0) (ht : xTri A) (hc : xCoh br A) (ho : ∀ i a b, x1 br A i (br i) a → x1 br A (br i) i b → 0 ≤ a + b) : xTri (x2 br (x1 br A)) := fun i k j c d h1 h2 => by
  have own := fun {k j : Nat} {a c : Int} (h : x1 br A k j c) (hk : x1 br A (br k) k a) => x1.own hb hu ht hc ho h hk
  have up1 := x1.up (br := br) hu
  have coh1 := x1.coh hb hc
  rcases h1 with h1 | ⟨a, b, h1, h1', h1c⟩
  · rcases h2 with h2 | ⟨a', b', h2, h2', h2c⟩
    · rcases h1 with g1 | ⟨e, c0, g1, g2⟩
      · rcases h2 with g2 | ⟨e', d0, g3, g4⟩
        · exact Or.inl (Or.inl (ht _ _ _ _ _ g1 g2))
        · -- the second is a side's own
          subst e'
          have q : x1 br A k (br k) (2 * (d0 / 2)) := Or.inr ⟨rfl, d0, g3, Int.le_refl _⟩
          have w : x1 br A i (br i) (2 * (2 * (d0 / 2) / 2) + 2 * c) := by
            have := own (k := br k) (j := br i) (coh1 _ _ _ (Or.inl g1)) (by rw [hb]; exact q)
            rw [hb] at this
            exact this
          refine Or.inr ⟨_, 2 * (d0 / 2), w, by rw [hb]; exact q, ?_⟩
          omega
      · subst e
        have q : x1 br A i (br i) (2 * (c0 / 2)) := Or.inr ⟨rfl, c0, g1, Int.le_refl _⟩
        have w : x1 br A (br j) j (2 * (2 * (c0 / 2) / 2) + 2 * d) := own (k := br i) h2 (by rw [hb]; exact q)
        exact Or.inr ⟨2 * (c0 / 2), _, q, w, by omega⟩
    · -- the second is halves
      have w : x1 br A i (br i) (2 * (a' / 2) + 2 * c) := by
        have := own (k := br k) (j := br i) (coh1 _ _ _ h1) (by rw [hb]; exact h2)
        rw [hb] at this
        exact this
      exact Or.inr ⟨_, b', w, h2', by omega⟩
  · rcases h2 with h2 | ⟨a', b', h2, h2', h2c⟩
    · have w : x1 br A (br j) j (2 * (b / 2) + 2 * d) := own h2 h1'
      exact Or.inr ⟨a, _, h1, w, by omega⟩
    · have e1 := h2.even hu
      have e2 : x1 br A (br k) k (2 * (b / 2)) := by
        have h : x1 br A (br k) (br (br k)) b := by rw [hb]; exact h1'
        have := h.even hu
        rw [hb] at this
        exact this
      have := ho k _ _ e1 e2
      exact Or.inr ⟨a, b', h1, h2', by omega⟩
theorem x2_cl (hb : ∀ p, br (br p) = p) (hu : xUp A) (hz : ∀ p, A p p 0) (ht : xTri A) (hc : xCoh br A) (ho : ∀ i a b, x1 br A i (br i) a → x1 br A (br i) i b → 0 ≤ a + b) : xUp (x2 br (x1 br A)) ∧ (∀ p, x2 br (x1 br A) p p 0) ∧ xCoh br (x2 br (x1 br A)) ∧ xEv br (x2 br (x1 br A)) ∧ xSt br (x2 br (x1 br A)) := by
  have up1 := x1.up (br := br) hu
  have coh1 := x1.coh hb hc
  have own2 : ∀ p c, x2 br (x1 br A) p (br p) c → x1 br A p (br p) (2 * (c / 2)) := fun p c h => by
    rcases h with h | ⟨a, b, h1, h2, h3⟩
    · exact h.even hu
    · rw [hb] at h2
      rcases Int.le_total (a / 2) (b / 2) with z | z
      · exact up1 _ _ _ _ (h1.even hu) (by omega)
      · exact up1 _ _ _ _ (h2.even hu) (by omega)
  refine ⟨fun p q c c' h hcc => ?_, fun p => Or.inl (Or.inl (hz p)), fun p q c h => ?_, fun p c h => Or.inl (own2 p c h), fun i j a b h1 h2 => ?_⟩
  · rcases h with h | ⟨a, b, h1, h2, h3⟩
    · exact Or.inl (up1 _ _ _ _ h hcc)
    · exact Or.inr ⟨a, b, h1, h2, by omega⟩
  · rcases h with h | ⟨a, b, h1, h2, h3⟩
    · exact Or.inl (coh1 _ _ _ h)
    · exact Or.inr ⟨b, a, by rw [hb]; exact h2, by rw [hb]; exact h1, by omega⟩
  · have q1 := own2 i a h1
    have q2 : x1 br A (br j) j (2 * (b / 2)) := by
      have := own2 (br j) b (by rw [hb]; exact h2)
      rw [hb] at this
      exact this
    exact Or.inr ⟨_, _, q1, q2, by omega⟩
/-- **what is closed so is all that follows** -/
theorem x2_dv (hb : ∀ p, br (br p) = p) (hu : xUp A) (hz : ∀ p, A p p 0) (ht : xTri A) (hc : xCoh br A) (ho : ∀ i a b, x1 br A i (br i) a → x1 br A (br i) i b → 0 ≤ a + b) {C : Nat → Nat → Int → Prop} (hC : ∀ p q c, C p q c → A p q c) (hD : ∀ p q c, A p q c → xDv br C p q c) (p q : Nat) (c : Int) : x2 br (x1 br A) p q c ↔ xDv br C p q c := by
  obtain ⟨c1, c2, c3, c4, c5⟩ := x2_cl hb hu hz ht hc ho
  refine ⟨fun h B b1 b2 b3 b4 b5 b6 b7 => ?_, fun h => h _ c1 c2 (fun p q c h => Or.inl (Or.inl (hC p q c h))) (x2_tri hb hu hz ht hc ho) c3 c4 c5⟩
  have t0 : ∀ p q c, A p q c → B p q c := fun p q c h => hD p q c h B b1 b2 b3 b4 b5 b6 b7
  have t1 : ∀ p q c, x1 br A p q c → B p q c := fun p q c h => by
    rcases h with h | ⟨e, c0, h1, h2⟩
    · exact t0 _ _ _ h
    · subst e
      exact b1 _ _ _ _ (b6 _ _ (t0 _ _ _ h1)) h2
  rcases h with h | ⟨a, b, h1, h2, h3⟩
  · exact t1 _ _ _ h
  · exact b1 _ _ _ _ (b7 _ _ _ _ (t1 _ _ _ h1) (t1 _ _ _ h2)) h3
end CLO
/-- where a side's own two limits go below 0, so does a circle -/
theorem x1_bad (hu : xUp A) {C : Nat → Nat → Int → Prop} (hD : ∀ p q c, A p q c → xDv br C p q c) {i : Nat} {a b : Int} (h1 : x1 br A i (br i) a) (h2 : x1 br A (br i) i b) (hab : a + b < 0) : ∃ c, c < 0 ∧ xDv br C i i c := by
  refine ⟨a + b, hab, fun B b1 b2 b3 b4 b5 b6 b7 => ?_⟩
  have t0 : ∀ p q c, A p q c → B p q c := fun p q c h => hD p q c h B b1 b2 b3 b4 b5 b6 b7
  have t1 : ∀ p q c, x1 br A p q c → B p q c := fun p q c h => by
    rcases h with h | ⟨e, c0, h1, h2⟩
    · exact t0 _ _ _ h
    · subst e
      exact b1 _ _ _ _ (b6 _ _ (t0 _ _ _ h1)) h2
  exact b4 _ _ _ _ _ (t1 _ _ _ h1) (t1 _ _ _ h2)
end OCT
