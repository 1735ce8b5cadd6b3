/-! a tree in the reference's rows -/
/-- the seven rows of a node, the three of an ARG -/
def nV (τ : zSt) (m k : Nat) : Int32 := τ.2.2.1 (6 + k % 7) m
def gV (τ : zSt) (m k : Nat) : Int32 := τ.2.2.1 (19 + k % 3) m
/-- node m (from lo on, below N) is of this kind, at word i -/
def rNd (pp : Nat → Int32) (τ : zSt) (lo N m g i : Nat) : Prop := (lo ≤ m ∧ m < N) ∧ nV τ m 0 = nI g ∧ nV τ m 1 = pp i
/-- node m is this tree; a list goes from m0 to m, its nodes have kind gl -/
def rTr (pp : Nat → Int32) (τ : zSt) (lo N S P A : Nat) : tT → Nat → Nat → Nat → Prop
  | .leaf, _, m0, m => m = m0
  | .inner g d _ a b, gl, m0, m => match g with
    | 30 => ∃ m1 mb, ((lo ≤ m1 ∧ m1 < N) ∧ lo ≤ m0 ∧ m0 < N) ∧ (nV τ m1 0 = nI gl ∧ nV τ m1 1 = nV τ m0 1 ∧ nV τ m1 3 = nI m0 ∧ nV τ m1 4 = nI mb) ∧ rTr pp τ lo N S P A a 0 0 mb ∧ rTr pp τ lo N S P A b gl m1 m
    | 31 => rTr pp τ lo N S P A a 0 0 m0 ∧ rTr pp τ lo N S P A b 0 0 m
    | 20 => ∃ m1, rTr pp τ lo N S P A a 0 0 m1 ∧ rTr pp τ lo N S P A b 20 m1 m
    | 21 => ∃ m1, rTr pp τ lo N S P A a 0 0 m1 ∧ rTr pp τ lo N S P A b 21 m1 m
    | 22 => rNd pp τ lo N m 22 d.1 ∧ ∃ x, nV τ m 3 = nI x ∧ rTr pp τ lo N S P A a 0 0 x
    | 23 => rNd pp τ lo N m 23 d.1 ∧ nV τ m 3 = nI d.2.1
    | 24 => rNd pp τ lo N m 24 d.1 ∧ nV τ m 3 = nI d.1
    | 25 => rNd pp τ lo N m 25 d.1 ∧ (nV τ m 2 = pp d.2.1 ∧ nV τ m 5 = nI d.2.2.1) ∧ ∃ x y, (nV τ m 3 = nI x ∧ nV τ m 4 = nI y) ∧ rSm pp τ S P x d.2.2.2.1 ∧ rSm pp τ S P y d.2.2.2.2
    | 1 => rNd pp τ lo N m 1 d.1 ∧ nV τ m 3 = nI (d.1 + 1) ∧ ∃ x y, (nV τ m 5 = nI x ∧ nV τ m 6 = nI y) ∧ rTr pp τ lo N S P A a 0 0 x ∧ rTr pp τ lo N S P A b 0 0 y
    | 2 => rNd pp τ lo N m 2 d.1 ∧ (nV τ m 3 = nI (d.1 + 2) ∧ nV τ m 4 = nI (d.1 + 3)) ∧ ∃ x y, (nV τ m 5 = nI x ∧ nV τ m 6 = nI y) ∧ rTr pp τ lo N S P A a 0 0 x ∧ rTr pp τ lo N S P A b 0 0 y
    | 3 => rNd pp τ lo N m 3 d.1 ∧ nV τ m 3 = nI (d.1 + 1) ∧ ∃ x, nV τ m 5 = nI x ∧ rTr pp τ lo N S P A a 0 0 x
    | 4 => rNd pp τ lo N m 4 d.1 ∧ nV τ m 2 = pp (d.1 + 1) ∧ ∃ x y z, (nV τ m 3 = nI x ∧ nV τ m 5 = nI y ∧ nV τ m 6 = nI z) ∧ rTr pp τ lo N S P A a 0 0 x ∧ rTr pp τ lo N S P A b 0 y z
    | 5 => rNd pp τ lo N m 5 d.1 ∧ nV τ m 2 = pp (d.1 + 1) ∧ ∃ x y, (nV τ m 3 = nI x ∧ nV τ m 5 = nI y) ∧ rTr pp τ lo N S P A a 0 0 x ∧ rTr pp τ lo N S P A b 0 0 y
    | 6 => rNd pp τ lo N m 6 d.1 ∧ (nV τ m 2 = pp (d.1 + 2) ∧ nV τ m 3 = nI (d.1 + 1)) ∧ ∃ x y z, (nV τ m 4 = nI x ∧ nV τ m 5 = nI y ∧ nV τ m 6 = nI z) ∧ rSm pp τ S P x d.2.2.2.1 ∧ rSm pp τ S P y d.2.2.2.2 ∧ rTr pp τ lo N S P A a 0 0 z
    | 7 => rNd pp τ lo N m 7 d.1 ∧ ∃ x, nV τ m 4 = nI x ∧ rSm pp τ S P x d.2.2.2.1
    | 8 => rNd pp τ lo N m 8 d.1
    | 9 => rNd pp τ lo N m 9 d.1
    | 10 => rNd pp τ lo N m 10 d.1 ∧ ∃ x, nV τ m 4 = nI x ∧ rSm pp τ S P x d.2.2.2.1
    | 11 => rNd pp τ lo N m 11 d.1 ∧ nV τ m 2 = pp d.2.1 ∧ ∃ x y, (nV τ m 4 = nI x ∧ nV τ m 5 = nI y) ∧ rSm pp τ S P x d.2.2.2.1 ∧ rSm pp τ S P y d.2.2.2.2
    | 12 => rNd pp τ lo N m 12 d.1 ∧ nV τ m 2 = pp d.2.1 ∧ ∃ x y, (nV τ m 4 = nI x ∧ nV τ m 5 = nI y) ∧ rSm pp τ S P x d.2.2.2.1 ∧ rSm pp τ S P y d.2.2.2.2
    | 13 => rNd pp τ lo N m 13 d.1 ∧ nV τ m 2 = pp d.2.1 ∧ ∃ x y, (nV τ m 4 = nI x ∧ nV τ m 5 = nI y) ∧ rSm pp τ S P x d.2.2.2.1 ∧ rSm pp τ S P y d.2.2.2.2
    | 14 => rNd pp τ lo N m 14 d.1 ∧ (nV τ m 2 = pp (d.1 + 1) ∧ nV τ m 3 = nI d.1) ∧ ∃ x, nV τ m 4 = nI x ∧ rSm pp τ S P x d.2.2.2.1
    | 15 => rNd pp τ lo N m 15 d.1 ∧ nV τ m 3 = nI d.1 ∧ ∃ x q, (nV τ m 4 = nI x ∧ nV τ m 5 = nI q) ∧ rTr pp τ lo N S P A a 0 x (x + q)
    | 16 => rNd pp τ lo N m 16 d.1 ∧ ∃ x, nV τ m 5 = nI x ∧ rTr pp τ lo N S P A a 0 0 x
    | 17 => rNd pp τ lo N m 17 d.1
    | 18 => rNd pp τ lo N m 18 d.1 ∧ nV τ m 3 = nI d.2.1 ∧ ∃ x, nV τ m 4 = nI x ∧ rSm pp τ S P x d.2.2.2.1
    | 19 => rNd pp τ lo N m 19 d.1 ∧ (nV τ m 3 = nI (d.1 + 1) ∧ nV τ m 4 = nI d.2.1) ∧ ∃ x y, (nV τ m 5 = nI x ∧ nV τ m 6 = nI y) ∧ rTr pp τ lo N S P A a 0 0 x ∧ rTr pp τ lo N S P A b 0 0 y
    | 33 => (m0 < A ∧ gV τ m0 0 = 0 ∧ gV τ m0 2 = pp d.1 ∧ ∃ x, gV τ m0 1 = nI x ∧ rSm pp τ S P x d.2.2.2.1) ∧ rTr pp τ lo N S P A b 0 (m0 + 1) m
    | 34 => (m0 < A ∧ gV τ m0 0 = 1 ∧ gV τ m0 2 = pp d.1 ∧ ∃ x, gV τ m0 1 = nI x ∧ rTr pp τ lo N S P A a 0 0 x) ∧ rTr pp τ lo N S P A b 0 (m0 + 1) m
    | 35 => (m0 < A ∧ gV τ m0 0 = nI (3 - d.2.1) ∧ gV τ m0 2 = pp d.1) ∧ rTr pp τ lo N S P A b 0 (m0 + 1) m
    | _ => False
/-- the same in the rows that a tree below these numbers needs -/
def rAt (lo N S P A : Nat) (τ τ' : zSt) : Prop := (∀ m, lo ≤ m → m < N → nV τ' m = nV τ m) ∧ (∀ k j, 13 ≤ k → k ≤ 15 → j < S → τ'.2.2.1 k j = τ.2.2.1 k j) ∧ (∀ k j, 16 ≤ k → k ≤ 18 → j < P → τ'.2.2.1 k j = τ.2.2.1 k j) ∧ (∀ m, m < A → gV τ' m = gV τ m)
theorem rAg.at {N S P A C : Nat} {τ τ' : zSt} (lo : Nat) (h : rAg N S P A C τ τ') : rAt lo N S P A τ τ' :=
  ⟨fun m _ h2 => funext fun k => h.nd (by omega) (by omega) h2, fun k j a b c => h.sm a b c, fun k j a b c => h.pt a b c, fun m h2 => funext fun k => h.ar (by omega) (by omega) h2⟩
theorem rAt.sm {pp : Nat → Int32} {lo N S P A S' P' s : Nat} {τ τ' : zSt} {t : tS} (g : rAt lo N S P A τ τ') (h : rSm pp τ S P s t) (hS : S ≤ S') (hP : P ≤ P') : rSm pp τ' S' P' s t := by
  obtain ⟨h1, h2, a, h3, h4, h5, h6⟩ := h
  refine ⟨by omega, ?_, a, ?_, ?_, by omega, fun q p e => ?_⟩
  · rw [g.2.1 15 s (by omega) (by omega) h1]; exact h2
  · rw [g.2.1 13 s (by omega) (by omega) h1]; exact h3
  · rw [g.2.1 14 s (by omega) (by omega) h1]; exact h4
  · have hq : q < t.2.length := by
      by_cases c : q < t.2.length
      · exact c
      · rw [List.getElem?_eq_none (by omega)] at e; cases e
    rw [g.2.2.1 16 _ (by omega) (by omega) (show a + q < P by omega), g.2.2.1 17 _ (by omega) (by omega) (show a + q < P by omega), g.2.2.1 18 _ (by omega) (by omega) (show a + q < P by omega)]
    exact h6 q p e
theorem rNd.at {pp : Nat → Int32} {lo N S P A lo' N' m g i : Nat} {τ τ' : zSt} (G : rAt lo N S P A τ τ') (h : rNd pp τ lo N m g i) (hl : lo' ≤ lo) (hN : N ≤ N') : rNd pp τ' lo' N' m g i ∧ nV τ' m = nV τ m := by
  have e := G.1 m h.1.1 h.1.2
  unfold rNd
  rw [e]
  exact ⟨⟨⟨by have := h.1.1; omega, by have := h.1.2; omega⟩, h.2⟩, rfl⟩
set_option maxHeartbeats 1000000 in
/-- a tree is kept -/
theorem rTr.keep {pp : Nat → Int32} {lo N S P A lo' N' S' P' A' : Nat} {τ τ' : zSt} (G : rAt lo N S P A τ τ') (hl : lo' ≤ lo) (hN : N ≤ N') (hS : S ≤ S') (hP : P ≤ P') (hA : A ≤ A') : ∀ (t : tT) (gl m0 m : Nat), rTr pp τ lo N S P A t gl m0 m → rTr pp τ' lo' N' S' P' A' t gl m0 m
  | .leaf, _, _, _, h => h
  | .inner g d _ a b, gl, m0, m, h => by
    have Ia := rTr.keep (pp := pp) G hl hN hS hP hA a
    have Ib := rTr.keep (pp := pp) G hl hN hS hP hA b
    unfold rTr at h ⊢
    split at h
    · obtain ⟨m1, mb, ⟨⟨c1, c2⟩, c3, c4⟩, c5, c6, c7⟩ := h
      refine ⟨m1, mb, ⟨⟨by omega, by omega⟩, by omega, by omega⟩, ?_, Ia _ _ _ c6, Ib _ _ _ c7⟩
      rw [G.1 m1 c1 c2, G.1 m0 c3 c4]
      exact c5
    · exact ⟨Ia _ _ _ h.1, Ib _ _ _ h.2⟩
    · obtain ⟨m1, c1, c2⟩ := h
      exact ⟨m1, Ia _ _ _ c1, Ib _ _ _ c2⟩
    · obtain ⟨m1, c1, c2⟩ := h
      exact ⟨m1, Ia _ _ _ c1, Ib _ _ _ c2⟩
    · obtain ⟨c1, x, c2, c3⟩ := h
      obtain ⟨c4, c5⟩ := c1.at G hl hN
      exact ⟨c4, x, by rw [c5]; exact c2, Ia _ _ _ c3⟩
    · obtain ⟨c1, c2⟩ := h
      obtain ⟨c4, c5⟩ := c1.at G hl hN
      exact ⟨c4, by rw [c5]; exact c2⟩
    · obtain ⟨c1, c2⟩ := h
      obtain ⟨c4, c5⟩ := c1.at G hl hN
      exact ⟨c4, by rw [c5]; exact c2⟩
    · obtain ⟨c1, c2, x, y, c3, c6, c7⟩ := h
      obtain ⟨c4, c5⟩ := c1.at G hl hN
      exact ⟨c4, by rw [c5]; exact c2, x, y, by rw [c5]; exact c3, G.sm c6 hS hP, G.sm c7 hS hP⟩
    · obtain ⟨c1, c2, x, y, c3, c6, c7⟩ := h
      obtain ⟨c4, c5⟩ := c1.at G hl hN
      exact ⟨c4, by rw [c5]; exact c2, x, y, by rw [c5]; exact c3, Ia _ _ _ c6, Ib _ _ _ c7⟩
    · obtain ⟨c1, c2, x, y, c3, c6, c7⟩ := h
      obtain ⟨c4, c5⟩ := c1.at G hl hN
      exact ⟨c4, by rw [c5]; exact c2, x, y, by rw [c5]; exact c3, Ia _ _ _ c6, Ib _ _ _ c7⟩
    · obtain ⟨c1, c2, x, c3, c6⟩ := h
      obtain ⟨c4, c5⟩ := c1.at G hl hN
      exact ⟨c4, by rw [c5]; exact c2, x, by rw [c5]; exact c3, Ia _ _ _ c6⟩
    · obtain ⟨c1, c2, x, y, z, c3, c6, c7⟩ := h
      obtain ⟨c4, c5⟩ := c1.at G hl hN
      exact ⟨c4, by rw [c5]; exact c2, x, y, z, by rw [c5]; exact c3, Ia _ _ _ c6, Ib _ _ _ c7⟩
    · obtain ⟨c1, c2, x, y, c3, c6, c7⟩ := h
      obtain ⟨c4, c5⟩ := c1.at G hl hN
      exact ⟨c4, by rw [c5]; exact c2, x, y, by rw [c5]; exact c3, Ia _ _ _ c6, Ib _ _ _ c7⟩
    · obtain ⟨c1, c2, x, y, z, c3, c6, c7, c8⟩ := h
      obtain ⟨c4, c5⟩ := c1.at G hl hN
      exact ⟨c4, by rw [c5]; exact c2, x, y, z, by rw [c5]; exact c3, G.sm c6 hS hP, G.sm c7 hS hP, Ia _ _ _ c8⟩
    · obtain ⟨c1, x, c3, c6⟩ := h
      obtain ⟨c4, c5⟩ := c1.at G hl hN
      exact ⟨c4, x, by rw [c5]; exact c3, G.sm c6 hS hP⟩
    · exact (h.at G hl hN).1
    · exact (h.at G hl hN).1
    · obtain ⟨c1, x, c3, c6⟩ := h
      obtain ⟨c4, c5⟩ := c1.at G hl hN
      exact ⟨c4, x, by rw [c5]; exact c3, G.sm c6 hS hP⟩
    · obtain ⟨c1, c2, x, y, c3, c6, c7⟩ := h
      obtain ⟨c4, c5⟩ := c1.at G hl hN
      exact ⟨c4, by rw [c5]; exact c2, x, y, by rw [c5]; exact c3, G.sm c6 hS hP, G.sm c7 hS hP⟩
    · obtain ⟨c1, c2, x, y, c3, c6, c7⟩ := h
      obtain ⟨c4, c5⟩ := c1.at G hl hN
      exact ⟨c4, by rw [c5]; exact c2, x, y, by rw [c5]; exact c3, G.sm c6 hS hP, G.sm c7 hS hP⟩
    · obtain ⟨c1, c2, x, y, c3, c6, c7⟩ := h
      obtain ⟨c4, c5⟩ := c1.at G hl hN
      exact ⟨c4, by rw [c5]; exact c2, x, y, by rw [c5]; exact c3, G.sm c6 hS hP, G.sm c7 hS hP⟩
    · obtain ⟨c1, c2, x, c3, c6⟩ := h
      obtain ⟨c4, c5⟩ := c1.at G hl hN
      exact ⟨c4, by rw [c5]; exact c2, x, by rw [c5]; exact c3, G.sm c6 hS hP⟩
    · obtain ⟨c1, c2, x, q, c3, c6⟩ := h
      obtain ⟨c4, c5⟩ := c1.at G hl hN
      exact ⟨c4, by rw [c5]; exact c2, x, q, by rw [c5]; exact c3, Ia _ _ _ c6⟩
    · obtain ⟨c1, x, c3, c6⟩ := h
      obtain ⟨c4, c5⟩ := c1.at G hl hN
      exact ⟨c4, x, by rw [c5]; exact c3, Ia _ _ _ c6⟩
    · exact (h.at G hl hN).1
    · obtain ⟨c1, c2, x, c3, c6⟩ := h
      obtain ⟨c4, c5⟩ := c1.at G hl hN
      exact ⟨c4, by rw [c5]; exact c2, x, by rw [c5]; exact c3, G.sm c6 hS hP⟩
    · obtain ⟨c1, c2, x, y, c3, c6, c7⟩ := h
      obtain ⟨c4, c5⟩ := c1.at G hl hN
      exact ⟨c4, by rw [c5]; exact c2, x, y, by rw [c5]; exact c3, Ia _ _ _ c6, Ib _ _ _ c7⟩
    · obtain ⟨⟨c1, c2, c3, x, c4, c5⟩, c6⟩ := h
      refine ⟨⟨by omega, ?_, ?_, x, ?_, G.sm c5 hS hP⟩, Ib _ _ _ c6⟩ <;> rw [G.2.2.2 m0 c1] <;> assumption
    · obtain ⟨⟨c1, c2, c3, x, c4, c5⟩, c6⟩ := h
      refine ⟨⟨by omega, ?_, ?_, x, ?_, Ia _ _ _ c5⟩, Ib _ _ _ c6⟩ <;> rw [G.2.2.2 m0 c1] <;> assumption
    · obtain ⟨⟨c1, c2, c3⟩, c6⟩ := h
      refine ⟨⟨by omega, ?_, ?_⟩, Ib _ _ _ c6⟩ <;> rw [G.2.2.2 m0 c1] <;> assumption
    · exact h.elim
