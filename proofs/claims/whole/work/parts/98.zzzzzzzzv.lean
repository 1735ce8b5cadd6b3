/-! shortest ways: all at once, and one more -/
section FLW
/-- through k -/
def xF (k : Nat) (A : Nat → Nat → Int → Prop) (i j : Nat) (c : Int) : Prop := A i j c ∨ ∃ a b, A i k a ∧ A k j b ∧ a + b ≤ c
def xFW (A : Nat → Nat → Int → Prop) : Nat → Nat → Nat → Int → Prop
  | 0 => A
  | k + 1 => xF k (xFW A k)
/-- one way more: from p to q with w -/
def xL (p q : Nat) (w : Int) (A : Nat → Nat → Int → Prop) (i j : Nat) (c : Int) : Prop := A i j c ∨ ∃ a b, A i p a ∧ A q j b ∧ a + w + b ≤ c
/-- nothing but 0 beyond N -/
def xN0 (N : Nat) (A : Nat → Nat → Int → Prop) : Prop := ∀ i j c, A i j c → (i < N ∧ j < N) ∨ (i = j ∧ 0 ≤ c)
variable {A B : Nat → Nat → Int → Prop} {N : Nat}
theorem xF.up {k : Nat} (hu : xUp A) : xUp (xF k A) := fun i j c c' h hc => by
  rcases h with h | ⟨a, b, h1, h2, h3⟩
  · exact Or.inl (hu i j c c' h hc)
  · exact Or.inr ⟨a, b, h1, h2, by omega⟩
theorem xFW.up (hu : xUp A) : ∀ K, xUp (xFW A K)
  | 0 => hu
  | K + 1 => xF.up (xFW.up hu K)
theorem xFW.le : ∀ (K i j : Nat) (c : Int), A i j c → xFW A K i j c
  | 0, _, _, _, h => h
  | K + 1, i, j, c, h => Or.inl (xFW.le K i j c h)
/-- it is within all that is closed -/
theorem xFW.sub (hB : xUp B) (hT : xTri B) (hA : ∀ i j c, A i j c → B i j c) : ∀ (K i j : Nat) (c : Int), xFW A K i j c → B i j c
  | 0, i, j, c, h => hA i j c h
  | K + 1, i, j, c, h => by
    rcases h with h | ⟨a, b, h1, h2, h3⟩
    · exact xFW.sub hB hT hA K i j c h
    · exact hB _ _ _ _ (hT _ _ _ _ _ (xFW.sub hB hT hA K _ _ _ h1) (xFW.sub hB hT hA K _ _ _ h2)) h3
theorem xFW.n0 (h0 : xN0 N A) : ∀ K, K ≤ N → xN0 N (xFW A K)
  | 0, _ => h0
  | K + 1, hK => fun i j c h => by
    have ih := xFW.n0 h0 K (by omega)
    rcases h with h | ⟨a, b, h1, h2, h3⟩
    · exact ih i j c h
    · rcases ih i K a h1 with ⟨q1, q2⟩ | ⟨q1, q2⟩
      · rcases ih K j b h2 with ⟨r1, r2⟩ | ⟨r1, r2⟩
        · exact Or.inl ⟨q1, r2⟩
        · exact Or.inl ⟨q1, by omega⟩
      · rcases ih K j b h2 with ⟨r1, r2⟩ | ⟨r1, r2⟩
        · exact Or.inl ⟨by omega, r2⟩
        · exact Or.inl ⟨by omega, by omega⟩
/-- through all below K, where no circle is below 0 -/
theorem xFW.thr (hu : xUp A) : ∀ K, (∀ k, k < K → ∀ c, xFW A k k k c → 0 ≤ c) → ∀ k, k < K → ∀ i j a b, xFW A K i k a → xFW A K k j b → xFW A K i j (a + b)
  | 0, _, k, hk => by omega
  | K + 1, hn, k, hk => by
    intro i j a b h1 h2
    have ih := xFW.thr hu K (fun k hk => hn k (by omega))
    have up := xFW.up hu K
    have n0 := hn K (Nat.lt_succ_self K)
    by_cases z : k = K
    · subst z
      have g1 : xFW A k i k a := by
        rcases h1 with h1 | ⟨a1, a2, p1, p2, p3⟩
        · exact h1
        · have := n0 a2 p2
          exact up _ _ _ _ p1 (by omega)
      have g2 : xFW A k k j b := by
        rcases h2 with h2 | ⟨b1, b2, p1, p2, p3⟩
        · exact h2
        · have := n0 b1 p1
          exact up _ _ _ _ p2 (by omega)
      exact Or.inr ⟨a, b, g1, g2, Int.le_refl _⟩
    · have hk' : k < K := by omega
      rcases h1 with h1 | ⟨a1, a2, p1, p2, p3⟩
      · rcases h2 with h2 | ⟨b1, b2, r1, r2, r3⟩
        · exact Or.inl (ih k hk' i j a b h1 h2)
        · exact Or.inr ⟨a + b1, b2, ih k hk' i K a b1 h1 r1, r2, by omega⟩
      · rcases h2 with h2 | ⟨b1, b2, r1, r2, r3⟩
        · exact Or.inr ⟨a1, a2 + b, p1, ih k hk' K j a2 b p2 h2, by omega⟩
        · have := n0 _ (ih k hk' K K a2 b1 p2 r1)
          exact Or.inr ⟨a1, b2, p1, r2, by omega⟩
/-- **all shortest ways** -/
theorem xFW.tri (hu : xUp A) (h0 : xN0 N A) (hn : ∀ k, k < N → ∀ c, xFW A k k k c → 0 ≤ c) : xTri (xFW A N) := fun i k j a b h1 h2 => by
  by_cases z : k < N
  · exact xFW.thr hu N hn k z i j a b h1 h2
  · have n := xFW.n0 h0 N (Nat.le_refl _)
    rcases n i k a h1 with ⟨-, q⟩ | ⟨e, q⟩
    · omega
    · subst e
      exact xFW.up hu N _ _ _ _ h2 (by omega)
/-- the other signs go along -/
theorem xFW.coh {br : Nat → Nat} (hb : ∀ p, br (br p) = p) (hu : xUp A) (hc : xCoh br A) (ht : xTri (xFW A N)) : xCoh br (xFW A N) := fun p q c h => by
  have up := xFW.up hu N
  refine xFW.sub (A := A) (B := fun i j c => xFW A N (br j) (br i) c) (fun i j c c' h hcc => up _ _ _ _ h hcc) (fun i k j a b h1 h2 => ?_) (fun i j c h => xFW.le N _ _ _ (hc i j c h)) N p q c h
  have := ht _ _ _ _ _ h2 h1
  rw [Int.add_comm] at this
  exact this
/-- a circle below 0 follows from what was there -/
theorem xFW.dv {br : Nat → Nat} {C : Nat → Nat → Int → Prop} (hA : ∀ p q c, A p q c → xDv br C p q c) (K p q : Nat) (c : Int) (h : xFW A K p q c) : xDv br C p q c := fun D d1 d2 d3 d4 d5 d6 d7 => xFW.sub d1 d4 (fun p q c h => hA p q c h D d1 d2 d3 d4 d5 d6 d7) K p q c h
theorem xL.up {p q : Nat} {w : Int} (hu : xUp A) : xUp (xL p q w A) := fun i j c c' h hc => by
  rcases h with h | ⟨a, b, h1, h2, h3⟩
  · exact Or.inl (hu i j c c' h hc)
  · exact Or.inr ⟨a, b, h1, h2, by omega⟩
theorem xL.sub {p q : Nat} {w : Int} (hB : xUp B) (hT : xTri B) (hA : ∀ i j c, A i j c → B i j c) (hw : B p q w) (i j : Nat) (c : Int) (h : xL p q w A i j c) : B i j c := by
  rcases h with h | ⟨a, b, h1, h2, h3⟩
  · exact hA i j c h
  · exact hB _ _ _ _ (hT _ _ _ _ _ (hT _ _ _ _ _ (hA _ _ _ h1) hw) (hA _ _ _ h2)) h3
/-- **one way more** stays closed where no circle is below 0 -/
theorem xL.tri {p q : Nat} {w : Int} (hu : xUp A) (ht : xTri A) (hn : ∀ c, A q p c → 0 ≤ w + c) : xTri (xL p q w A) := fun i k j a b h1 h2 => by
  rcases h1 with h1 | ⟨a1, a2, p1, p2, p3⟩
  · rcases h2 with h2 | ⟨b1, b2, r1, r2, r3⟩
    · exact Or.inl (ht _ _ _ _ _ h1 h2)
    · exact Or.inr ⟨a + b1, b2, ht _ _ _ _ _ h1 r1, r2, by omega⟩
  · rcases h2 with h2 | ⟨b1, b2, r1, r2, r3⟩
    · exact Or.inr ⟨a1, a2 + b, p1, ht _ _ _ _ _ p2 h2, by omega⟩
    · have := hn _ (ht _ _ _ _ _ p2 r1)
      exact Or.inr ⟨a1, b2, p1, r2, by omega⟩
/-- both signs of one limit: p to q, and br q to br p -/
theorem xL.coh {br : Nat → Nat} (hb : ∀ p, br (br p) = p) {p q : Nat} {w : Int} (hu : xUp A) (hz : ∀ p, A p p 0) (hc : xCoh br A) (ht : xTri (xL (br q) (br p) w (xL p q w A))) : xCoh br (xL (br q) (br p) w (xL p q w A)) := fun i j c h => by
  have up : xUp (xL (br q) (br p) w (xL p q w A)) := xL.up (xL.up hu)
  have up' : xUp (fun i j c => xL (br q) (br p) w (xL p q w A) (br j) (br i) c) := fun i j c c' h hcc => up _ _ _ _ h hcc
  have tri' : xTri (fun i j c => xL (br q) (br p) w (xL p q w A) (br j) (br i) c) := fun i k j a b h1 h2 => by
    have := ht _ _ _ _ _ h2 h1
    rw [Int.add_comm] at this
    exact this
  have in1 : xL (br q) (br p) w (xL p q w A) p q w := Or.inl (Or.inr ⟨0, 0, hz p, hz q, by omega⟩)
  have in2 : xL (br q) (br p) w (xL p q w A) (br q) (br p) w := Or.inr ⟨0, 0, Or.inl (hz _), Or.inl (hz _), by omega⟩
  exact xL.sub up' tri' (fun i j c h => xL.sub up' tri' (fun i j c h => Or.inl (Or.inl (hc i j c h))) in2 i j c h) (by show xL (br q) (br p) w (xL p q w A) (br (br p)) (br (br q)) w; rw [hb, hb]; exact in1) i j c h
end FLW
