/-! one way more, in whole numbers -/
/-- a level's cells as whole numbers -/
def fo (b W : Nat) (f : Nat → Int64) (i j : Nat) : Int := (f (b + i * W + j)).toInt
theorem e60 : (1152921504606846976 : Int64).toInt = 1152921504606846976 := by decide
/-- none, or within D -/
def fN (D : Int) (W : Nat) (f : Nat → Nat → Int) : Prop := ∀ i j, i < W → j < W → f i j = 1152921504606846976 ∨ (-D ≤ f i j ∧ f i j ≤ D)
def fLd (p q : Nat) (w : Int) (f : Nat → Nat → Int) (i j : Nat) : Int := if f i p < 1152921504606846976 ∧ f q j < 1152921504606846976 ∧ f i p + w + f q j < f i j then f i p + w + f q j else f i j
/-- row q as it stands when row i is come to -/
def fRq (p q : Nat) (w : Int) (f : Nat → Nat → Int) (i j : Nat) : Int := if q < i then fLd p q w f q j else f q j
def fLx (p q : Nat) (w : Int) (f : Nat → Nat → Int) (i j : Nat) : Int := if f i p < 1152921504606846976 ∧ fRq p q w f i j < 1152921504606846976 ∧ f i p + w + fRq p q w f i j < f i j then f i p + w + fRq p q w f i j else f i j
theorem lSt_i {x w a b : Int64} (h : -288230376151711744 ≤ x.toInt ∧ x.toInt ≤ 288230376151711744) (hw : -288230376151711744 ≤ w.toInt ∧ w.toInt ≤ 288230376151711744) (ha : -1152921504606846976 ≤ a.toInt ∧ a.toInt ≤ 1152921504606846976) : (lSt x w a b).toInt = if a.toInt < 1152921504606846976 ∧ x.toInt + w.toInt + a.toInt < b.toInt then x.toInt + w.toInt + a.toInt else b.toInt := by
  have e1 : (x + w).toInt = x.toInt + w.toInt := j_add (by omega) (by omega)
  have e2 : (x + w + a).toInt = x.toInt + w.toInt + a.toInt := by
    rw [j_add, e1]
    · rw [e1]; omega
    · rw [e1]; omega
  unfold lSt
  by_cases c1 : 0 ≤ lg_cmp a 1152921504606846976
  · rw [if_pos c1]
    have := (l_ge _ _).mp c1
    rw [e60] at this
    rw [if_neg (by omega)]
  · rw [if_neg c1]
    have c1' := l_gn c1
    rw [e60] at c1'
    by_cases c2 : 0 ≤ lg_cmp (x + w + a) b
    · rw [if_pos c2]
      have := (l_ge _ _).mp c2
      rw [if_neg (by omega)]
    · rw [if_neg c2]
      have c2' := l_gn c2
      rw [if_pos (by omega), e2]
section LDI
variable {W b p q : Nat} {w : Int64} {f : Nat → Int64}
theorem lRow_at {i : Nat} {x : Int64} (hi : i < W) (hq : q < W) (hx : x.toInt = 1152921504606846976 ∨ (-288230376151711744 ≤ x.toInt ∧ x.toInt ≤ 288230376151711744)) (hw : -288230376151711744 ≤ w.toInt ∧ w.toInt ≤ 288230376151711744) (ha : ∀ j, j < W → -1152921504606846976 ≤ fo b W f q j ∧ fo b W f q j ≤ 1152921504606846976) {u j : Nat} (hj : j < W) : fo b W (lRow b W q i x w f) u j = if u = i ∧ x.toInt < 1152921504606846976 ∧ fo b W f q j < 1152921504606846976 ∧ x.toInt + w.toInt + fo b W f q j < fo b W f u j then x.toInt + w.toInt + fo b W f q j else fo b W f u j := by
  have hin : (b + i * W ≤ b + u * W + j ∧ b + u * W + j < b + i * W + W) ↔ u = i := by
    rcases Nat.lt_trichotomy u i with y | y | y
    · have := ix_le (W := W) y; exact ⟨fun z => by omega, fun z => by omega⟩
    · subst y; exact ⟨fun _ => rfl, fun _ => by omega⟩
    · have := ix_le (W := W) y; exact ⟨fun z => by omega, fun z => by omega⟩
  unfold lRow
  by_cases c : 0 ≤ lg_cmp x 1152921504606846976
  · rw [if_pos c]
    have := (l_ge _ _).mp c
    rw [e60] at this
    rw [if_neg (by omega)]
  · rw [if_neg c]
    have c' := l_gn c
    rw [e60] at c'
    show (if _ then _ else _ : Int64).toInt = _
    by_cases z : u = i
    · rw [if_pos (hin.mpr z)]
      subst z
      have hj' := ha j hj
      have e : b + q * W + (b + u * W + j - (b + u * W)) = b + q * W + j := by omega
      rw [e, lSt_i (by omega) hw hj']
      by_cases y : (f (b + q * W + j)).toInt < 1152921504606846976 ∧ x.toInt + w.toInt + (f (b + q * W + j)).toInt < (f (b + u * W + j)).toInt
      · rw [if_pos y, if_pos ⟨rfl, c', y.1, y.2⟩]; rfl
      · rw [if_neg y, if_neg (fun h => y ⟨h.2.2.1, h.2.2.2⟩)]; rfl
    · rw [if_neg (fun h => z (hin.mp h)), if_neg (fun h => z h.1)]; rfl
/-- **lead**: every row -/
theorem lLd_at (hp : p < W) (hq : q < W) (hb : fN 144115188075855872 W (fo b W f)) (hw : -144115188075855872 ≤ w.toInt ∧ w.toInt ≤ 144115188075855872) : ∀ K, K ≤ W → ∀ i j, i < W → j < W → fo b W (lLd b W p q w K f) i j = if i < K then fLx p q w.toInt (fo b W f) i j else fo b W f i j
  | 0, _, i, j, _, _ => (if_neg (Nat.not_lt_zero _)).symm
  | K + 1, hK, i, j, hi, hj => by
    have ih := lLd_at hp hq hb hw K (by omega)
    have hKW : K < W := by omega
    have way : fo b W (lLd b W p q w K f) K p = fo b W f K p := by rw [ih K p hKW hp, if_neg (Nat.lt_irrefl _)]
    have rq : ∀ j, j < W → fo b W (lLd b W p q w K f) q j = fRq p q w.toInt (fo b W f) K j := fun j hj => by
      rw [ih q j hq hj]
      unfold fRq
      by_cases z : q < K
      · rw [if_pos z, if_pos z]
        unfold fLx fLd fRq
        rw [if_neg (Nat.lt_irrefl _)]
      · rw [if_neg z, if_neg z]
    have ba : ∀ j, j < W → -1152921504606846976 ≤ fo b W (lLd b W p q w K f) q j ∧ fo b W (lLd b W p q w K f) q j ≤ 1152921504606846976 := fun j hj => by
      rw [rq j hj]
      have h1 := hb q j hq hj
      have h2 := hb q p hq hp
      unfold fRq fLd
      split
      · split <;> omega
      · omega
    have hx : (lLd b W p q w K f (b + K * W + p)).toInt = fo b W f K p := way
    have hxb := hb K p hKW hp
    show fo b W (lRow b W q K (lLd b W p q w K f (b + K * W + p)) w (lLd b W p q w K f)) i j = _
    rw [lRow_at hKW hq (by rw [hx]; omega) (by omega) ba hj, hx, rq j hj]
    by_cases z : i = K
    · subst z
      rw [if_pos (Nat.lt_succ_self _), ih i j hi hj, if_neg (Nat.lt_irrefl _)]
      unfold fLx
      by_cases y : fo b W f i p < 1152921504606846976 ∧ fRq p q w.toInt (fo b W f) i j < 1152921504606846976 ∧ fo b W f i p + w.toInt + fRq p q w.toInt (fo b W f) i j < fo b W f i j
      · rw [if_pos y, if_pos ⟨rfl, y⟩]
      · rw [if_neg y, if_neg (fun h => y h.2)]
    · rw [if_neg (fun h => z h.1), ih i j hi hj]
      by_cases y : i < K
      · rw [if_pos y, if_pos (by omega)]
      · rw [if_neg y, if_neg (by omega)]
end LDI
/-- nothing outside of a level is changed -/
theorem lLd_out {b W p q : Nat} {w : Int64} : ∀ (K : Nat) (f : Nat → Int64), K ≤ W → ∀ e, (e < b ∨ b + W * W ≤ e) → lLd b W p q w K f e = f e
  | 0, f, _, e, _ => rfl
  | K + 1, f, hK, e, he => by
    have m := ix_le (W := W) (show K < W by omega)
    have ih := lLd_out (p := p) (q := q) (w := w) K f (by omega) e he
    show lRow b W q K _ w (lLd b W p q w K f) e = _
    unfold lRow
    split
    · exact ih
    · show (if _ then _ else _ : Int64) = _
      rw [if_neg (by omega)]
      exact ih
section LDA
variable {W p q : Nat} {w D : Int} {f g : Nat → Nat → Int}
theorem fLx_ld (hn : f q p < 1152921504606846976 → 0 ≤ w + f q p) (i j : Nat) : fLx p q w f i j = fLd p q w f i j := by
  have e : fRq p q w f i j = f q j := by
    unfold fRq
    split
    · unfold fLd
      rw [if_neg]
      rintro ⟨h1, h2, h3⟩
      have := hn h1
      omega
    · rfl
  unfold fLx fLd
  rw [e]
/-- a circle below 0 is seen at p -/
theorem fLx_neg (h0 : f p p = 0) (h1 : f q p < 1152921504606846976) (h2 : w + f q p < 0) : fLx p q w f p p < 0 := by
  have e : fRq p q w f p p ≤ f q p := by
    unfold fRq
    split
    · unfold fLd
      split <;> omega
    · exact Int.le_refl _
  unfold fLx
  rw [h0, if_pos (by omega)]
  omega
theorem fLx_le (i j : Nat) : fLx p q w f i j ≤ f i j := by
  unfold fLx
  split <;> omega
theorem fLx_bd (hD : 0 ≤ D) (hw : -D ≤ w ∧ w ≤ D) (hD2 : D ≤ 36028797018963968) (hp : p < W) (hq : q < W) (h : fN D W f) : fN (5 * D) W (fLx p q w f) := fun i j hi hj => by
  have h1 := h i j hi hj
  have h2 := h i p hi hp
  have h3 := h q j hq hj
  have h4 := h q p hq hp
  have h5 : fRq p q w f i j = 1152921504606846976 ∨ (-(3 * D) ≤ fRq p q w f i j ∧ fRq p q w f i j ≤ 3 * D) := by
    unfold fRq fLd
    split
    · split <;> omega
    · omega
  unfold fLx
  split <;> omega
theorem tbA.ld (hp : p < W) (hq : q < W) (hd : ∀ i, i < W → f i i ≤ 0) (hD : 0 ≤ D) (hD2 : D ≤ 36028797018963968) (hw : -D ≤ w ∧ w ≤ D) (h : fN D W f) (hg : ∀ i j, i < W → j < W → g i j = fLd p q w f i j) (i j : Nat) (c : Int) : tbA 1152921504606846976 W g i j c ↔ xL p q w (tbA 1152921504606846976 W f) i j c := by
  have hN : (0 : Int) < 1152921504606846976 := by decide
  by_cases hij : i < W ∧ j < W
  · obtain ⟨hi, hj⟩ := hij
    have hgd : ∀ i, i < W → g i i ≤ 0 := fun i hi => by
      rw [hg i i hi hi]
      unfold fLd
      have := hd i hi
      split <;> omega
    rw [tbA.at hN hgd hi hj, hg i j hi hj]
    unfold xL
    have e1 := fun c => tbA.at (c := c) hN hd hi hj
    have e2 := fun c => tbA.at (c := c) hN hd hi hp
    have e3 := fun c => tbA.at (c := c) hN hd hq hj
    have h2 := h i p hi hp
    have h3 := h q j hq hj
    unfold fLd
    constructor
    · intro h
      by_cases z : f i p < 1152921504606846976 ∧ f q j < 1152921504606846976 ∧ f i p + w + f q j < f i j
      · rw [if_pos z] at h
        exact Or.inr ⟨f i p, f q j, (e2 _).mpr ⟨z.1, Int.le_refl _⟩, (e3 _).mpr ⟨z.2.1, Int.le_refl _⟩, h.2⟩
      · rw [if_neg z] at h
        exact Or.inl ((e1 _).mpr h)
    · intro h
      rcases h with h | ⟨a, b, g1, g2, g3⟩
      · have := (e1 c).mp h
        split
        · omega
        · exact this
      · have q1 := (e2 a).mp g1
        have q2 := (e3 b).mp g2
        split
        · exact ⟨by omega, by omega⟩
        · rename_i z
          have : ¬ f i p + w + f q j < f i j := fun w => z ⟨q1.1, q2.1, w⟩
          exact ⟨by omega, by omega⟩
  · rw [tbA.out hij]
    unfold xL
    constructor
    · intro h
      exact Or.inl (Or.inr h)
    · intro h
      rcases h with h | ⟨a, b, h1, h2, h3⟩
      · exact (tbA.out hij).mp h
      · rcases h1 with ⟨h1, h1', -⟩ | ⟨h1, h1'⟩
        · rcases h2 with ⟨h2, h2', -⟩ | ⟨h2, h2'⟩
          · exact absurd ⟨h1, h2'⟩ hij
          · subst h2
            exact absurd ⟨h1, hq⟩ hij
        · subst h1
          rcases h2 with ⟨h2, h2', -⟩ | ⟨h2, h2'⟩
          · exact absurd ⟨hp, h2'⟩ hij
          · subst h2
            exact absurd ⟨hp, hq⟩ hij
end LDA
