/-- the other sign -/
def bx (i : Nat) : Nat := i ^^^ 1
theorem bx_bx (i : Nat) : bx (bx i) = i := by
  unfold bx
  rw [Nat.xor_assoc, Nat.xor_self, Nat.xor_zero]
theorem bx_h (i : Nat) : bx i / 2 = i / 2 := by
  unfold bx
  rw [Nat.xor_div_two]
  simp
theorem bx_ne (i : Nat) : bx i ≠ i := fun e => by
  have : i ^^^ 1 ^^^ i = i ^^^ i := by
    have : bx i = i := e
    unfold bx at this
    rw [this]
  rw [Nat.xor_comm i 1, Nat.xor_assoc, Nat.xor_self, Nat.xor_zero] at this
  exact absurd this (by decide)
theorem bx_lt {c i : Nat} (h : i < 2 * c) : bx i < 2 * c := by
  have := bx_h i
  omega
section TIG
variable {N : Int} {W c : Nat} {f g : Nat → Nat → Int}
theorem tbA.x1 (hN : 0 < N) (hW : W = 2 * c) (hd : ∀ i, i < W → f i i ≤ 0) (hg : ∀ i j, i < W → j < W → g i j = if j = bx i ∧ f i j < N then 2 * (f i j / 2) else f i j) (i j : Nat) (e : Int) : tbA N W g i j e ↔ x1 bx (tbA N W f) i j e := by
  by_cases hij : i < W ∧ j < W
  · obtain ⟨hi, hj⟩ := hij
    have hgd : ∀ i, i < W → g i i ≤ 0 := fun i hi => by
      rw [hg i i hi hi, if_neg (fun w => bx_ne i w.1.symm)]
      exact hd i hi
    have e1 := fun c => tbA.at (c := c) hN hd hi hj
    rw [tbA.at hN hgd hi hj, hg i j hi hj]
    show _ ↔ _ ∨ _
    constructor
    · intro h
      by_cases z : j = bx i ∧ f i j < N
      · rw [if_pos z] at h
        exact Or.inr ⟨z.1, f i j, (e1 _).mpr ⟨z.2, Int.le_refl _⟩, h.2⟩
      · rw [if_neg z] at h
        exact Or.inl ((e1 _).mpr h)
    · intro h
      rcases h with h | ⟨q, c0, h1, h2⟩
      · have := (e1 e).mp h
        split
        · omega
        · exact this
      · have := (e1 c0).mp h1
        rw [if_pos ⟨q, this.1⟩]
        omega
  · rw [tbA.out hij]
    constructor
    · exact fun h => Or.inl (Or.inr h)
    · intro h
      rcases h with h | ⟨q, c0, h1, h2⟩
      · exact (tbA.out hij).mp h
      · have := (tbA.out hij).mp h1
        exact absurd (q.symm.trans this.1.symm) (bx_ne i)
theorem tbA.x2 (hN : 0 < N) (hW : W = 2 * c) (hd : ∀ i, i < W → f i i ≤ 0) (hg : ∀ i j, i < W → j < W → g i j = if f i (bx i) < N ∧ f (bx j) j < N ∧ f i (bx i) / 2 + f (bx j) j / 2 < f i j then f i (bx i) / 2 + f (bx j) j / 2 else f i j) (i j : Nat) (e : Int) : tbA N W g i j e ↔ x2 bx (tbA N W f) i j e := by
  by_cases hij : i < W ∧ j < W
  · obtain ⟨hi, hj⟩ := hij
    have hgd : ∀ i, i < W → g i i ≤ 0 := fun i hi => by
      rw [hg i i hi hi]
      have := hd i hi
      split <;> omega
    have hbi : bx i < W := by rw [hW] at hi ⊢; exact bx_lt hi
    have hbj : bx j < W := by rw [hW] at hj ⊢; exact bx_lt hj
    have e1 := fun c => tbA.at (c := c) hN hd hi hj
    have e2 := fun c => tbA.at (c := c) hN hd hi hbi
    have e3 := fun c => tbA.at (c := c) hN hd hbj hj
    rw [tbA.at hN hgd hi hj, hg i j hi hj]
    show _ ↔ _ ∨ _
    constructor
    · intro h
      by_cases z : f i (bx i) < N ∧ f (bx j) j < N ∧ f i (bx i) / 2 + f (bx j) j / 2 < f i j
      · rw [if_pos z] at h
        exact Or.inr ⟨_, _, (e2 _).mpr ⟨z.1, Int.le_refl _⟩, (e3 _).mpr ⟨z.2.1, Int.le_refl _⟩, h.2⟩
      · rw [if_neg z] at h
        exact Or.inl ((e1 _).mpr h)
    · intro h
      rcases h with h | ⟨a, b, h1, h2, h3⟩
      · have := (e1 e).mp h
        split
        · omega
        · exact this
      · have q1 := (e2 a).mp h1
        have q2 := (e3 b).mp h2
        split
        · exact ⟨by omega, by omega⟩
        · rename_i z
          have : ¬ f i (bx i) / 2 + f (bx j) j / 2 < f i j := fun w => z ⟨q1.1, q2.1, w⟩
          exact ⟨by omega, by omega⟩
  · rw [tbA.out hij]
    constructor
    · exact fun h => Or.inl (Or.inr h)
    · intro h
      rcases h with h | ⟨a, b, h1, h2, h3⟩
      · exact (tbA.out hij).mp h
      · rcases h1 with ⟨h1, h1', -⟩ | ⟨h1, h1'⟩
        · rcases h2 with ⟨h2, h2', -⟩ | ⟨h2, h2'⟩
          · exact absurd ⟨h1, h2'⟩ hij
          · exact absurd h2 (bx_ne j)
        · exact absurd h1.symm (bx_ne i)
end TIG
section RFW
variable {W c : Nat} {B : Int} {m : Nat → Int64}
/-- cells: none, or within D -/
def fC (D : Int) (W : Nat) (f : Nat → Nat → Int) : Prop := ∀ i j, i < W → j < W → f i j = 1125899906842624 ∨ (-D ≤ f i j ∧ f i j ≤ D)
def fZ (W : Nat) (f : Nat → Nat → Int) : Prop := ∀ i, i < W → f i i ≤ 0
/-- **all shortest ways in the reference's table**, or a circle below 0 -/
theorem oFw_at (hW : W ≤ 160) (hB : 0 ≤ B) (hBW : (W : Int) * B + B < 1125899906842624) (hd : fZ W (fm m)) (hc : fC B W (fm m)) : ∀ k, k ≤ W → ((∀ i, i < W → 0 ≤ fm (oFw W k m) i i) ∧ fZ W (fm (oFw W k m)) ∧ fC ((k : Int) * B + B) W (fm (oFw W k m)) ∧ ∀ i j c, tbA 1125899906842624 W (fm (oFw W k m)) i j c ↔ xFW (tbA 1125899906842624 W (fm m)) k i j c) ∨ ((∃ i, i < W ∧ fm (oFw W k m) i i < 0) ∧ ∃ v c, c < 0 ∧ xFW (tbA 1125899906842624 W (fm m)) k v v c)
  | 0, _ => by
    by_cases z : ∀ i, i < W → 0 ≤ fm m i i
    · refine Or.inl ⟨z, hd, fun i j hi hj => ?_, fun i j c => Iff.rfl⟩
      rcases hc i j hi hj with h | h
      · exact Or.inl h
      · have h1 : -B ≤ fm m i j ∧ fm m i j ≤ B := h
        exact Or.inr (show -((0 : Nat) * B + B) ≤ fm m i j ∧ fm m i j ≤ (0 : Nat) * B + B by omega)
    · obtain ⟨i, hi⟩ := Classical.not_forall.mp z
      obtain ⟨hi, hi'⟩ := Classical.not_imp.mp hi
      exact Or.inr ⟨⟨i, hi, by show fm m i i < 0; omega⟩, i, fm m i i, by omega, Or.inl ⟨hi, hi, by omega, Int.le_refl _⟩⟩
  | k + 1, hk => by
    have hN : (0 : Int) < 1125899906842624 := by decide
    have hm : ((k : Nat) : Int) * B + B ≤ (W : Int) * B := by
      have : ((k + 1 : Nat) : Int) * B ≤ (W : Int) * B := Int.mul_le_mul_of_nonneg_right (by omega) hB
      have e : ((k + 1 : Nat) : Int) * B = (k : Int) * B + B := by rw [Int.natCast_add, Int.add_mul]; omega
      omega
    have e1 : ((k + 1 : Nat) : Int) * B + B = (k : Int) * B + B + B := by rw [Int.natCast_add, Int.add_mul]; omega
    have hxB : xBd B (tbA 1125899906842624 W (fm m)) := fun i j c h => by
      rcases h with ⟨h1, h2, h3, h4⟩ | ⟨h1, h2⟩
      · rcases hc i j h1 h2 with q | q
        · omega
        · exact ⟨by omega, Or.inl ⟨h1, h2, h3, q.2⟩⟩
      · exact ⟨by omega, Or.inr ⟨h1, hB⟩⟩
    rcases oFw_at hW hB hBW hd hc k (by omega) with ⟨i1, i2, i3, i4⟩ | ⟨⟨i, hi, hi'⟩, v, c, hc', hv⟩
    · have hb : fB 576460752303423488 W (fm (oFw W k m)) := fun i j hi hj => by
        rcases i3 i j hi hj with h | h
        · omega
        · omega
      have h0 : fm (oFw W k m) k k = 0 := by
        have a := i1 k hk
        have b := i2 k hk
        omega
      have hg : ∀ i j, i < W → j < W → fm (oFw W (k + 1) m) i j = fSt 1125899906842624 k (fm (oFw W k m)) i j := fun i j hi hj => by
        show fm (oRws W k W (oFw W k m)) i j = _
        rw [oRws_at hW hk hb h0 W (Nat.le_refl _) i j hi hj, if_pos hi]
      have at' := fun {i j : Nat} (hi : i < W) (hj : j < W) (c : Int) => tbA.at (c := c) hN i2 hi hj
      by_cases hn : ∀ v c, xFW (tbA 1125899906842624 W (fm m)) (k + 1) v v c → 0 ≤ c
      · have bd := xFW.bd hB tbA.up hxB (k + 1) hn
        have hs : ∀ i j, i < W → j < W → fm (oFw W k m) i k < 1125899906842624 → fm (oFw W k m) k j < 1125899906842624 → 1125899906842624 ≤ fm (oFw W k m) i j → fm (oFw W k m) i k + fm (oFw W k m) k j < 1125899906842624 := fun i j hi hj h1 h2 h3 => by
          have w : xFW (tbA 1125899906842624 W (fm m)) (k + 1) i j (fm (oFw W k m) i k + fm (oFw W k m) k j) := Or.inr ⟨_, _, (i4 _ _ _).mp ((at' hi hk _).mpr ⟨h1, Int.le_refl _⟩), (i4 _ _ _).mp ((at' hk hj _).mpr ⟨h2, Int.le_refl _⟩), Int.le_refl _⟩
          rcases (bd i j _ w).2 with q | ⟨a, b, q1, q2, q3⟩
          · have := (at' hi hj _).mp ((i4 _ _ _).mpr q)
            omega
          · have r1 := (at' hi hk _).mp ((i4 _ _ _).mpr q1)
            have r2 := (at' hk hj _).mp ((i4 _ _ _).mpr q2)
            omega
        have hT : ∀ i j c, tbA 1125899906842624 W (fm (oFw W (k + 1) m)) i j c ↔ xFW (tbA 1125899906842624 W (fm m)) (k + 1) i j c := fun i j c => by
          rw [tbA.st hN hk i2 hs hg i j c]
          unfold xFW xF
          simp only [i4]
        have hd' : fZ W (fm (oFw W (k + 1) m)) := fun i hi => by
          rw [hg i i hi hi]
          have := i2 i hi
          unfold fSt
          split <;> omega
        have at2 := fun {i j : Nat} (hi : i < W) (hj : j < W) (c : Int) => tbA.at (c := c) hN hd' hi hj
        refine Or.inl ⟨fun i hi => ?_, hd', fun i j hi hj => ?_, hT⟩
        · have := hd' i hi
          exact hn i _ ((hT _ _ _).mp ((at2 hi hi _).mpr ⟨by omega, Int.le_refl _⟩))
        · have le : fm (oFw W (k + 1) m) i j ≤ fm (oFw W k m) i j := oRws_le W k W _ _
          by_cases z : fm (oFw W (k + 1) m) i j < 1125899906842624
          · have w := bd i j _ ((hT _ _ _).mp ((at2 hi hj _).mpr ⟨z, Int.le_refl _⟩))
            have w2 := (at2 hi hj _).mp ((hT _ _ _).mpr w.2)
            exact Or.inr ⟨w.1, w2.2⟩
          · rcases i3 i j hi hj with q | q
            · exact Or.inl (by omega)
            · omega
      · obtain ⟨v, hv⟩ := Classical.not_forall.mp hn
        obtain ⟨c, hv⟩ := Classical.not_forall.mp hv
        obtain ⟨hv, hc0⟩ := Classical.not_imp.mp hv
        refine Or.inr ⟨⟨v, ?_⟩, v, c, by omega, hv⟩
        rcases hv with hv | ⟨a, b, h1, h2, h3⟩
        · exfalso
          have := (i4 _ _ _).mpr hv
          rcases this with ⟨p1, p2, p3, p4⟩ | ⟨p1, p2⟩
          · have := i1 v p1
            omega
          · exact hc0 p2
        · have q1 := (i4 _ _ _).mpr h1
          have q2 := (i4 _ _ _).mpr h2
          have hvW : v < W := by
            rcases q1 with ⟨p1, -⟩ | ⟨p1, -⟩
            · exact p1
            · omega
          have r1 := (at' hvW hk _).mp q1
          have r2 := (at' hk hvW _).mp q2
          refine ⟨hvW, ?_⟩
          rw [hg v v hvW hvW]
          unfold fSt
          have := i1 v hvW
          rw [if_pos ⟨r1.1, r2.1, by omega⟩]
          omega
    · refine Or.inr ⟨⟨i, hi, ?_⟩, v, c, hc', Or.inl hv⟩
      have : fm (oFw W (k + 1) m) i i ≤ fm (oFw W k m) i i := oRws_le W k W _ _
      omega
end RFW
