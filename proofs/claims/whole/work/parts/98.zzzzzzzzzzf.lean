/-! the reference's tables of limits, and leaf() up to its questions -/
/-- both sides the same: an even number -/
def rnd (l : oLm) : oLm := if l.1 = l.2.1 then (l.1, l.1, 2 * (l.2.2 / 2)) else l
theorem rnd_dv (L : List oLm) : xDv bx (xC (L.map rnd)) = xDv bx (xC L) := by
  refine xDv.eq (fun p q e h => ?_) (fun p q e h => ?_)
  · obtain ⟨l, h1, h2, h3⟩ := h
    obtain ⟨k, hk, rfl⟩ := List.mem_map.mp h1
    unfold rnd at h2 h3
    by_cases z : k.1 = k.2.1
    · rw [if_pos z] at h2 h3
      have a : xDv bx (xC L) (bx k.1) k.1 k.2.2 := xDv.base _ _ _ ⟨k, hk, Or.inr ⟨rfl, z⟩, Int.le_refl _⟩
      have b : xDv bx (xC L) (bx k.1) (bx (bx k.1)) k.2.2 := by rw [bx_bx]; exact a
      have d := xDv.ev _ _ b
      rw [bx_bx] at d
      have d := xDv.up _ _ _ _ d h3
      rcases h2 with ⟨rfl, rfl⟩ | ⟨rfl, rfl⟩
      · exact d
      · exact d
    · rw [if_neg z] at h2 h3
      exact xDv.base _ _ _ ⟨k, hk, h2, h3⟩
  · obtain ⟨k, hk, h2, h3⟩ := h
    have hm : rnd k ∈ L.map rnd := List.mem_map.mpr ⟨k, hk, rfl⟩
    by_cases z : k.1 = k.2.1
    · have er : rnd k = (k.1, k.1, 2 * (k.2.2 / 2)) := if_pos z
      refine xDv.base _ _ _ ⟨rnd k, hm, ?_, ?_⟩
      · rw [er]
        rcases h2 with ⟨rfl, rfl⟩ | ⟨rfl, rfl⟩
        · exact Or.inl ⟨by rw [z], rfl⟩
        · exact Or.inr ⟨rfl, z.symm⟩
      · rw [er]
        show 2 * (k.2.2 / 2) ≤ e
        omega
    · have er : rnd k = k := if_neg z
      exact xDv.base _ _ _ ⟨rnd k, hm, by rw [er]; exact h2, by rw [er]; exact h3⟩
theorem rnd_ok (L : List oLm) : xOk (xC (L.map rnd)) ↔ xOk (xC L) := by
  unfold xOk
  rw [rnd_dv]
/-- the table of the limits M -/
def rTc (B : Int) (W : Nat) (M : List oLm) (m : Nat → Int64) : Prop := (∀ i, i < W → fm m i i = 0) ∧ fC B W (fm m) ∧ ∀ i j e, tbA 1125899906842624 W (fm m) i j e ↔ xCz M i j e
section RTC
variable {B : Int} {W c : Nat} {M : List oLm} {m m' : Nat → Int64}
theorem rTc.add {x y : Nat} {w : Int} (hWc : W = 2 * c) (hx : x < W) (hy : y < W) (hB : B < 1125899906842624) (hw : -B ≤ w ∧ w ≤ B) (hn : x ≠ bx y) (hg : ∀ p q, p < W → q < W → fm m' p q = if ((p = bx y ∧ q = x) ∨ (p = bx x ∧ q = y)) ∧ w < fm m p q then w else fm m p q) (h : rTc B W M m) : rTc B W ((x, y, w) :: M) m' := by
  obtain ⟨q1, q2, q3⟩ := h
  have hN : (0 : Int) < 1125899906842624 := by decide
  have sub : ∀ l, l ∈ M → l ∈ (x, y, w) :: M := fun l h => List.mem_cons_of_mem _ h
  have blt : ∀ {x}, x < W → bx x < W := fun {x} hx => by rw [hWc] at hx ⊢; exact bx_lt hx
  have hg0 : ∀ i, i < W → fm m' i i = 0 := fun i hi => by
    rw [hg i i hi hi, if_neg]
    · exact q1 i hi
    · rintro ⟨⟨k1, k2⟩ | ⟨k1, k2⟩, -⟩
      · exact hn (k2.symm.trans k1)
      · apply hn
        rw [← k2, k1, bx_bx]
  have hgd : ∀ i, i < W → fm m' i i ≤ 0 := fun i hi => by rw [hg0 i hi]; exact Int.le_refl _
  have hd : ∀ i, i < W → fm m i i ≤ 0 := fun i hi => by rw [q1 i hi]; exact Int.le_refl _
  refine ⟨hg0, fun i j hi hj => ?_, fun i j e => ?_⟩
  · rw [hg i j hi hj]
    split
    · exact Or.inr hw
    · exact q2 i j hi hj
  · by_cases hij : i < W ∧ j < W
    · obtain ⟨hi, hj⟩ := hij
      rw [tbA.at hN hgd hi hj, hg i j hi hj]
      have o1 := (tbA.at (c := e) hN hd hi hj).symm.trans (q3 i j e)
      by_cases sp : (i = bx y ∧ j = x) ∨ (i = bx x ∧ j = y)
      · constructor
        · intro k
          by_cases z : w < fm m i j
          · rw [if_pos ⟨sp, z⟩] at k
            exact Or.inl ⟨(x, y, w), List.mem_cons_self .., sp, k.2⟩
          · rw [if_neg (fun v => z v.2)] at k
            rcases o1.mp k with k | k
            · exact Or.inl (xC.mono sub _ _ _ k)
            · exact Or.inr k
        · intro k
          have old : xCz M i j e → fm m i j < 1125899906842624 ∧ fm m i j ≤ e := o1.mpr
          have : (w ≤ e) ∨ (fm m i j < 1125899906842624 ∧ fm m i j ≤ e) := by
            rcases k with ⟨l, k1, k2, k3⟩ | k
            · rcases List.mem_cons.mp k1 with rfl | k1
              · exact Or.inl k3
              · exact Or.inr (old (Or.inl ⟨l, k1, k2, k3⟩))
            · exact Or.inr (old (Or.inr k))
          by_cases z : w < fm m i j
          · rw [if_pos ⟨sp, z⟩]
            omega
          · rw [if_neg (fun v => z v.2)]
            omega
      · rw [if_neg (fun v => sp v.1), o1]
        constructor
        · rintro (k | k)
          · exact Or.inl (xC.mono sub _ _ _ k)
          · exact Or.inr k
        · rintro (⟨l, k1, k2, k3⟩ | k)
          · rcases List.mem_cons.mp k1 with rfl | k1
            · exact absurd k2 sp
            · exact Or.inl ⟨l, k1, k2, k3⟩
          · exact Or.inr k
    · rw [tbA.out hij]
      have o1 : (i = j ∧ 0 ≤ e) ↔ xCz M i j e := (tbA.out hij).symm.trans (q3 i j e)
      rw [o1]
      constructor
      · rintro (k | k)
        · exact Or.inl (xC.mono sub _ _ _ k)
        · exact Or.inr k
      · rintro (⟨l, k1, k2, k3⟩ | k)
        · rcases List.mem_cons.mp k1 with rfl | k1
          · rcases k2 with ⟨rfl, rfl⟩ | ⟨rfl, rfl⟩
            · exact absurd ⟨blt hy, hx⟩ hij
            · exact absurd ⟨blt hx, hy⟩ hij
          · exact Or.inl ⟨l, k1, k2, k3⟩
        · exact Or.inr k
/-- a limit without a NAME that is no limit -/
theorem rTc.triv {y : Nat} {w : Int} (hw : 0 ≤ w) (h : rTc B W M m) : rTc B W ((bx y, y, w) :: M) m := by
  obtain ⟨q1, q2, q3⟩ := h
  refine ⟨q1, q2, fun i j e => ?_⟩
  rw [q3]
  constructor
  · rintro (k | k)
    · exact Or.inl (xC.mono (fun l h => List.mem_cons_of_mem _ h) _ _ _ k)
    · exact Or.inr k
  · rintro (⟨l, k1, k2, k3⟩ | k)
    · rcases List.mem_cons.mp k1 with rfl | k1
      · have k3 : w ≤ e := k3
        rcases k2 with ⟨rfl, rfl⟩ | ⟨rfl, rfl⟩
        · exact Or.inr ⟨rfl, by omega⟩
        · exact Or.inr ⟨bx_bx _, by omega⟩
      · exact Or.inl ⟨l, k1, k2, k3⟩
    · exact Or.inr k
theorem oLow_at {i j p q : Nat} {v : Int64} (hj : j < 160) (hq : q < 160) : fm (oLow m (160 * i + j) v) p q = if (p = i ∧ q = j) ∧ v.toInt < fm m p q then v.toInt else fm m p q := by
  unfold oLow
  by_cases z : 0 ≤ lg_cmp v (m (160 * i + j))
  · rw [if_pos z]
    have := (l_ge _ _).mp z
    rw [if_neg]
    rintro ⟨⟨rfl, rfl⟩, w⟩
    have w : v.toInt < (m (160 * p + q)).toInt := w
    omega
  · rw [if_neg z]
    have z' := l_gn z
    rw [fm_upd hj hq]
    by_cases y : p = i ∧ q = j
    · obtain ⟨rfl, rfl⟩ := y
      rw [if_pos ⟨rfl, rfl⟩, if_pos ⟨⟨rfl, rfl⟩, z'⟩]
    · rw [if_neg y, if_neg (fun w => y w.1)]
theorem ite_low {P1 P2 : Prop} [Decidable P1] [Decidable P2] {n u v : Int} (e : u = if P1 ∧ n < v then n else v) : (if P2 ∧ n < u then n else u) = if (P1 ∨ P2) ∧ n < v then n else v := by
  subst e
  by_cases h1 : P1 <;> by_cases h2 : P2 <;> by_cases y : n < v <;> simp [h1, h2, y]
/-- ta times the one and tb times the other are at most y -/
def aM (a : Nat) (ta : Int) (b : Nat) (tb : Int) (y : Int) : oLm := if ta = 0 ∧ tb = 0 then (0, 1, y) else if tb = 0 then (sd a ta, sd a ta, if ta = 1 ∨ ta = -1 then 2 * y else y) else if ta = 0 then (sd b tb, sd b tb, if tb = 1 ∨ tb = -1 then 2 * y else y) else (sd a ta, sd b tb, y)
theorem j_neg {x : Int64} (h : -4611686018427387904 ≤ x.toInt ∧ x.toInt ≤ 4611686018427387904) : (-x).toInt = -x.toInt := by
  rw [Int64.toInt_neg, Int.bmod_eq_of_le (by omega) (by omega)]
/-- **atMost() notes its limit** -/
theorem oAt_rT {L : List oLm} {a b : Nat} {ta tb : Int32} {num : Int64} (hWc : W = 2 * c) (hc : c ≤ 80) (ha : a < c) (hb : b < c) (hB : B < 1125899906842624) (hnum : -B ≤ 2 * num.toInt ∧ 2 * num.toInt ≤ B) (hta : -2 ≤ ta.toInt ∧ ta.toInt ≤ 2) (htb : -2 ≤ tb.toInt ∧ tb.toInt ≤ 2) (hz : ¬ (ta = 0 ∧ tb = 0)) (hab : ta ≠ 0 → tb ≠ 0 → a ≠ b) (h : rTc B W (L.map rnd) m) : rTc B W ((aM a ta.toInt b tb.toInt (-num.toInt) :: L).map rnd) (oAt a ta b tb num m) := by
  have en : (-num).toInt = -num.toInt := j_neg (by omega)
  have e2 : (2 : Int64).toInt = 2 := by decide
  have edn : (oDn (-num)).toInt = (-num.toInt) / 2 := by rw [oDn_i, en] <;> rw [en] <;> omega
  have i2 : ∀ t : Int32, (t = 2 ∨ t = -2) ↔ (t.toInt = 2 ∨ t.toInt = -2) := fun t => by
    constructor
    · rintro (e | e)
      · rw [e]; exact Or.inl rfl
      · rw [e]; exact Or.inr rfl
    · rintro (e | e)
      · exact Or.inl (Int32.toInt_inj.mp (e.trans rfl))
      · exact Or.inr (Int32.toInt_inj.mp (e.trans rfl))
  have sdl : ∀ {s : Nat} {t : Int}, s < c → sd s t < W := fun {s t} hs => by unfold sd; split <;> omega
  have one : ∀ (s : Nat) (t : Int32), s < c → (-2 ≤ t.toInt ∧ t.toInt ≤ 2) → t.toInt ≠ 0 → rTc B W (((sd s t.toInt, sd s t.toInt, if t.toInt = 1 ∨ t.toInt = -1 then 2 * (-num.toInt) else -num.toInt) :: L).map rnd) (oLow m (160 * bx (sd s t.toInt) + sd s t.toInt) (2 * (if t = 2 ∨ t = -2 then oDn (-num) else -num))) := fun s t hs ht h0 => by
    have hsd := sdl (t := t.toInt) hs
    have ev : (2 * (if t = 2 ∨ t = -2 then oDn (-num) else -num)).toInt = 2 * ((if t.toInt = 1 ∨ t.toInt = -1 then 2 * (-num.toInt) else -num.toInt) / 2) := by
      by_cases z : t = 2 ∨ t = -2
      · have z' := (i2 t).mp z
        rw [if_pos z, if_neg (by omega), j_mul, e2, edn] <;> rw [e2, edn] <;> omega
      · have z' : ¬ (t.toInt = 2 ∨ t.toInt = -2) := fun w => z ((i2 t).mpr w)
        rw [if_neg z, if_pos (by omega), j_mul, e2, en]
        · omega
        · rw [e2, en]; omega
        · rw [e2, en]; omega
    have er : rnd (sd s t.toInt, sd s t.toInt, if t.toInt = 1 ∨ t.toInt = -1 then 2 * (-num.toInt) else -num.toInt) = (sd s t.toInt, sd s t.toInt, 2 * ((if t.toInt = 1 ∨ t.toInt = -1 then 2 * (-num.toInt) else -num.toInt) / 2)) := if_pos rfl
    rw [List.map_cons, er]
    refine rTc.add hWc hsd hsd hB (by split <;> omega) (fun e => bx_ne _ e.symm) (fun p q hp hq => ?_) h
    rw [oLow_at (by omega) (by omega), ev]
    simp only [or_self]
  have h0a := i32_0 ta
  have h0b := i32_0 tb
  unfold aM oAt
  rw [if_neg (by rw [← h0a, ← h0b]; exact hz)]
  by_cases zb : tb = 0
  · rw [if_pos zb, if_pos (h0b.mp zb)]
    exact one a ta ha hta (fun e => hz ⟨h0a.mpr e, zb⟩)
  · rw [if_neg zb, if_neg (fun e => zb (h0b.mpr e))]
    by_cases za : ta = 0
    · rw [if_pos za, if_pos (h0a.mp za)]
      exact one b tb hb htb (fun e => zb (h0b.mpr e))
    · rw [if_neg za, if_neg (fun e => za (h0a.mpr e))]
      have hne := hab za zb
      have hs1 := sdl (t := ta.toInt) ha
      have hs2 := sdl (t := tb.toInt) hb
      have h1 : (sd a ta.toInt) / 2 = a := by unfold sd; split <;> omega
      have h2 : (sd b tb.toInt) / 2 = b := by unfold sd; split <;> omega
      have er : rnd (sd a ta.toInt, sd b tb.toInt, -num.toInt) = (sd a ta.toInt, sd b tb.toInt, -num.toInt) := if_neg (fun e => hne (by rw [← h1, ← h2]; exact congrArg (· / 2) e))
      rw [List.map_cons, er]
      have b2 := bx_h (sd b tb.toInt)
      have b1 := bx_h (sd a ta.toInt)
      have lb2 : bx (sd b tb.toInt) < 160 := bx_lt (c := 80) (by omega)
      have lb1 : bx (sd a ta.toInt) < 160 := bx_lt (c := 80) (by omega)
      refine rTc.add hWc hs1 hs2 hB (by omega) (fun e => hne (by rw [← h1, e, b2, h2])) (fun p q hp hq => ?_) h
      have ei : fm (oLow m (160 * bx (sd b tb.toInt) + sd a ta.toInt) (-num)) p q = if (p = bx (sd b tb.toInt) ∧ q = sd a ta.toInt) ∧ (-num).toInt < fm m p q then (-num).toInt else fm m p q := oLow_at (by omega) (by omega)
      rw [oLow_at (by omega) (by omega), ← en]
      exact ite_low ei
end RTC
