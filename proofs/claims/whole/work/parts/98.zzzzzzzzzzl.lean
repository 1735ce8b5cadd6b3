/-! lineWay() of the reference -/
/-- a NAME's column -/
def cOl (V : zSt) (d : Nat) : Nat := (V.2.2.1 89 d).toNatClampNeg
/-- a line that can be noted -/
def lFo (V : zSt) (c : Nat) (M : List (Nat × Int32)) : Prop := M.length ≤ 2 ∧ (∀ q, q ∈ M → q.1 < 1501 ∧ V.2.2.1 89 q.1 = nI (cOl V q.1) ∧ cOl V q.1 < c ∧ -2 ≤ q.2.toInt ∧ q.2.toInt ≤ 2 ∧ q.2.toInt ≠ 0) ∧ ∀ q q', M = [q, q'] → cOl V q.1 ≠ cOl V q'.1
def dLn (V : zSt) (M : List (Nat × Int32)) : List (Nat × Int) := M.map (fun q => (cOl V q.1, q.2.toInt))
theorem i32_sg {s t : Int32} (hs : s = 1 ∨ s = -1) (ht : -2 ≤ t.toInt ∧ t.toInt ≤ 2) : (s * t).toInt = s.toInt * t.toInt := by
  rw [Int32.toInt_mul]
  rcases hs with rfl | rfl
  · rw [show (1 : Int32).toInt = 1 from rfl, Int.bmod_eq_of_le (by omega) (by omega)]
  · rw [show (-1 : Int32).toInt = -1 from rfl, Int.bmod_eq_of_le (by omega) (by omega)]
theorem i64_sg {s : Int32} {pl mo : Int64} (hs : s = 1 ∨ s = -1) (hp : -1125899906842624 ≤ pl.toInt ∧ pl.toInt ≤ 1125899906842624) (hm : mo = 0 ∨ mo = 1) : (s.toInt64 * pl + mo).toInt = s.toInt * pl.toInt + mo.toInt := by
  have e1 : (s.toInt64 * pl).toInt = s.toInt * pl.toInt := by
    rcases hs with rfl | rfl
    · rw [show (1 : Int32).toInt64 = 1 from rfl, show (1 : Int32).toInt = 1 from rfl, j_mul] <;> rw [show (1 : Int64).toInt = 1 from rfl] <;> omega
    · rw [show (-1 : Int32).toInt64 = -1 from rfl, show (-1 : Int32).toInt = -1 from rfl, j_mul] <;> rw [show (-1 : Int64).toInt = -1 from rfl] <;> omega
  have b1 : -1125899906842624 ≤ s.toInt * pl.toInt ∧ s.toInt * pl.toInt ≤ 1125899906842624 := by
    rcases hs with rfl | rfl
    · rw [show (1 : Int32).toInt = 1 from rfl]; omega
    · rw [show (-1 : Int32).toInt = -1 from rfl]; omega
  have b2 : mo.toInt = 0 ∨ mo.toInt = 1 := by
    rcases hm with rfl | rfl
    · exact Or.inl rfl
    · exact Or.inr rfl
  rw [j_add, e1] <;> rw [e1] <;> omega
section LWY
variable {ks : Nat → Nat} {qs : List Nat} {T n h0 c : Nat} {V τ : zSt} {Sk : List (Int32 × Bool)} {Ws : List oWy} {Ts : List (Nat × Bool)} {B : Int}
theorem r_lineWay {M : List (Nat × Int32)} {s : Int32} {mo : Int64} (hc : 0 < c ∧ c ≤ 60) (J : rJs V τ Sk Ws Ts) (hl : Ws.length < 300) (hM : rLn τ M) (hF : lFo V c M) (hs : s = 1 ∨ s = -1) (hm : mo = 0 ∨ mo = 1) (hp : -1125899906842624 ≤ (τ.2.1 64).toInt ∧ (τ.2.1 64).toInt ≤ 1125899906842624) (hB : -B ≤ 2 * (τ.2.1 64).toInt - 2 ∧ 2 * (τ.2.1 64).toInt + 2 ≤ B) : ∃ w τ', zF h0 qs ks T (n + 2) 97 [.ref h0, .int s, .long mo] τ = some (none, τ') ∧ rJs V τ' Sk (Ws ++ [w]) Ts ∧ mkE τ τ' ∧ (rLn τ' M ∧ τ'.2.1 64 = τ.2.1 64) ∧ wyOk B c w ∧ wLm w = cmL (dLn V M) (τ.2.1 64).toInt s.toInt mo.toInt := by
  obtain ⟨f1, f2, f3⟩ := hF
  obtain ⟨m1, m2⟩ := hM
  have num := i64_sg (pl := τ.2.1 64) hs hp hm
  have b2 : mo.toInt = 0 ∨ mo.toInt = 1 := by
    rcases hm with rfl | rfl
    · exact Or.inl rfl
    · exact Or.inr rfl
  have b3 : s.toInt * (τ.2.1 64).toInt = (τ.2.1 64).toInt ∨ s.toInt * (τ.2.1 64).toInt = -(τ.2.1 64).toInt := by
    rcases hs with rfl | rfl
    · rw [show (1 : Int32).toInt = 1 from rfl]; exact Or.inl (by omega)
    · rw [show (-1 : Int32).toInt = -1 from rfl]; exact Or.inr (by omega)
  have bn : -B ≤ 2 * (s.toInt64 * τ.2.1 64 + mo).toInt ∧ 2 * (s.toInt64 * τ.2.1 64 + mo).toInt ≤ B := by rw [num]; omega
  have en : -(s.toInt64 * τ.2.1 64 + mo).toInt = -s.toInt * (τ.2.1 64).toInt - mo.toInt := by rw [num, Int.neg_mul]; omega
  have e89 : τ.2.2.1 89 = V.2.2.1 89 := J.1.2.2.1 89 (by decide)
  have sgn : ∀ t : Int32, -2 ≤ t.toInt ∧ t.toInt ≤ 2 ∧ t.toInt ≠ 0 → (s * t).toInt = s.toInt * t.toInt ∧ (-2 ≤ (s * t).toInt ∧ (s * t).toInt ≤ 2) ∧ (s * t).toInt ≠ 0 ∧ (((s * t).toInt = 1 ∨ (s * t).toInt = -1) ↔ (t.toInt = 1 ∨ t.toInt = -1)) := fun t ht => by
    have e := i32_sg hs ⟨ht.1, ht.2.1⟩
    refine ⟨e, ?_⟩
    rw [e]
    rcases hs with rfl | rfl
    · rw [show (1 : Int32).toInt = 1 from rfl]; omega
    · rw [show (-1 : Int32).toInt = -1 from rfl]; omega
  have z2 : -2 ≤ (0 : Int32).toInt ∧ (0 : Int32).toInt ≤ 2 := by decide
  rw [show n + 2 = (n + 1) + 1 from rfl, zE_lineWay]
  unfold b_lineWay
  rw [m1]
  have keep : ∀ (τ' : zSt), τ'.1 63 = τ.1 63 ∧ τ'.2.1 64 = τ.2.1 64 ∧ τ'.2.2.1 40 = τ.2.2.1 40 ∧ τ'.2.2.1 41 = τ.2.2.1 41 → rLn τ' M ∧ τ'.2.1 64 = τ.2.1 64 := fun τ' k => ⟨⟨k.1.trans m1, fun i q e => by rw [k.2.2.1, k.2.2.2]; exact m2 i q e⟩, k.2.1⟩
  match M, f1, f2, f3, m1, m2, keep with
  | [], f1, f2, f3, m1, m2, keep =>
    rw [if_pos (show nI ([] : List (Nat × Int32)).length ≤ 0 by decide)]
    obtain ⟨τ', a1, a2, a3, a4⟩ := r_way (ks := ks) (qs := qs) (T := T) (n := n) (h0 := h0) (w := (0, 0, 0, 0, s.toInt64 * τ.2.1 64 + mo)) J hl
    refine ⟨_, τ', ?_, a2, a3, keep τ' a4, ⟨hc.1, hc.1, z2, z2, fun e => absurd rfl e, bn⟩, ?_⟩
    · unfold j_lineWay_21 j_lineWay_45 j_lineWay_69 j_lineWay_91
      rw [m1, if_pos (show nI ([] : List (Nat × Int32)).length ≤ 1 by decide), if_pos (show nI ([] : List (Nat × Int32)).length ≤ 0 by decide), if_pos (show nI ([] : List (Nat × Int32)).length ≤ 1 by decide)]
      have : zF h0 qs ks T (n + 1) 96 [.ref h0, .int 0, .int 0, .int 0, .int 0, .long (s.toInt64 * τ.2.1 64 + mo)] τ = _ := a1
      rw [this, zcv_at]
    · show aM 0 0 0 0 (-(s.toInt64 * τ.2.1 64 + mo).toInt) = (0, 1, -s.toInt * (τ.2.1 64).toInt - mo.toInt)
      rw [en]
      rfl
  | [q], f1, f2, f3, m1, m2, keep =>
    obtain ⟨p1, p2, p3, p4⟩ := f2 q (List.mem_cons_self ..)
    obtain ⟨g1, g2, g3, g4⟩ := sgn q.2 p4
    obtain ⟨r1, r2⟩ := m2 0 q rfl
    have c1 : zF h0 qs ks T (n + 1) 85 [.ref h0, .int (nI q.1)] τ = some (some (.int (nI (cOl V q.1))), τ) := r_col p1 (by omega) (by rw [e89]; exact p2)
    obtain ⟨τ', a1, a2, a3, a4⟩ := r_way (ks := ks) (qs := qs) (T := T) (n := n) (h0 := h0) (w := (cOl V q.1, s * q.2, 0, 0, s.toInt64 * τ.2.1 64 + mo)) J hl
    refine ⟨_, τ', ?_, a2, a3, keep τ' a4, ⟨p3, hc.1, g2, z2, fun _ e => absurd rfl e, bn⟩, ?_⟩
    · rw [if_neg (show ¬ nI [q].length ≤ 0 from by show ¬ nI 1 ≤ 0; decide)]
      unfold j_lineWay_21 j_lineWay_45 j_lineWay_69 j_lineWay_91
      simp only [show (0 : Int32).toNatClampNeg = 0 by decide, show zin 0 40 = true by decide, zgd, if_true, r1, c1, zci, m1]
      rw [if_pos (show nI [q].length ≤ 1 from by show nI 1 ≤ 1; decide), if_neg (show ¬ nI [q].length ≤ 0 from by show ¬ nI 1 ≤ 0; decide), if_pos (show nI [q].length ≤ 1 from by show nI 1 ≤ 1; decide), r2]
      have : zF h0 qs ks T (n + 1) 96 [.ref h0, .int (nI (cOl V q.1)), .int (s * q.2), .int 0, .int 0, .long (s.toInt64 * τ.2.1 64 + mo)] τ = _ := a1
      rw [this, zcv_at]
    · show aM (cOl V q.1) (s * q.2).toInt 0 0 (-(s.toInt64 * τ.2.1 64 + mo).toInt) = (sd (cOl V q.1) (s.toInt * q.2.toInt), sd (cOl V q.1) (s.toInt * q.2.toInt), if q.2.toInt = 1 ∨ q.2.toInt = -1 then 2 * (-s.toInt * (τ.2.1 64).toInt - mo.toInt) else -s.toInt * (τ.2.1 64).toInt - mo.toInt)
      unfold aM
      rw [if_neg (fun e => g3 e.1), if_pos rfl, en, g1]
      rw [g1] at g4
      by_cases z : q.2.toInt = 1 ∨ q.2.toInt = -1
      · rw [if_pos z, if_pos (g4.mpr z)]
      · rw [if_neg z, if_neg (fun e => z (g4.mp e))]
  | [q, q'], f1, f2, f3, m1, m2, keep =>
    obtain ⟨p1, p2, p3, p4⟩ := f2 q (List.mem_cons_self ..)
    obtain ⟨p1', p2', p3', p4'⟩ := f2 q' (List.mem_cons_of_mem _ (List.mem_cons_self ..))
    obtain ⟨g1, g2, g3, g4⟩ := sgn q.2 p4
    obtain ⟨g1', g2', g3', g4'⟩ := sgn q'.2 p4'
    obtain ⟨r1, r2⟩ := m2 0 q rfl
    obtain ⟨r1', r2'⟩ := m2 1 q' rfl
    have c1 : zF h0 qs ks T (n + 1) 85 [.ref h0, .int (nI q.1)] τ = some (some (.int (nI (cOl V q.1))), τ) := r_col p1 (by omega) (by rw [e89]; exact p2)
    have c1' : zF h0 qs ks T (n + 1) 85 [.ref h0, .int (nI q'.1)] τ = some (some (.int (nI (cOl V q'.1))), τ) := r_col p1' (by omega) (by rw [e89]; exact p2')
    obtain ⟨τ', a1, a2, a3, a4⟩ := r_way (ks := ks) (qs := qs) (T := T) (n := n) (h0 := h0) (w := (cOl V q.1, s * q.2, cOl V q'.1, s * q'.2, s.toInt64 * τ.2.1 64 + mo)) J hl
    refine ⟨_, τ', ?_, a2, a3, keep τ' a4, ⟨p3, p3', g2, g2', fun _ _ => f3 q q' rfl, bn⟩, ?_⟩
    · rw [if_neg (show ¬ nI [q, q'].length ≤ 0 from by show ¬ nI 2 ≤ 0; decide)]
      unfold j_lineWay_21 j_lineWay_45 j_lineWay_69 j_lineWay_91
      simp only [show (0 : Int32).toNatClampNeg = 0 by decide, show (1 : Int32).toNatClampNeg = 1 by decide, show zin 0 40 = true by decide, show zin 1 40 = true by decide, zgd, if_true, r1, r1', c1, c1', zci, m1]
      rw [if_neg (show ¬ nI [q, q'].length ≤ 1 from by show ¬ nI 2 ≤ 1; decide), if_neg (show ¬ nI [q, q'].length ≤ 0 from by show ¬ nI 2 ≤ 0; decide), if_neg (show ¬ nI [q, q'].length ≤ 1 from by show ¬ nI 2 ≤ 1; decide), r2, r2']
      have : zF h0 qs ks T (n + 1) 96 [.ref h0, .int (nI (cOl V q.1)), .int (s * q.2), .int (nI (cOl V q'.1)), .int (s * q'.2), .long (s.toInt64 * τ.2.1 64 + mo)] τ = _ := a1
      rw [this, zcv_at]
    · show aM (cOl V q.1) (s * q.2).toInt (cOl V q'.1) (s * q'.2).toInt (-(s.toInt64 * τ.2.1 64 + mo).toInt) = (sd (cOl V q.1) (s.toInt * q.2.toInt), sd (cOl V q'.1) (s.toInt * q'.2.toInt), -s.toInt * (τ.2.1 64).toInt - mo.toInt)
      unfold aM
      rw [if_neg (fun e => g3 e.1), if_neg g3', if_neg g3, en, g1, g1']
  | q :: q' :: q'' :: M, f1, f2, f3, m1, m2, keep => exact absurd f1 (by simp only [List.length_cons]; omega)
end LWY
