/-! numbers of an S are small: 2000 a letter -/
section NUB
variable {T : Nat} {f pp ee : Nat → Int32}
theorem sg_pm (b : Bool) (s0 : Int32) (h : s0 = 1 ∨ s0 = -1) : sg b * s0 = 1 ∨ sg b * s0 = -1 := by
  rcases h with rfl | rfl <;> cases b <;> decide
theorem nLs_st {b : Bool} {s0 x : Int32} (h : s0 = 1 ∨ s0 = -1) : ((sg b * s0).toInt64 * x.toInt64).toInt = x.toInt ∨ ((sg b * s0).toInt64 * x.toInt64).toInt = -x.toInt := by
  have h1 := Int32.le_toInt x
  have h2 := Int32.toInt_lt x
  rw [Int64.toInt_mul, Int32.toInt_toInt64, Int32.toInt_toInt64]
  rcases sg_pm b s0 h with e | e <;> rw [e]
  · left
    rw [show (1 : Int32).toInt = 1 from rfl, Int.one_mul, Int.bmod_eq_of_le (by omega) (by omega)]
  · right
    rw [show (-1 : Int32).toInt = -1 from rfl, Int.neg_one_mul, Int.bmod_eq_of_le (by omega) (by omega)]
/-- letters of the NUMBERS of an S -/
def lwS (wt : Nat → Nat) (ps : List tP) : Nat := (ps.map (fun p => if p.1 = 0 then wt p.2.2 else 0)).sum
theorem lwS_c (wt : Nat → Nat) (p : tP) (ps : List tP) : lwS wt (p :: ps) = (if p.1 = 0 then wt p.2.2 else 0) + lwS wt ps := by
  unfold lwS
  rw [List.map_cons, List.sum_cons]
theorem nLs_bd {wt : Nat → Nat} {s0 : Int32} (hs : s0 = 1 ∨ s0 = -1) : ∀ (ps : List tP) (l : Int64) (K : Int), (∀ p, p ∈ ps → p.1 = 0 → -(2000 * (wt p.2.2 : Int)) ≤ (nW T f pp ee p.2.2).toInt ∧ (nW T f pp ee p.2.2).toInt ≤ 2000 * (wt p.2.2 : Int)) → -K ≤ l.toInt → l.toInt ≤ K → K + 2000 * (lwS wt ps : Int) ≤ 1000000000000000 → -(K + 2000 * (lwS wt ps : Int)) ≤ (nLs T f pp ee s0 ps l).toInt ∧ (nLs T f pp ee s0 ps l).toInt ≤ K + 2000 * (lwS wt ps : Int)
  | [], l, K, _, h1, h2, _ => by
    show -(K + 2000 * ((0 : Nat) : Int)) ≤ l.toInt ∧ l.toInt ≤ K + 2000 * ((0 : Nat) : Int)
    omega
  | p :: ps, l, K, hw, h1, h2, hK => by
    rw [lwS_c] at hK ⊢
    show _ ≤ (nLs T f pp ee s0 ps (if p.1 = 0 then l + (sg p.2.1 * s0).toInt64 * (nW T f pp ee p.2.2).toInt64 else l)).toInt ∧ (nLs T f pp ee s0 ps (if p.1 = 0 then l + (sg p.2.1 * s0).toInt64 * (nW T f pp ee p.2.2).toInt64 else l)).toInt ≤ _
    by_cases c : p.1 = 0
    · rw [if_pos c] at hK ⊢
      rw [if_pos c]
      obtain ⟨w1, w2⟩ := hw p (List.mem_cons_self ..) c
      have st := nLs_st (b := p.2.1) (x := nW T f pp ee p.2.2) hs
      have ev : (l + (sg p.2.1 * s0).toInt64 * (nW T f pp ee p.2.2).toInt64).toInt = l.toInt + ((sg p.2.1 * s0).toInt64 * (nW T f pp ee p.2.2).toInt64).toInt := by
        rw [Int64.toInt_add, Int.bmod_eq_of_le (by omega) (by omega)]
      have I := nLs_bd hs ps (l + (sg p.2.1 * s0).toInt64 * (nW T f pp ee p.2.2).toInt64) (K + 2000 * (wt p.2.2 : Int)) (fun x hx => hw x (List.mem_cons_of_mem _ hx)) (by rw [ev]; omega) (by rw [ev]; omega) (by omega)
      omega
    · rw [if_neg c] at hK ⊢
      rw [if_neg c]
      have I := nLs_bd hs ps l K (fun x hx => hw x (List.mem_cons_of_mem _ hx)) h1 h2 (by omega)
      omega
/-- both sides of a comparison -/
theorem dPl_bd {wt : Nat → Nat} {p1 p2 : List tP} (hw : ∀ p, p ∈ p1 ++ p2 → p.1 = 0 → -(2000 * (wt p.2.2 : Int)) ≤ (nW T f pp ee p.2.2).toInt ∧ (nW T f pp ee p.2.2).toInt ≤ 2000 * (wt p.2.2 : Int)) (hl : lwS wt p1 + lwS wt p2 ≤ 100000) : -(2000 * (lwS wt p1 + lwS wt p2 : Int)) ≤ dPl T f pp ee p1 p2 ∧ dPl T f pp ee p1 p2 ≤ 2000 * (lwS wt p1 + lwS wt p2 : Int) := by
  obtain ⟨a1, a2⟩ := nLs_bd (wt := wt) (Or.inl rfl) p1 0 0 (fun p hp => hw p (List.mem_append_left _ hp)) (by show -(0 : Int) ≤ 0; omega) (by show (0 : Int) ≤ 0; omega) (by omega)
  obtain ⟨b1, b2⟩ := nLs_bd (wt := wt) (Or.inr rfl) p2 (nLs T f pp ee 1 p1 0) (0 + 2000 * (lwS wt p1 : Int)) (fun p hp => hw p (List.mem_append_right _ hp)) a1 a2 (by omega)
  unfold dPl
  omega
end NUB
