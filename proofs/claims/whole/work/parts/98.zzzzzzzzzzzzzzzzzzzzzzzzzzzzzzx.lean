/-! run(), the class: sums -/
/-- what a Sum is worth -/
def lW (m : Nat → Int64) : List (Nat × Int32) → Int64
  | [] => 0
  | q :: L => q.2.toInt64 * m q.1 + lW m L
theorem lW_fold (m : Nat → Int64) : ∀ (L : List (Nat × Int32)) (x : Int64), L.foldl (fun x q => x + q.2.toInt64 * m q.1) x = x + lW m L
  | [], x => (Int64.add_zero x).symm
  | q :: L, x => by
    rw [List.foldl_cons, lW_fold m L, lW, Int64.add_assoc]
theorem lW_app (m : Nat → Int64) : ∀ (L M : List (Nat × Int32)), lW m (L ++ M) = lW m L + lW m M
  | [], M => (Int64.zero_add _).symm
  | q :: L, M => by
    rw [List.cons_append, lW, lW, lW_app m L M, Int64.add_assoc]
theorem lW_set (m : Nat → Int64) : ∀ (L : List (Nat × Int32)) (k : Nat) (p q : Nat × Int32), L[k]? = some p → lW m (L.set k q) + p.2.toInt64 * m p.1 = lW m L + q.2.toInt64 * m q.1
  | [], k, p, q, h => by cases h
  | r :: L, 0, p, q, h => by
    injection h with h
    subst h
    rw [List.set_cons_zero, lW, lW]
    rw [Int64.add_comm (q.2.toInt64 * m q.1), Int64.add_assoc, Int64.add_comm (q.2.toInt64 * m q.1), ← Int64.add_assoc, Int64.add_comm (lW m L)]
  | r :: L, k + 1, p, q, h => by
    have I := lW_set m L k p q h
    rw [List.set_cons_succ, lW, lW, Int64.add_assoc, I, Int64.add_assoc]
theorem lW_last (m : Nat → Int64) (L : List (Nat × Int32)) (q : Nat × Int32) (h : L[L.length - 1]? = some q) : lW m (L.take (L.length - 1)) + q.2.toInt64 * m q.1 = lW m L := by
  have hl := xget_lt h
  have e : L = L.take (L.length - 1) ++ [q] := by
    conv => lhs; rw [← List.take_append_drop (L.length - 1) L]
    congr 1
    rw [List.drop_eq_getElem_cons hl, List.drop_of_length_le (by omega)]
    congr 1
    rw [List.getElem?_eq_getElem hl] at h
    injection h
  conv => rhs; rw [e]
  rw [lW_app, lW, lW, Int64.add_zero]
theorem l_cn {a b c : Int64} (h : a + c = b + c) : a = b := by
  have := congrArg (fun x => x - c) h
  simp only [Int64.add_sub_cancel] at this
  exact this
theorem l_64 {c v : Int32} {K : Nat} (hc : -(K : Int) ≤ c.toInt ∧ c.toInt ≤ K) (hK : K ≤ 100000) (hv : -1 ≤ v.toInt ∧ v.toInt ≤ 1) : (c + v).toInt64 = c.toInt64 + v.toInt64 := by
  rw [← Int64.toInt_inj, Int32.toInt_toInt64, j_add (by rw [Int32.toInt_toInt64, Int32.toInt_toInt64]; omega) (by rw [Int32.toInt_toInt64, Int32.toInt_toInt64]; omega), Int32.toInt_toInt64, Int32.toInt_toInt64, Int32.toInt_add, Int.bmod_eq_of_le (by omega) (by omega)]
theorem lW_sL1 (m : Nat → Int64) (L : List (Nat × Int32)) (b : Nat) : lW m (sL1 L b) = lW m L := by
  unfold sL1
  split
  · rw [lW_app, lW, lW]
    show lW m L + ((0 : Int32).toInt64 * m b + 0) = lW m L
    rw [show (0 : Int32).toInt64 = 0 from rfl, Int64.zero_mul, Int64.add_zero, Int64.add_zero]
  · rfl
theorem lW_add (m : Nat → Int64) {L : List (Nat × Int32)} {b : Nat} {v : Int32} {K : Nat} (hL : sBd K L) (hK : K ≤ 100000) (hv : -1 ≤ v.toInt ∧ v.toInt ≤ 1) : lW m (sAdd L b v) = lW m L + v.toInt64 * m b := by
  obtain ⟨c, hc⟩ := sL1_at L b
  rw [← lW_sL1 m L b]
  have hb : -(K : Int) ≤ c.toInt ∧ c.toInt ≤ K := by
    have hm := List.mem_of_getElem? hc
    unfold sL1 at hm
    split at hm
    · rcases List.mem_append.mp hm with q | q
      · exact hL _ q
      · rw [List.mem_singleton] at q
        injection q with _ q
        rw [q]
        show -(K : Int) ≤ 0 ∧ (0 : Int) ≤ K
        omega
    · exact hL _ hm
  have h64 := l_64 hb hK hv
  unfold sAdd sUp
  have hat : sAt (sL1 L b) (sIx L b) = c := by unfold sAt; rw [hc]
  rw [hat]
  generalize sL1 L b = M at hc
  generalize sIx L b = k at hc
  by_cases c0 : c + v = 0
  · rw [if_pos c0]
    have hk := xget_lt hc
    obtain ⟨q, hq⟩ : ∃ q, M[M.length - 1]? = some q := ⟨_, List.getElem?_eq_getElem (by omega)⟩
    rw [hq]
    show lW m ((M.set k q).take (M.length - 1)) = _
    have h2 : (M.set k q)[(M.set k q).length - 1]? = some q := by
      rw [List.length_set]
      by_cases e : k = M.length - 1
      · rw [← e, List.getElem?_set_self hk]
      · rw [List.getElem?_set_ne e]; exact hq
    have a := lW_last m (M.set k q) q h2
    rw [List.length_set] at a
    have s := lW_set m M k (b, c) q hc
    have s : lW m (M.set k q) + c.toInt64 * m b = lW m M + q.2.toInt64 * m q.1 := s
    rw [← a, Int64.add_assoc, Int64.add_comm (q.2.toInt64 * m q.1), ← Int64.add_assoc] at s
    have s := l_cn s
    rw [c0] at h64
    have h64 : (0 : Int64) = c.toInt64 + v.toInt64 := h64
    rw [← s, Int64.add_assoc, ← Int64.add_mul, ← h64, Int64.zero_mul, Int64.add_zero]
  · rw [if_neg c0]
    have s := lW_set m M k (b, c) (b, c + v) hc
    have s : lW m (M.set k (b, c + v)) + c.toInt64 * m b = lW m M + (c + v).toInt64 * m b := s
    rw [h64, Int64.add_mul, Int64.add_comm (c.toInt64 * m b), ← Int64.add_assoc] at s
    exact l_cn s
/-- **an S of the class is an S** -/
theorem lW_sm {T : Nat} {f pp ee : Nat → Int32} {h : xmHp} {env : List Nat} {vs : List xmV} {m : Nat → Int64} {ns : Nat → Option Nat} : ∀ (l : List tP) (M : List (Nat × Int32)) (K : Nat) (x : Int64), (∀ p, p ∈ l → (p.1 = 0 → (nW T f pp ee p.2.2).toInt ≠ -2147483648) ∧ (p.1 ≠ 0 → ∃ b, ns p.2.2 = some b ∧ m b = xmPt T f pp ee h env vs p)) → K + l.length ≤ 100000 → sBd K M → l.foldl (fun x p => if p.1 = 0 then x + (sg p.2.1 * nW T f pp ee p.2.2).toInt64 else x) x + lW m (l.foldl (fun L p => if p.1 = 0 then L else match ns p.2.2 with | some b => sAdd L b (sg p.2.1) | none => L) M) = l.foldl (fun x p => x + (sg p.2.1).toInt64 * xmPt T f pp ee h env vs p) (x + lW m M)
  | [], M, K, x, hp, hK, hb => rfl
  | p :: l, M, K, x, hp, hK, hb => by
    rw [List.length_cons] at hK
    obtain ⟨p0, p1⟩ := hp p (List.mem_cons_self ..)
    have hp' := fun q hq => hp q (List.mem_cons_of_mem _ hq)
    simp only [List.foldl_cons]
    by_cases c : p.1 = 0
    · simp only [if_pos c]
      rw [lW_sm l M K _ hp' (by omega) hb]
      congr 1
      have e : xmPt T f pp ee h env vs p = (nW T f pp ee p.2.2).toInt64 := by unfold xmPt; rw [if_pos c]
      have e2 : (sg p.2.1 * nW T f pp ee p.2.2).toInt64 = (sg p.2.1).toInt64 * (nW T f pp ee p.2.2).toInt64 := by
        have b0 := p0 c
        have b1 := Int32.toInt_lt (nW T f pp ee p.2.2)
        have b2 := Int32.le_toInt (nW T f pp ee p.2.2)
        cases p.2.1 with
        | false =>
          show ((1 : Int32) * _).toInt64 = (1 : Int64) * _
          rw [Int32.one_mul, Int64.one_mul]
        | true =>
          show ((-1 : Int32) * _).toInt64 = (-1 : Int64) * _
          rw [Int32.neg_mul, Int32.one_mul, Int64.neg_mul, Int64.one_mul, ← Int64.toInt_inj, Int32.toInt_toInt64, Int32.toInt_neg, Int64.toInt_neg, Int32.toInt_toInt64, Int.bmod_eq_of_le (by omega) (by omega), Int.bmod_eq_of_le (by omega) (by omega)]
      rw [e, e2, Int64.add_assoc, Int64.add_comm _ (lW m M), ← Int64.add_assoc]
    · obtain ⟨b, e1, e2⟩ := p1 c
      simp only [if_neg c, e1]
      have sb := sg_bd p.2.1
      rw [lW_sm l (sAdd M b (sg p.2.1)) (K + 1) x hp' (by omega) (hb.add (by omega) sb), lW_add m hb (by omega) sb, e2, Int64.add_assoc]
section HCS
variable {κ : oKv} {T n : Nat} {σ : oSt} {ma ha hl top : Nat} {fm : List Value} {hp : Nat → Int64} {G : hG} {Ar : Nat → Prop} {nb : tT → List Nat → Nat → Prop} {h : xmHp} {vs : List xmV} {a : Nat}
/-- codes of types against kinds of values -/
def hKc (v : xmV) (c : Int32) : Prop := (v.1 = 2 → c = 200) ∧ (v.1 = 3 → c = 206) ∧ (v.1 = 4 → c = 213) ∧ (v.1 ≤ 1 → c ≠ 200 ∧ c ≠ 206 ∧ c ≠ 213)
/-- a NAME and its value -/
def hNa (vs : List xmV) (σ : oSt) (b : Nat) (v : xmV) : Prop := ∃ gs i c, σ.1 b = some (.inr (6, gs)) ∧ gs[1]? = some (.int (nI i)) ∧ gs[3]? = some (.int c) ∧ vs[i]? = some v ∧ hKc v c
/-- how a sum ends -/
def hSe (σ : oSt) (ma : Nat) (fm : List Value) (en : Int32) (x : Int64) : oSt := if xmB x = true then σ else if en = 0 then oput σ ma (.inr (5, fm.set 12 (.int 2))) else σ
theorem xmB_ab {x : Int64} (hx : -9223372036854775807 ≤ x.toInt) : (lg_cmp (if 0 < x then x else -x) 1099511627776 ≤ 0) ↔ xmB x = true := by
  have e : (1099511627776 : Int64).toInt = 1099511627776 := by decide
  have z : (0 : Int64).toInt = 0 := rfl
  have u := Int64.toInt_lt x
  rw [lg_le, Int64.le_iff_toInt_le, e]
  unfold xmB
  rw [decide_eq_true_iff]
  by_cases c : 0 < x
  · rw [if_pos c]
    rw [Int64.lt_iff_toInt_lt, z] at c
    omega
  · rw [if_neg c, Int64.toInt_neg, Int.bmod_eq_of_le (by omega) (by omega)]
    rw [Int64.lt_iff_toInt_lt, z] at c
    omega
/-- the loop of sum() -/
theorem c_sm11 {e su na ta cap : Nat} {L : List (Nat × Int32)} {pl : Int64} {fe : List Value} {en : Int32} {m : Nat → Int64} (M : hMa ma fm ha hl hp top σ) (H : hHp nb G top hp h) (hsc : fm[10]? = some (.int (nI a))) (hen : fm[12]? = some (.int en)) (hs : hSc G Ar top hp vs.reverse a) (he : σ.1 e = some (.inr (7, fe))) (h19 : fe[19]? = some (.ref su)) (h2 : fe[2]? = some (.int (nI vs.length))) (S : cSm σ su na ta cap L pl) (hT : vs.length < T) (hl' : vs.length < 2 ^ 31) (hm : ∀ (k b : Nat) (c : Int32), L[k]? = some (b, c) → ∃ v, hNa vs σ b v ∧ m b = xmOut h v) : ∀ (r k f : Nat) (x : Int64), k + r = L.length → r < f → -9223372036854775807 ≤ (x + lW m (L.drop k)).toInt → ol_X3_sum_11 T (oF κ T (n + 1)) κ f (some ma) (some e) x (nI k) σ = some (some (.long (x + lW m (L.drop k))), hSe σ ma fm en (x + lW m (L.drop k)))
  | 0, k, f, x, hk, hf, hx => by
    obtain ⟨f, rfl⟩ : ∃ g, f = g + 1 := ⟨f - 1, by omega⟩
    obtain ⟨g, h', s1, s2, s3, ⟨s4, s5, s6⟩, s7⟩ := id S
    have ed : L.drop k = [] := List.drop_of_length_le (by omega)
    rw [ed] at hx ⊢
    have ex : x + lW m [] = x := Int64.add_zero x
    rw [ex] at hx ⊢
    have o19 : ovr (ofd σ (some e) 7 19) = some (some su) := by rw [ofd_at he, h19]; rfl
    have c2 : ovi (ofd σ (some su) 11 2) = some (nI L.length) := by rw [ofd_at s1]; rfl
    rw [ol_X3_sum_11, o19, obn_at, c2, obn_at, if_pos (by rw [Int32.le_iff_toInt_le, nI_toInt (by omega), nI_toInt (by omega)]; omega)]
    unfold hSe
    by_cases cb : xmB x = true
    · rw [if_pos ((xmB_ab hx).mpr cb), if_pos cb]
    · rw [if_neg (fun w => cb ((xmB_ab hx).mp w)), if_neg cb, ofd_at M.1.1, hen, ovi_in, obn_at]
      by_cases c0 : en = 0
      · rw [if_pos c0, if_pos c0, opf_at M.1.1 (by rw [M.1.2]; decide), obn_at]
      · rw [if_neg c0, if_neg c0]
  | r + 1, k, f, x, hk, hf, hx => by
    obtain ⟨f, rfl⟩ : ∃ g, f = g + 1 := ⟨f - 1, by omega⟩
    obtain ⟨g, h', s1, s2, s3, ⟨s4, s5, s6⟩, s7⟩ := id S
    have hk' : k < L.length := by omega
    have ed : L.drop k = L[k] :: L.drop (k + 1) := List.drop_eq_getElem_cons hk'
    have ek : L[k]? = some (L[k].1, L[k].2) := List.getElem?_eq_getElem hk'
    obtain ⟨t1, t2, -⟩ := s7 k _ _ ek
    obtain ⟨v, ⟨gs, i, c, n1, n2, n3, n4, n5⟩, n6⟩ := hm k _ _ ek
    obtain ⟨xv, V1, V2⟩ := c_valueOf (κ := κ) (T := T) (n := n) M hsc hs n1 n2 n4 hT hl'
    have V3 := c_measure (κ := κ) (T := T) (n := n) M H V2 n5
    have o19 : ovr (ofd σ (some e) 7 19) = some (some su) := by rw [ofd_at he, h19]; rfl
    have c2 : ovi (ofd σ (some su) 11 2) = some (nI L.length) := by rw [ofd_at s1]; rfl
    have d0 : ovr (ofd σ (some su) 11 0) = some (some na) := by rw [ofd_at s1]; rfl
    have d1 : ovr (ofd σ (some su) 11 1) = some (some ta) := by rw [ofd_at s1]; rfl
    have r0 : oar σ (some na) (nI k) = some (some L[k].1) := by
      unfold oar
      simp only [s2]
      rw [if_pos (zin_n (by omega) (by omega)), nI_clamp (by omega), t1]
    have r1 : oai σ (some ta) .int (nI k) = some L[k].2 := by
      rw [oai_at s3 (zin_n (by omega) (by omega)), nI_clamp (by omega), t2]
    have e2 : ovi (ofd σ (some e) 7 2) = some (nI vs.length) := by rw [ofd_at he, h2]; rfl
    have e3 : ovi (ofd σ (some L[k].1) 6 3) = some c := by rw [ofd_at n1, n3]; rfl
    have ex : x + lW m (L.drop k) = x + L[k].2.toInt64 * xmOut h v + lW m (L.drop (k + 1)) := by
      rw [ed, lW, n6, Int64.add_assoc]
    rw [ex] at hx ⊢
    rw [ol_X3_sum_11, o19, obn_at, c2, obn_at, if_neg (by rw [Int32.le_iff_toInt_le, nI_toInt (by omega), nI_toInt (by omega)]; omega), obn_at, d0, obn_at, r0, obn_at, obn_at, d1, obn_at, r1, obn_at, e2, obn_at, oob_at M.1.1, obn_at, V1]
    unfold oln'
    simp only
    rw [e3, obn_at, V3]
    simp only
    rw [oob_at M.1.1, obn_at, nI_p1]
    exact c_sm11 M H hsc hen hs he h19 h2 S hT hl' hm r (k + 1) f _ (by omega) (by omega) hx
/-- **sum() (85)** -/
theorem h_sum {e su na ta cap : Nat} {L : List (Nat × Int32)} {pl : Int64} {fe : List Value} {en : Int32} {m : Nat → Int64} (M : hMa ma fm ha hl hp top σ) (H : hHp nb G top hp h) (hsc : fm[10]? = some (.int (nI a))) (hen : fm[12]? = some (.int en)) (hs : hSc G Ar top hp vs.reverse a) (he : σ.1 e = some (.inr (7, fe))) (h19 : fe[19]? = some (.ref su)) (h2 : fe[2]? = some (.int (nI vs.length))) (S : cSm σ su na ta cap L pl) (hT : vs.length < T) (hT' : 5000 ≤ T) (hl' : vs.length < 2 ^ 31) (hm : ∀ (k b : Nat) (c : Int32), L[k]? = some (b, c) → ∃ v, hNa vs σ b v ∧ m b = xmOut h v) (hx : -9223372036854775807 ≤ (pl + lW m L).toInt) : oF κ T (n + 2) 85 [va_rf (some ma), va_rf (some e)] σ = some (some (.long (pl + lW m L)), hSe σ ma fm en (pl + lW m L)) := by
  rw [oE_X3_sum]
  unfold ob_X3_sum
  obtain ⟨g, h', s1, s2, s3, ⟨s4, s5, s6⟩, s7⟩ := id S
  have o19 : ovr (ofd σ (some e) 7 19) = some (some su) := by rw [ofd_at he, h19]; rfl
  have c3 : ovl (ofd σ (some su) 11 3) = some pl := by rw [ofd_at s1]; rfl
  rw [o19, obn_at, c3, obn_at]
  exact c_sm11 M H hsc hen hs he h19 h2 S hT hl' hm L.length 0 T pl (by omega) (by omega) hx
end HCS
