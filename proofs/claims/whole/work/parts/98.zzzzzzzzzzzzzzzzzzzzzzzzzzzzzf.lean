/-! run(): S's stay small; what an E leaves has its type -/
theorem xmNi_int {n : Nat} (h : n < 2 ^ 31) : (xmNi n).toInt = n := by
  unfold xmNi
  rw [Int32.toInt_toInt64, nI_toInt h]
theorem xmNi_ix {n : Nat} (h : n < 2 ^ 31) : xmIx (xmNi n) = n := by
  unfold xmIx
  show (xmNi n).toInt.toNat = n
  rw [xmNi_int h]
  rfl
theorem xmB_iff {x : Int64} : xmB x = true ↔ -1099511627776 ≤ x.toInt ∧ x.toInt ≤ 1099511627776 := by
  unfold xmB
  exact decide_eq_true_iff
section XMW
variable {T cnt : Nat} {kk f pp ee : Nat → Int32} {tE tN : Nat → tY} {R : Nat → Int32} {L : List Nat} {y0 : tY} {h h' : xmHp} {env : List Nat} {vs : List xmV} {y : tY} {v : xmV} {t : tT} {ps : List tP}
theorem xmH.ln (H : xmH cnt kk f pp ee tE tN R L h) (v : Int64) : xmLn h v ≤ 1000 := by
  unfold xmLn
  rw [List.getD_eq_getElem?_getD]
  cases e : h.2.1[xmIx v]? with
  | none => exact Nat.zero_le _
  | some a => exact (H.2.1.1 a (List.mem_of_getElem? e)).1
theorem xmH.sz (H : xmH cnt kk f pp ee tE tN R L h) (v : Int64) : xmSz h v ≤ h.2.2.length := by
  unfold xmSz
  split
  · exact Nat.zero_le _
  · rw [List.getD_eq_getElem?_getD]
    cases e : h.2.2[xmIx v]? with
    | none => exact Nat.zero_le _
    | some c =>
      have := (H.2.2 _ c e).2.2
      have := xget_lt e
      show c.2.2 ≤ _
      omega
theorem yK_B (k : Nat) : yK (yB k) = k + 2 := rfl
/-- a PART is small -/
theorem xmPt_bd (H : xmH cnt kk f pp ee tE tN R L h) (hl : h.2.2.length ≤ 30000) (E : xmEn tE tN h env vs) {p : tP} (hw : p.1 ≠ 0 → rUs f pp ee R L env p.2.2) (hk : p.1 ≠ 0 → tN (gNu f pp ee env p.2.2) = yB (mPk p.1)) : -1099511627776 ≤ (xmPt T f pp ee h env vs p).toInt ∧ (xmPt T f pp ee h env vs p).toInt ≤ 1099511627776 := by
  unfold xmPt
  by_cases c0 : p.1 = 0
  · rw [if_pos c0, Int32.toInt_toInt64]
    have h1 := Int32.le_toInt (nW T f pp ee p.2.2)
    have h2 := Int32.toInt_lt (nW T f pp ee p.2.2)
    omega
  · rw [if_neg c0]
    by_cases c1 : p.1 = 1
    · rw [if_pos c1]
      have q := (E.get (hw c0)).2.2
      have e : yK (tN (gNu f pp ee env p.2.2)) = 2 := by rw [hk c0, c1]; rfl
      rcases q with ⟨-, -, b⟩ | ⟨z, -⟩ | ⟨z, -⟩ | ⟨z, -⟩ | ⟨z, -⟩
      · exact xmB_iff.mp b
      all_goals (rw [e] at z; omega)
    · rw [if_neg c1]
      by_cases c2 : p.1 = 2
      · rw [if_pos c2]
        have q := H.ln (xmGet f pp ee env vs p.2.2).2
        rw [xmNi_int (by omega)]
        omega
      · rw [if_neg c2]
        have q := H.sz (xmGet f pp ee env vs p.2.2).2
        rw [xmNi_int (by omega)]
        omega
theorem xsEv {p : tP} (hp : p ∈ ps) (c : p.1 ≠ 0) : p.2.2 ∈ sEv ps := by
  unfold sEv sNm
  exact List.mem_map_of_mem (f := fun p : tP => p.2.2) (List.mem_filter.mpr ⟨hp, decide_eq_true (by omega)⟩)
theorem sg_int (b : Bool) : (sg b).toInt64.toInt = if b = true then -1 else 1 := by
  cases b <;> rfl
theorem xmSm_go {X : tP → Int64} : ∀ (ps : List tP) (x : Int64) (m : Nat), m + ps.length ≤ 2000 → (-(m : Int) * 1099511627776 ≤ x.toInt ∧ x.toInt ≤ (m : Int) * 1099511627776) → (∀ p, p ∈ ps → -1099511627776 ≤ (X p).toInt ∧ (X p).toInt ≤ 1099511627776) → -((m + ps.length : Nat) : Int) * 1099511627776 ≤ (ps.foldl (fun x p => x + (sg p.2.1).toInt64 * X p) x).toInt ∧ (ps.foldl (fun x p => x + (sg p.2.1).toInt64 * X p) x).toInt ≤ ((m + ps.length : Nat) : Int) * 1099511627776
  | [], x, m, _, hx, _ => hx
  | p :: ps, x, m, hm, hx, hp => by
    rw [List.length_cons] at hm
    have hX := hp p (List.mem_cons_self ..)
    have em : ((sg p.2.1).toInt64 * X p).toInt = (if p.2.1 = true then -1 else 1) * (X p).toInt := by
      rw [j_mul (by rw [sg_int]; split <;> omega) (by rw [sg_int]; split <;> omega), sg_int]
    have eb : -1099511627776 ≤ ((sg p.2.1).toInt64 * X p).toInt ∧ ((sg p.2.1).toInt64 * X p).toInt ≤ 1099511627776 := by
      rw [em]
      split <;> omega
    have ea : (x + (sg p.2.1).toInt64 * X p).toInt = x.toInt + ((sg p.2.1).toInt64 * X p).toInt := j_add (by omega) (by omega)
    have I := xmSm_go ps (x + (sg p.2.1).toInt64 * X p) (m + 1) (by omega) (by rw [ea]; omega) (fun q hq => hp q (List.mem_cons_of_mem _ hq))
    have e2 : m + 1 + ps.length = m + (ps.length + 1) := by omega
    rw [e2] at I
    exact I
/-- **an S does not overflow** -/
theorem xmSm_bd (H : xmH cnt kk f pp ee tE tN R L h) (hl : h.2.2.length ≤ 30000) (E : xmEn tE tN h env vs) (hw : rWs f pp ee R L env (sEv ps)) (hk : gSo f pp ee tN env ps) (hn : ps.length ≤ 1001) : -1100611139403776 ≤ (xmSm T f pp ee h env vs ps).toInt ∧ (xmSm T f pp ee h env vs ps).toInt ≤ 1100611139403776 := by
  have I := xmSm_go (X := xmPt T f pp ee h env vs) ps 0 0 (by omega) (by rw [show (0 : Int64).toInt = 0 from rfl]; omega) (fun p hp => xmPt_bd H hl E (fun c => hw _ (xsEv hp c)) (fun c => hk p hp c))
  have e : ((0 + ps.length : Nat) : Int) ≤ 1001 := by omega
  unfold xmSm
  omega
end XMW
