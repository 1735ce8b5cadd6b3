/-! the reference's decide() of a PROGRAM -/
section TX7
variable {ks : Nat → Nat} {qs : List Nat} {kk pp ee f fc : Nat → Int32} {T n h0 len cnt j N S P A x0 : Nat} {xs : List tQ} {is : List (Nat × Nat)} {e : tT} {α : Nat → tY} {τ V : zSt} {g' : gG} {ρ' : Nat → tY} {q0 : Nat → gTy} {A0 : gTy} {inv : Nat → gN} {yc : tY}
theorem i32_64 (x : Int32) : x.toInt64 = Int64.ofInt x.toInt := by
  apply Int64.toInt_inj.mp
  have h1 := Int32.le_toInt x
  have h2 := Int32.toInt_lt x
  rw [Int32.toInt_toInt64, Int64.toInt_ofInt, show Int64.size = 18446744073709551616 from rfl, Int.bmod_eq_of_le (by omega) (by omega)]
/-- what decide() writes first changes nothing of the PROGRAM -/
theorem pgR.d1 (h : pgR T len cnt kk pp ee f xs is e α N S P A x0 g' ρ' τ) (d : dF1 τ V) : pgR T len cnt kk pp ee f xs is e α N S P A x0 g' ρ' V := by
  obtain ⟨h1, h2, ⟨⟨k, ⟨a1, a2⟩, ⟨b1, b2⟩, c⟩, h3⟩, h4, h5⟩ := h
  have s := d.1
  have r := d.2.2.1
  refine ⟨by rw [s 66 (by decide) (by decide)]; exact h1, h2.keep (fun k hk => s k (by rcases hk with rfl | rfl | rfl | rfl | rfl <;> decide) (by omega)) (fun k hk _ _ _ => r k (by omega) (by omega)), ⟨⟨k, ⟨by rw [s 59 (by decide) (by decide)]; exact a1, a2⟩, ⟨by rw [s 60 (by decide) (by decide)]; exact b1, b2⟩, fun t ht => by rw [r 34 (by decide) (by decide), r 35 (by decide) (by decide), r 36 (by decide) (by decide), r 37 (by decide) (by decide), r 38 (by decide) (by decide)]; exact c t ht⟩, h3⟩, fun p hp ht => ?_, fun j u hu => by rw [r 31 (by decide) (by decide)]; exact h5 j u hu⟩
  rw [nE_keep (fun k hk => r k (by omega) (by omega))] at hp
  obtain ⟨c, c1, c2⟩ := h4 p hp ht
  exact ⟨c, by rw [r 39 (by decide) (by decide)]; exact c1, c2⟩
theorem rAt_d1 (r : ∀ k, k ≠ 66 → k ≠ 89 → V.2.2.1 k = τ.2.2.1 k) : rAt 0 N S P A τ V ∧ rAt 0 N S P A V τ := by
  have e1 : ∀ m, nV V m = nV τ m := fun m => funext (fun k => by
    unfold nV
    rw [r _ (by omega) (by omega)])
  have e2 : ∀ m, gV V m = gV τ m := fun m => funext (fun k => by
    unfold gV
    rw [r _ (by omega) (by omega)])
  exact ⟨⟨fun m _ _ => e1 m, fun k j _ _ _ => by rw [r k (by omega) (by omega)], fun k j _ _ _ => by rw [r k (by omega) (by omega)], fun m _ => e2 m⟩, ⟨fun m _ _ => (e1 m).symm, fun k j _ _ _ => by rw [r k (by omega) (by omega)], fun k j _ _ _ => by rw [r k (by omega) (by omega)], fun m _ => (e2 m).symm⟩⟩
/-- conditions as they lie in the rows -/
def pCd (pp : Nat → Int32) (τ : zSt) (N S P A cnt : Nat) (t : tT) (m : Nat) : Prop := rTr pp τ 0 N S P A t 0 0 m ∧ cWf cnt t false
set_option maxHeartbeats 1000000 in
/-- **a PROGRAM is what decide() needs** -/
theorem tx_7 (hT : 12400 ≤ T) (hn : 1300 ≤ n) (hq : qs.getD 88 0 ≠ qs.getD 87 0) (hp : pgT T len cnt j kk pp ee f fc xs is e α) (hR0 : pgR T len cnt kk pp ee f xs is e α N S P A x0 g' ρ' τ) (hi : pGi T f pp ee xs is e α (τ.2.2.1 32) inv) (cp : gCp (pTE f pp ee is e α) (pTN f pp ee is e α) e (gSs (gIs is [] (q0, [], [])).1).length) (tc : ∀ k, (if k = 75 ∨ k = 79 ∨ k = 109 then 6 else 0) + gTc f pp ee (pTE f pp ee is e α) (pTN f pp ee is e α) xs e (is.map Prod.fst) yc (gSs (gIs is [] (q0, [], [])).1).length k ≤ uLm k) (tc1 : gTc f pp ee (pTE f pp ee is e α) (pTN f pp ee is e α) xs e (is.map Prod.fst) yc (gSs (gIs is [] (q0, [], [])).1).length 110 + 2100 ≤ 12000) (d : dF1 τ V) : dHy ks qs T n h0 len cnt 0 N S P A (is.map Prod.fst ++ tW e) V kk pp ee f g' ρ' (pTE f pp ee is e α) (pTN f pp ee is e α) (pGm T f pp ee xs is e α (τ.2.2.1 32) inv) (pCd pp τ N S P A cnt) 8008000000002 is e x0 ((mE f pp ee e (is.map Prod.fst) (mIn is mI0)).2 α) yc (gIs is [] (q0, [], [])).1 := by
  have hR := hR0.d1 d
  have rr := d.2.2.1
  have r32 : V.2.2.1 32 = τ.2.2.1 32 := rr 32 (by decide) (by decide)
  obtain ⟨⟨t1, t2, t3, t4, t5, t6, t7⟩, t8, t9, t10, t11, t12⟩ := tx_1 (by omega) hp hR.2.1
  have rn := tx_rn (by omega) hp hR.2.1
  obtain ⟨y1, -⟩ := tx_5 (by omega) hp hR.2.1
  obtain ⟨i1, i2⟩ := pTN_in (f := f) (pp := pp) (ee := ee) (α := α) t11
  obtain ⟨⟨p1, p1', p1''⟩, p2, p3, p4, ⟨p5, p5'⟩, ⟨⟨⟨g1, g1'⟩, g2, ⟨i0, g3⟩, ⟨g4, g4', g4''⟩, g5, g6, g7⟩, p6', p6'', p6a⟩, p7, p8, p9, p10, p11, p12⟩ := hp
  obtain ⟨-, ⟨r1, ⟨a39, a42, a43, -, -⟩, rq, ri, ⟨nN, nS, nP', nA⟩, rt, ⟨r2, r3, r4⟩⟩, rf, h4, h5⟩ := hR
  obtain ⟨⟨d1, d2⟩, -⟩ := aPr_d p2
  obtain ⟨u1, u2, u3, u4, u5⟩ := hi
  have at1 := (rAt_d1 (N := N) (S := S) (P := P) (A := A) rr).1
  have at2 := (rAt_d1 (N := N) (S := S) (P := P) (A := A) rr).2
  have lt7 : ∀ u, u ∈ is.map Prod.fst ++ tW e → nuO (V.2.2.1 32) u < 700 := fun u hu => by
    obtain ⟨k, k1, k2⟩ := rn.2.2 u hu
    have := (List.getElem?_eq_some_iff.mp k2).1
    have := rn.1
    unfold nuO
    rw [k1, nI_clamp (by omega)]
    omega
  refine ⟨⟨⟨⟨⟨by omega, by omega, by omega, by omega, by omega⟩, r1, rn, p7.2, rf, h5⟩, ⟨fun u hu => ⟨by rw [r32]; rfl, by
    have := lt7 u hu
    rw [r32] at this
    exact this⟩, fun u hu => ⟨u1 u hu, rfl⟩⟩, ⟨a39, d1, fun q qq hqq => ?_⟩, fun u hu => by have := (y1 u hu).1; omega, fun t m ht hc _ => ⟨rTr.keep at2 (Nat.le_refl _) (Nat.le_refl _) (Nat.le_refl _) (Nat.le_refl _) (Nat.le_refl _) t 0 0 m ht, hc⟩, fun ps hg hk => sNw_of (by omega) r1 ps hg hk⟩, ⟨by omega, ⟨⟨by omega, by omega, by omega⟩, r1, rn, fun u hu => (by cases hu), Nat.zero_le _⟩, fun t m ⟨ht, hc⟩ => ⟨rTr.keep at1 (Nat.le_refl _) (Nat.le_refl _) (Nat.le_refl _) (Nat.le_refl _) (Nat.le_refl _) t 0 0 m ht, hc⟩⟩, fun q qq hqq => ?_⟩, ⟨by decide, hq, hT, by omega, by omega, by rw [tDq_H]; omega⟩, ⟨g1, a42, fun b y hy => ?_⟩, ⟨g4'', p6', g4, t6, t1⟩, ⟨a43, rt, g2⟩, ⟨⟨p6', r2, p6a, h4⟩, t12, cp, u4⟩, tc, tc1⟩
  · obtain ⟨q1, q2, q3, q4, q5⟩ := rq q qq hqq
    exact ⟨⟨q1, (d2 qq (List.mem_of_getElem? hqq)).1⟩, q4⟩
  · obtain ⟨q1, q2, q3, q4, q5⟩ := rq q qq hqq
    have hl := (List.getElem?_eq_some_iff.mp hqq).1
    have hl : q < xs.length := hl
    exact ⟨by omega, ⟨q2, (d2 qq (List.mem_of_getElem? hqq)).2.1⟩, q3, q4, by rw [q5]; exact i32_64 _⟩
  · have hl := (List.getElem?_eq_some_iff.mp hy).1
    refine ⟨(ri b y hy).2, (g1' y (List.mem_of_getElem? hy)).2, List.mem_append_left _ (List.mem_map.mpr ⟨y, List.mem_of_getElem? hy, rfl⟩), i1 y (List.mem_of_getElem? hy), ?_⟩
    show nuO (τ.2.2.1 32) y.1 = b
    have := r3 b y hy
    rw [r32] at this
    unfold nuO
    rw [this, nI_clamp (by omega)]
end TX7
