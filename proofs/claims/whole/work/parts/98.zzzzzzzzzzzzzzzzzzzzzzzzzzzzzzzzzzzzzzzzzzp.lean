/-! CAPACITIES of a PROGRAM -/
section TXC
variable {kk pp ee f fc : Nat → Int32} {T len cnt j N S P A x0 : Nat} {xs : List tQ} {is : List (Nat × Nat)} {e : tT} {α : Nat → tY} {τ : zSt} {g' : gG} {ρ' : Nat → tY} {q0 : Nat → gTy} {A0 : gTy} {yc : tY}
/-- **row 99 of a PROGRAM** -/
theorem tx_r99 (hT : 2010 ≤ T) (hp : pgT T len cnt j kk pp ee f fc xs is e α) (hR : pgR T len cnt kk pp ee f xs is e α N S P A x0 g' ρ' τ) : gTc f pp ee (pTE f pp ee is e α) (pTN f pp ee is e α) xs e (is.map Prod.fst) yc (gSs (gIs is [] (q0, [], [])).1).length 99 ≤ 8000 := by
  obtain ⟨inv, hi⟩ := tx_2 hT hp hR
  have hi : pGi T f pp ee xs is e α (τ.2.2.1 32) inv := hi
  have hx : xs.length ≤ 6 := hi.2.2.2.2.2.1
  obtain ⟨ρ, Ht⟩ := tx_tl hT hp hR
  obtain ⟨⟨-, -, -, -, -, f3, r1⟩, -, -, w0, nd, gok⟩ := tx_1 hT hp hR.2.1
  obtain ⟨-, -, -, -, -, ⟨⟨g1, g2, ⟨i0, g3⟩, ⟨-, -, g4''⟩, -, g6, -⟩, tgd, -, p6'''⟩, -⟩ := hp
  have h0 : yK (pTN f pp ee is e α 0) ≠ 1 := by
    have e1 : (mEnd f pp ee is e).2.2.1 0 = mB 0 := by
      show (mE f pp ee e (is.map Prod.fst) (mIn is mI0)).1.2.2.1 0 = _
      rw [(mLe.e e _ _).2.2 0 (fun z => w0 (List.mem_append_right _ z)), mIn_0 is mI0 (fun z => w0 (List.mem_append_left _ z))]
      rfl
    show yK ((mEnd f pp ee is e).2.2.1 0 α) ≠ 1
    rw [e1]
    show yK (yB 0) ≠ 1
    decide
  have hin : ∀ y, y ∈ is → pTN f pp ee is e α y.1 = yB y.2 := fun y hy => by
    obtain ⟨i, hi, e⟩ := List.getElem_of_mem hy
    exact congrFun (in_ty g6 (show is[i]? = some y by rw [List.getElem?_eq_getElem hi, e])) α
  rw [gIs_ss (tN := pTN f pp ee is e α) is [] (q0, [], []) hin, show (gSs ([] : List gEn)).length = 0 from rfl, Nat.zero_add]
  have G := gTc_i (tE := pTE f pp ee is e α) (tN := pTN f pp ee is e α) hx e 0 g2 r1 (is.map Prod.fst) _ yc gok
  obtain ⟨u1, u2⟩ := tLc_u (L := is.map Prod.fst ++ tW e) (tE := pTE f pp ee is e α) (tN := pTN f pp ee is e α) h0 e 0 g2 r1 (is.map Prod.fst) _ gok p6'''
  have M := tLc_m (L := is.map Prod.fst ++ tW e) (tE := pTE f pp ee is e α) (tN := pTN f pp ee is e α) e 0 g2 (is.map Prod.fst) _ gok p6'''
  have V := gUn_tc (tE := pTE f pp ee is e α) (tN := pTN f pp ee is e α) e 0 g2 r1 (is.map Prod.fst) _ gok
  rw [← u1] at Ht
  have I := in_99 (lc := tLc (pTE f pp ee is e α) (pTN f pp ee is e α) e (is.map Prod.fst)) ⟨Ht, u2, M, V⟩
  omega
/-- **capacities of a PROGRAM** -/
theorem tx_cap (hq0 : ∀ u, q0 u = gNtd) (hT : 12400 ≤ T) (hp : pgT T len cnt j kk pp ee f fc xs is e α) (hR : pgR T len cnt kk pp ee f xs is e α N S P A x0 g' ρ' τ) : pCap T f pp ee xs is e α q0 A0 yc := by
  obtain ⟨m1, m2⟩ := tx_mx (by omega) hp hR q0
  have tc : ∀ k, (if k = 75 ∨ k = 79 ∨ k = 109 then 6 else 0) + gTc f pp ee (pTE f pp ee is e α) (pTN f pp ee is e α) xs e (is.map Prod.fst) yc (gSs (gIs is [] (q0, [], [])).1).length k ≤ uLm k := fun k => by
    by_cases c1 : k = 98 ∨ k = 100
    · rw [if_neg (by omega), Nat.zero_add]
      exact tx_rq hp yc _ k c1
    · by_cases c2 : k = 99
      · rw [c2, if_neg (by omega), Nat.zero_add]
        exact tx_r99 (by omega) hp hR
      · by_cases c3 : k = 110
        · rw [c3, if_neg (by omega), Nat.zero_add]
          exact Nat.le_trans (tx_rg hp yc _) (by decide)
        · by_cases c4 : k = 123
          · rw [c4, if_neg (by omega), Nat.zero_add]
            exact Nat.le_trans (tx_rn3 hp yc _) (by decide)
          · exact tx_rw (by omega) hp hR yc _ k (by omega)
  have tc1 : gTc f pp ee (pTE f pp ee is e α) (pTN f pp ee is e α) xs e (is.map Prod.fst) yc (gSs (gIs is [] (q0, [], [])).1).length 110 + 2100 ≤ 12000 := by
    have := tx_rg hp yc (gSs (gIs is [] (q0, [], [])).1).length
    omega
  have sl := tx_sln hp q0 A0
  exact ⟨m1, m2, tc, tc1, tx_fln hq0 hT hp hR tc tc1, by omega⟩
end TXC
