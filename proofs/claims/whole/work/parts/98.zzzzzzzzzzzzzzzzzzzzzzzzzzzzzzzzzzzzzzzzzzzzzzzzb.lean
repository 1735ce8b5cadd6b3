/-! ROOM: what a call takes beyond its letters -/
section TGF
variable {ρ : Nat → Nat × Nat} {tE tN : Nat → tY} {Un : List ((Nat × Nat) × Nat)} {Ls W : List Nat} {l : List (Nat × tY × List Nat)}
/-- **a unit's arrows and the TEMPLATES of funs** -/
theorem tl_gf (h : tlH ρ tE tN Un Ls W l) {id0 : Nat × Nat} {m0 : Nat} (hu : (id0, m0) ∈ Un) : yAr (uY tE tN id0) + (l.filter fuP).length ≤ tlN l + 1 := by
  obtain ⟨x0, hx0, hid⟩ := h.wh hu
  have G : ∀ x, x ∈ l → yG x.2.1 := h.2.2.2.2.1
  have A0 : yAr (uY tE tN id0) ≤ yAr x0.2.1 := by
    rcases hid with ⟨i1, i2⟩ | ⟨j0, u0, i1, i2⟩
    · rw [i2]; exact Nat.le_refl _
    · obtain ⟨n1, n2, n3, -⟩ := h.nm (k := x0.1) (Y := x0.2.1) hx0 i1
      have is := h.is (k := x0.1) (Y := x0.2.1) hx0 n1
      have sp : j0 < ySp x0.2.1 := ySp_k (G x0 hx0) (yIs_1 is)
      have e := yLa_le (G x0 hx0) sp
      have e2 : yLa x0.2.1 j0 = yAr (tN u0) := by unfold yLa; rw [n2]
      rw [i2, uY_p]
      omega
  have K := (su_ki (fun x : Nat × tY × List Nat => yAr x.2.1) fuP l (fun x hx hp => by
    have ne : x.2.2 ≠ [] := by
      unfold fuP at hp
      exact of_decide_eq_true ((Bool.and_eq_true _ _).mp hp).1
    have pos : 0 < x.2.2.length := List.length_pos_iff.mpr ne
    obtain ⟨u, hu'⟩ : ∃ u, x.2.2[0]? = some u := ⟨_, List.getElem?_eq_getElem pos⟩
    obtain ⟨n1, n2, n3, -⟩ := h.nm (k := x.1) (Y := x.2.1) hx hu'
    have is := h.is (k := x.1) (Y := x.2.1) hx n1
    have sp : 0 < ySp x.2.1 := ySp_k (G x hx) (yIs_1 is)
    have e := yLa_le (G x hx) sp
    show 1 ≤ yAr x.2.1
    omega)).2 x0 hx0
  have e : tlN l = (l.map (fun x : Nat × tY × List Nat => yAr x.2.1)).sum := rfl
  rw [e]
  have K : yAr x0.2.1 + (l.filter fuP).length ≤ (l.map (fun x : Nat × tY × List Nat => yAr x.2.1)).sum + 1 := K
  omega
end TGF
section TXG
variable {T len cnt j N S P Q x0 : Nat} {kk pp ee f fc : Nat → Int32} {xs : List tQ} {is : List (Nat × Nat)} {e : tT} {α : Nat → tY} {g' : gG} {ρ' : Nat → tY} {τ : zSt}
/-- a unit's arrows and the functions that are ARGS -/
theorem tx_gf (hT : 2010 ≤ T) (hp : pgT T len cnt j kk pp ee f fc xs is e α) (hR : pgR T len cnt kk pp ee f xs is e α N S P Q x0 g' ρ' τ) {id0 : Nat × Nat} {m0 : Nat} (hu : (id0, m0) ∈ gUn (pTN f pp ee is e α) e (is.map Prod.fst)) : yAr (uY (pTE f pp ee is e α) (pTN f pp ee is e α) id0) + gfN e ≤ tlN (tLs (pTE f pp ee is e α) (pTN f pp ee is e α) e) + 1 := by
  obtain ⟨⟨-, -, -, -, -, f3, -⟩, -, -, w0, nd, gok⟩ := tx_1 hT hp hR.2.1
  obtain ⟨ρ, H⟩ := tx_tl hT hp hR
  obtain ⟨-, -, -, -, -, ⟨⟨g1, g2, -⟩, -⟩, -⟩ := hp
  have q := (gf_le (tE := pTE f pp ee is e α) (tN := pTN f pp ee is e α) e f3 0 g2).1
  have := tl_gf H hu
  omega
end TXG
