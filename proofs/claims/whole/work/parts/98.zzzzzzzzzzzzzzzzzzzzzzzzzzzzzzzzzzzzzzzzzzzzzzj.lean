/-! ROOM: cells of a PROGRAM, by types -/
section TXC
variable {T len cnt j N S P A x0 : Nat} {kk pp ee f fc : Nat → Int32} {xs : List tQ} {is : List (Nat × Nat)} {e : tT} {α : Nat → tY} {τ : zSt} {g' : gG} {ρ' : Nat → tY}
theorem tx_cXw (hT : 12400 ≤ T) (hp : pgT T len cnt j kk pp ee f fc xs is e α) (hR : pgR T len cnt kk pp ee f xs is e α N S P A x0 g' ρ' τ) (A0 : gTy) : (wCo T f pp ee (pTE f pp ee is e α) (pTN f pp ee is e α) xs e (is.map Prod.fst) (gIs is [] ((fun _ => gNtd), [], [])).1 A0 (gIs is [] ((fun _ => gNtd), [], [])).2).1 ≤ cXw f pp ee (pTE f pp ee is e α) (pTN f pp ee is e α) xs e (is.map Prod.fst) ((mE f pp ee e (is.map Prod.fst) (mIn is mI0)).2 α) := by
  have hT2 : 2010 ≤ T := by omega
  obtain ⟨mx, -⟩ := tx_mx hT2 hp hR (fun _ => gNtd)
  obtain ⟨inv, u1, u2, -, -, -⟩ := tx_2 hT2 hp hR
  obtain ⟨-, hq⟩ := tx_3 hT2 hp hR mx u1
  obtain ⟨-, -, -, t10, t11, t12⟩ := tx_1 hT2 hp hR.2.1
  obtain ⟨i1, i2⟩ := pTN_in (f := f) (pp := pp) (ee := ee) (α := α) t11
  obtain ⟨n1, n2, n3⟩ := List.nodup_append.mp t11
  obtain ⟨-, -, -, -, -, ⟨⟨g1, g2, ⟨i0, g3⟩, -⟩, -⟩, -⟩ := hp
  have hi' : ∀ y, y ∈ is → pTN f pp ee is e α y.1 = yB y.2 ∧ uNm (pGm T f pp ee xs is e α (τ.2.2.1 32) inv) (.inl y.1) := fun y hy => ⟨i1 y hy, u1 _ (List.mem_append_left _ (List.mem_map.mpr ⟨y, hy, rfl⟩))⟩
  have E := gIs_w (Γ := pGm T f pp ee xs is e α (τ.2.2.1 32) inv) (C := 10010000) (B := 8008000000002) (rt := pRt f pp ee is e α) (tN := pTN f pp ee is e α) is [] [] ((fun _ => gNtd), [], []) ⟨rfl, trivial, fun u hu => (by cases hu)⟩ hi' (by rw [List.nil_append]; exact n1)
  rw [List.nil_append] at E
  obtain ⟨e1, e2, e3⟩ := E
  have e2 : scC (gIs is [] ((fun _ => gNtd), [], [])).1 = [] := e2
  exact wCo_c (M := 59) (CB := cbS T cnt kk pp ee f (τ.2.2.1 32) (is.map Prod.fst ++ tW e) 8008000000002 (pTN f pp ee is e α)) (NB := nbS T cnt kk pp ee f (τ.2.2.1 32) (is.map Prod.fst ++ tW e) 8008000000002 (pTN f pp ee is e α)) u2 (by decide) (by decide) e (is.map Prod.fst) (gIs is [] ((fun _ => gNtd), [], [])).1 A0 (gIs is [] ((fun _ => gNtd), [], [])).2 _ (by rw [e2]; exact hq) t12 e1 (aH.e g2.e)
end TXC
/-- a FIT's cells, by arrows -/
theorem fCn_A : ∀ y : tY, fCn y ≤ 13 * yAr y
  | .leaf => Nat.le_refl _
  | .inner k u v a b => by
    have ia := fCn_A a
    have ib := fCn_A b
    by_cases c : k = 0
    · subst c
      have h : yAr (.inner 0 u v a b) = 1 + yAr a + yAr b := by
        by_cases m : gMs a = true
        · obtain ⟨-, e2, -⟩ := yCo_1 (u := u) (v := v) (b := b) m
          obtain ⟨-, a2, -⟩ := yCo_n (gMs_nk m)
          rw [e2, a2]
        · obtain ⟨-, e2, -⟩ := yCo_0 (u := u) (v := v) (b := b) m
          exact e2
      rw [h]
      have h2 : fCn (.inner 0 u v a b) = (if gMs a = true then 13 else 4) + fCn a + fCn b := rfl
      rw [h2]
      split <;> omega
    · have h2 : fCn (.inner k u v a b) = 0 := if_neg c
      rw [h2]
      exact Nat.zero_le _
