/-! ROOM: cells of a PROGRAM, and how much must FIT in it, by arrows, TEMPLATES and calls -/
theorem kGm_b {W : Nat} : ∀ l : List (tY × Nat), (∀ c, c ∈ l → 0 < c.2 → yFn c.1 ≤ W) → kGm l ≤ W * l.length
  | [], _ => Nat.zero_le _
  | c :: l, h => by
    have I := kGm_b l (fun x hx => h x (List.mem_cons_of_mem _ hx))
    rw [kGm_cn, List.length_cons, Nat.mul_add, Nat.mul_one]
    by_cases e : c.2 = 0
    · rw [if_pos e]; omega
    · rw [if_neg e]
      have := h c (List.mem_cons_self ..) (by omega)
      omega
section TXZ
variable {T len cnt j N S P A x0 : Nat} {kk pp ee f fc : Nat → Int32} {xs : List tQ} {is : List (Nat × Nat)} {e : tT} {α : Nat → tY} {τ : zSt} {g' : gG} {ρ' : Nat → tY}
/-- **cells of a PROGRAM** -/
theorem tx_cC (hT : 12400 ≤ T) (hp : pgT T len cnt j kk pp ee f fc xs is e α) (hR : pgR T len cnt kk pp ee f xs is e α N S P A x0 g' ρ' τ) (A0 : gTy) : (wCo T f pp ee (pTE f pp ee is e α) (pTN f pp ee is e α) xs e (is.map Prod.fst) (gIs is [] ((fun _ => gNtd), [], [])).1 A0 (gIs is [] ((fun _ => gNtd), [], [])).2).1 ≤ cXn e + (7 + 6 * xs.length) * tlN (tLs (pTE f pp ee is e α) (pTN f pp ee is e α) e) + 26 * tlO2 (tLs (pTE f pp ee is e α) (pTN f pp ee is e α) e) + (3 + 3 * xs.length) * (tLs (pTE f pp ee is e α) (pTN f pp ee is e α) e).length + kCm (cvC f pp ee (pTN f pp ee is e α) e (is.map Prod.fst)) := by
  have hT2 : 2010 ≤ T := by omega
  have h1 := tx_cXw hT hp hR A0
  obtain ⟨-, -, -, t10, t11, t12⟩ := tx_1 hT2 hp hR.2.1
  obtain ⟨-, -, -, -, -, ⟨⟨g1, g2, ⟨i0, g3⟩, -⟩, -⟩, -⟩ := hp
  have h2 := cXw_s (xs := xs) (tE := pTE f pp ee is e α) (tN := pTN f pp ee is e α) e 0 g2 (is.map Prod.fst) _ t12
  have h3 := cXo_t (xs := xs) (tE := pTE f pp ee is e α) (tN := pTN f pp ee is e α) e 0 g2 (is.map Prod.fst) _ t12
  have h5 := cTl_b xs (tLs (pTE f pp ee is e α) (pTN f pp ee is e α) e)
  rw [if_pos rfl] at h2
  omega
/-- **how much must FIT in a PROGRAM** -/
theorem tx_fC (hT : 12400 ≤ T) (hp : pgT T len cnt j kk pp ee f fc xs is e α) (hR : pgR T len cnt kk pp ee f xs is e α N S P A x0 g' ρ' τ) (A0 : gTy) : (pWk T f pp ee is e α (fun _ => gNtd) A0).1.2.1.length ≤ 2 * tlN (tLs (pTE f pp ee is e α) (pTN f pp ee is e α) e) + 2 * (tLs (pTE f pp ee is e α) (pTN f pp ee is e α) e).length + (tlN (tLs (pTE f pp ee is e α) (pTN f pp ee is e α) e) + 1) * (cvC f pp ee (pTN f pp ee is e α) e (is.map Prod.fst)).length := by
  have hT2 : 2010 ≤ T := by omega
  have h4 : kGm (cvC f pp ee (pTN f pp ee is e α) e (is.map Prod.fst)) ≤ (tlN (tLs (pTE f pp ee is e α) (pTN f pp ee is e α) e) + 1) * (cvC f pp ee (pTN f pp ee is e α) e (is.map Prod.fst)).length := kGm_b _ (fun c hc h0 => by
    rw [← cvE_c (wt := 0) e (is.map Prod.fst) (fun _ => 0)] at hc
    obtain ⟨x, hx, rfl⟩ := List.mem_map.mp hc
    have := tx_cA hT2 hp hR x hx h0
    have := yFn_A x.1
    dsimp only
    omega)
  obtain ⟨mx, -⟩ := tx_mx hT2 hp hR (fun _ => gNtd)
  obtain ⟨inv, u1, u2, -, -, -⟩ := tx_2 hT2 hp hR
  obtain ⟨-, hq⟩ := tx_3 hT2 hp hR mx u1
  obtain ⟨-, -, -, t10, t11, t12⟩ := tx_1 hT2 hp hR.2.1
  obtain ⟨i1, i2⟩ := pTN_in (f := f) (pp := pp) (ee := ee) (α := α) t11
  obtain ⟨n1, n2, n3⟩ := List.nodup_append.mp t11
  obtain ⟨-, -, -, -, -, ⟨⟨g1, g2, ⟨i0, g3⟩, -⟩, -⟩, -⟩ := hp
  have hi' : ∀ y, y ∈ is → pTN f pp ee is e α y.1 = yB y.2 ∧ uNm (pGm T f pp ee xs is e α (τ.2.2.1 32) inv) (.inl y.1) := fun y hy => ⟨i1 y hy, u1 _ (List.mem_append_left _ (List.mem_map.mpr ⟨y, hy, rfl⟩))⟩
  have E := gIs_w (Γ := pGm T f pp ee xs is e α (τ.2.2.1 32) inv) (C := 10010000) (B := 8008000000002) (rt := pRt f pp ee is e α) (tN := pTN f pp ee is e α) is [] [] ((fun _ => gNtd), [], []) ⟨rfl, trivial, fun u hu => (by cases hu)⟩ hi' (by rw [List.nil_append]; exact n1)
  rw [List.nil_append] at E
  obtain ⟨e1, e2, e3⟩ := E
  have e2 : scC (gIs is [] ((fun _ => gNtd), [], [])).1 = [] := e2
  have e3 : (gIs is [] ((fun _ => gNtd), [], [])).2.2 = ([], []) := e3
  have W : lnW _ _ _ := gWk_ln (tE := pTE f pp ee is e α) (tN := pTN f pp ee is e α) (M := 59) (CB := cbS T cnt kk pp ee f (τ.2.2.1 32) (is.map Prod.fst ++ tW e) 8008000000002 (pTN f pp ee is e α)) (NB := nbS T cnt kk pp ee f (τ.2.2.1 32) (is.map Prod.fst ++ tW e) 8008000000002 (pTN f pp ee is e α)) u2 (by decide) (by decide) e (is.map Prod.fst) (gIs is [] ((fun _ => gNtd), [], [])).1 A0 (gIs is [] ((fun _ => gNtd), [], [])).2 _ (by rw [e2]; exact hq) t12 e1 (aH.e g2.e)
  unfold lnW at W
  have l0 : (gIs is [] ((fun _ => gNtd), [], [])).2.2.1.length = 0 := by rw [e3]; rfl
  rw [l0] at W
  have W' : (pWk T f pp ee is e α (fun _ => gNtd) A0).1.2.1.length ≤ _ := W
  have h2 := cFw_s (tE := pTE f pp ee is e α) (tN := pTN f pp ee is e α) e 0 g2 (is.map Prod.fst) _ t12
  have h3 := cFo_t (tE := pTE f pp ee is e α) (tN := pTN f pp ee is e α) e 0 g2 (is.map Prod.fst) _ t12
  have h5 := cTg_b (tLs (pTE f pp ee is e α) (pTN f pp ee is e α) e)
  rw [if_pos rfl] at h2
  omega
end TXZ
