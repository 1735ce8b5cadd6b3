/-! ROOM: what FITS in a PROGRAM, by types and steps -/
theorem gIs_rk : ∀ (r : List (Nat × Nat)) (sc : List gEn) (s : gSt), (∀ u, gDq (s.1 u) ≤ 0) → ∀ u, gDq ((gIs r sc s).2.1 u) ≤ 0
  | [], _, _, hs => hs
  | y :: r, sc, s, hs => gIs_rk r _ _ (fun u => by
    show gDq (if u = y.1 then gPl (yB y.2) else s.1 u) ≤ 0
    split
    · exact Nat.le_refl 0
    · exact hs u)
section TXB
variable {T len cnt j N S P A x0 : Nat} {kk pp ee f fc : Nat → Int32} {xs : List tQ} {is : List (Nat × Nat)} {e : tT} {α : Nat → tY} {τ : zSt} {g' : gG} {ρ' : Nat → tY}
/-- **what FITS in a PROGRAM** -/
theorem tx_xB {wt : Nat} (hT : 12400 ≤ T) (hp : pgT T len cnt j kk pp ee f fc xs is e α) (hR : pgR T len cnt kk pp ee f xs is e α N S P A x0 g' ρ' τ) (A0 : gTy) : wX T f pp ee (pTE f pp ee is e α) (pTN f pp ee is e α) xs wt e (is.map Prod.fst) (gIs is [] ((fun _ => gNtd), [], [])).1 A0 (gIs is [] ((fun _ => gNtd), [], [])).2 ≤ xB f pp ee wt (pTE f pp ee is e α) (pTN f pp ee is e α) xs e (is.map Prod.fst) (fun _ => 0) ((mE f pp ee e (is.map Prod.fst) (mIn is mI0)).2 α) 0 := by
  have hT2 : 2010 ≤ T := by omega
  obtain ⟨mx, -⟩ := tx_mx hT2 hp hR (fun _ => gNtd)
  obtain ⟨inv, u1, u2, -, -, -⟩ := tx_2 hT2 hp hR
  obtain ⟨-, hq⟩ := tx_3 hT2 hp hR mx u1
  obtain ⟨-, -, -, t10, t11, t12⟩ := tx_1 hT2 hp hR.2.1
  obtain ⟨i1, i2⟩ := pTN_in (f := f) (pp := pp) (ee := ee) (α := α) t11
  obtain ⟨n1, n2, n3⟩ := List.nodup_append.mp t11
  obtain ⟨-, -, -, -, -, ⟨⟨g1, g2, ⟨i0, g3⟩, -⟩, -⟩, -⟩ := hp
  have hi' : ∀ y, y ∈ is → pTN f pp ee is e α y.1 = yB y.2 ∧ uNm (pGm T f pp ee xs is e α (τ.2.2.1 32) inv) (.inl y.1) := fun y hy => ⟨i1 y hy, u1 _ (List.mem_append_left _ (List.mem_map.mpr ⟨y, hy, rfl⟩))⟩
  have E := gIs_w (Γ := pGm T f pp ee xs is e α (τ.2.2.1 32) inv) (C := 10010000) (B := 8008000000002) (rt := pRt f pp ee is e α) (tN := pTN f pp ee is e α) is [] [] ((fun _ => gNtd), [], []) ⟨rfl, trivial, fun u hu => (by cases hu)⟩ hi' (by rw [List.nil_append]; exact n1)
  rw [List.nil_append] at E
  obtain ⟨e1, e2, e3⟩ := E
  have e2 : scC (gIs is [] ((fun _ => gNtd), [], [])).1 = [] := e2
  exact (wX_b (wt := wt) (M := 59) (CB := cbS T cnt kk pp ee f (τ.2.2.1 32) (is.map Prod.fst ++ tW e) 8008000000002 (pTN f pp ee is e α)) (NB := nbS T cnt kk pp ee f (τ.2.2.1 32) (is.map Prod.fst ++ tW e) 8008000000002 (pTN f pp ee is e α)) u2 (by decide) (by decide) e (is.map Prod.fst) (gIs is [] ((fun _ => gNtd), [], [])).1 A0 (gIs is [] ((fun _ => gNtd), [], [])).2 _ (fun _ => 0) 0 (by rw [e2]; exact hq) t12 e1 (aH.e g2.e) (fun u _ => gIs_rk is [] ((fun _ => gNtd), [], []) (fun _ => Nat.le_refl 0) u) (fun n => absurd g2.e n)).1
end TXB
