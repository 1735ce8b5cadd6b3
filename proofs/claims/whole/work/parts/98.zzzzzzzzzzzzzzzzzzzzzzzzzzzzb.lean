/-! accepted(): weakenAll() and findDoubt() of a PROGRAM -/
section AC2
variable {κ : oKv} {T sz len cnt j n lo p jd s0 N S P A x0 : Nat} {kk pp ee f fc R6 : Nat → Int32} {xs : List tQ} {is : List (Nat × Nat)} {e : tT} {α : Nat → tY} {B : Nat → Nat} {V : oSt} {D : cDt} {nm : Nat → Option Nat} {g g' : gG} {ρ ρ' : Nat → tY} {lv : Int32} {σ : oSt} {τ : zSt} {q0 : Nat → gTy} {A0 : gTy} {inv : Nat → gN} {Ψ : kGh} {Ls : List Nat} {ln : Nat → Nat} {ct : Nat → Nat → Option Nat} {cs : Nat} {K : Int}
/-- what the numbers of a PROGRAM are good for -/
def pGi (T : Nat) (f pp ee : Nat → Int32) (xs : List tQ) (is : List (Nat × Nat)) (e : tT) (α : Nat → tY) (R : Nat → Int32) (inv : Nat → gN) : Prop := (∀ w, w ∈ is.map Prod.fst ++ tW e → uNm (pGm T f pp ee xs is e α R inv) (.inl w)) ∧ rtQ (pGm T f pp ee xs is e α R inv) (pRt f pp ee is e α) ∧ rtI (pGm T f pp ee xs is e α R inv) (pRt f pp ee is e α) ∧ gNb (pTE f pp ee is e α) (pTN f pp ee is e α) (pGm T f pp ee xs is e α R inv) e 0 0 ∧ qlW (pGm T f pp ee xs is e α R inv) 10010000 8008000000002
/-- the FACTS that are asked -/
noncomputable def pFK (T : Nat) (f pp ee : Nat → Int32) (xs : List tQ) (is : List (Nat × Nat)) (e : tT) (α : Nat → tY) (R : Nat → Int32) (inv : Nat → gN) (W : gSt) : Nat × List Bool → List gFc := fkO (pGm T f pp ee xs is e α R inv) (pRt f pp ee is e α) W.2.1 W.2.2
/-- **all that is asked of a PROGRAM can be asked**, as the class and as the reference ask it -/
theorem tx_6 (hT : 2010 ≤ T) (hp : pgT T len cnt j kk pp ee f fc xs is e α) (hR : pgR T len cnt kk pp ee f xs is e α N S P A x0 g' ρ' τ) (hi : pGi T f pp ee xs is e α (τ.2.2.1 32) inv) (mx : gMx f pp ee (pTE f pp ee is e α) (pTN f pp ee is e α) 59 e (is.map Prod.fst)) : dGd T cnt kk pp ee f (τ.2.2.1 32) (is.map Prod.fst ++ tW e) (pGm T f pp ee xs is e α (τ.2.2.1 32) inv) 8008000000002 (pFK T f pp ee xs is e α (τ.2.2.1 32) inv (pWk T f pp ee is e α q0 A0).1) (pWk T f pp ee is e α q0 A0).1.2.1 (pWk T f pp ee is e α q0 A0).1.2.2 ∧ ((∀ x, x ∈ (pWk T f pp ee is e α q0 A0).1.2.1 → fP (pGm T f pp ee xs is e α (τ.2.2.1 32) inv) 10010000 8008000000002 (pRt f pp ee is e α) 59 (pTN f pp ee is e α) (cbS T cnt kk pp ee f (τ.2.2.1 32) (is.map Prod.fst ++ tW e) 8008000000002 (pTN f pp ee is e α)) x) ∧ ∀ x, x ∈ (pWk T f pp ee is e α q0 A0).1.2.2 → nP (pGm T f pp ee xs is e α (τ.2.2.1 32) inv) 10010000 8008000000002 (pRt f pp ee is e α) (pTN f pp ee is e α) (cbS T cnt kk pp ee f (τ.2.2.1 32) (is.map Prod.fst ++ tW e) 8008000000002 (pTN f pp ee is e α)) (nbS T cnt kk pp ee f (τ.2.2.1 32) (is.map Prod.fst ++ tW e) 8008000000002 (pTN f pp ee is e α)) x) ∧ ∀ kp, 0 < (pFK T f pp ee xs is e α (τ.2.2.1 32) inv (pWk T f pp ee is e α q0 A0).1 kp).length → (pGm T f pp ee xs is e α (τ.2.2.1 32) inv).2.1 kp < 60 ∧ (pFK T f pp ee xs is e α (τ.2.2.1 32) inv (pWk T f pp ee is e α q0 A0).1 kp).length ≤ 366 := by
  obtain ⟨u1, u2, u3, u4, u5⟩ := hi
  obtain ⟨hb, -⟩ := tx_3 hT hp hR mx u1
  obtain ⟨-, -, -, t10, t11, t12⟩ := tx_1 hT hp hR.2.1
  obtain ⟨i1, i2⟩ := pTN_in (f := f) (pp := pp) (ee := ee) (α := α) t11
  have hpr := tx_pr hp hR
  have hlv := tx_lv hp
  obtain ⟨n1, n2, n3⟩ := List.nodup_append.mp t11
  obtain ⟨-, -, -, -, -, ⟨⟨g1, g2, ⟨i0, g3⟩, -⟩, -⟩, -⟩ := hp
  obtain ⟨-, ⟨r1, -, -, -, -, -, ⟨r2, -⟩⟩, -⟩ := hR
  have hi' : ∀ y, y ∈ is → pTN f pp ee is e α y.1 = yB y.2 ∧ uNm (pGm T f pp ee xs is e α (τ.2.2.1 32) inv) (.inl y.1) := fun y hy => ⟨i1 y hy, u1 _ (List.mem_append_left _ (List.mem_map.mpr ⟨y, hy, rfl⟩))⟩
  have nw : ∀ w, w ∈ tW e → w ∉ is.map Prod.fst := fun w hw z => n3 w z w hw rfl
  have Dd := dGd_gWk (T := T) (cnt := cnt) (kk := kk) (q0 := q0) (A0 := A0) (rt := pRt f pp ee is e α) rfl u2 u3 u5 (by decide) u1 hi' n1 g2 g3 r2 n2 nw t12 mx hb (show gIs is [] (q0, [], []) = ((gIs is [] (q0, [], [])).1, (gIs is [] (q0, [], [])).2) from rfl) rfl
  have Fn := fnP_gWk (T := T) (cnt := cnt) (kk := kk) (q0 := q0) (A0 := A0) (rt := pRt f pp ee is e α) rfl u2 (by decide) (by decide) u1 hi' n1 g2 g3 r2 n2 nw t12 mx hb (show gIs is [] (q0, [], []) = ((gIs is [] (q0, [], [])).1, (gIs is [] (q0, [], [])).2) from rfl) rfl
  refine ⟨Dd, Fn, fun kp c => ?_⟩
  obtain ⟨k1, k2⟩ := FK_pl u5 Dd Fn.1 Fn.2 kp c
  refine ⟨?_, k2⟩
  have := gaM_c (R := τ.2.2.1 32) (nq := pNq T f pp ee) (xs := xs) (inv := inv) (fun x hx => (hpr x hx).1) k1
  have := lsC_le (tLs (pTE f pp ee is e α) (pTN f pp ee is e α) e)
  show (gaM (τ.2.2.1 32) (tLs (pTE f pp ee is e α) (pTN f pp ee is e α) e) (pTN f pp ee is e α) (pNq T f pp ee) xs inv).2.1 (kp.1, kp.2) < 60
  omega
end AC2
