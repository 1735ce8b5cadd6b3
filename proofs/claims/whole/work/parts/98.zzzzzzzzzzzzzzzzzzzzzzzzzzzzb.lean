/-! accepted(): weakenAll() and findDoubt() of a PROGRAM -/
section AC2
variable {κ : oKv} {T sz len cnt j n lo p jd s0 N S P A x0 : Nat} {kk pp ee f fc R6 : Nat → Int32} {xs : List tQ} {is : List (Nat × Nat)} {e : tT} {α : Nat → tY} {B : Nat → Nat} {V : oSt} {D : cDt} {nm : Nat → Option Nat} {g g' : gG} {ρ ρ' : Nat → tY} {lv : Int32} {σ : oSt} {τ : zSt} {q0 : Nat → gTy} {A0 : gTy} {inv : Nat → gN} {Ψ : kGh} {Ls : List Nat} {ln : Nat → Nat} {ct : Nat → Nat → Option Nat} {cs : Nat} {K : Int}
/-- what the numbers of a PROGRAM are good for -/
def pGi (T : Nat) (f pp ee : Nat → Int32) (xs : List tQ) (is : List (Nat × Nat)) (e : tT) (α : Nat → tY) (R : Nat → Int32) (inv : Nat → gN) : Prop := (∀ w, w ∈ is.map Prod.fst ++ tW e → uNm (pGm T f pp ee xs is e α R inv) (.inl w)) ∧ rtQ (pGm T f pp ee xs is e α R inv) (pRt f pp ee is e α) ∧ rtI (pGm T f pp ee xs is e α R inv) (pRt f pp ee is e α) ∧ gNb (pTE f pp ee is e α) (pTN f pp ee is e α) (pGm T f pp ee xs is e α R inv) e 0 0 ∧ qlW (pGm T f pp ee xs is e α R inv) 10010000 8008000000002
/-- told types, and what they are made of -/
def pOT (f pp ee : Nat → Int32) (is : List (Nat × Nat)) (e : tT) (α : Nat → tY) (q : Nat → gTy) (X : gTy) : Prop := ∃ u, u ∈ is.map Prod.fst ++ tW e ∧ sbT (pTN f pp ee is e α u) (q u) X
noncomputable def pFK (T : Nat) (f pp ee : Nat → Int32) (xs : List tQ) (is : List (Nat × Nat)) (e : tT) (α : Nat → tY) (R : Nat → Int32) (inv : Nat → gN) (W : gSt) : Nat × List Bool → List gFc := fkO (pGm T f pp ee xs is e α R inv) (pRt f pp ee is e α) W.2.1 W.2.2 (pOT f pp ee is e α W.1)
theorem wfT_sb {Γ : uGm} {C B : Int} {rt : Nat → gTm} (hQ : rtQ Γ rt) : ∀ (y : tY) (A X : gTy) (S : List gN), gSy A = y → wfT Γ C B rt S A → sbT y A X → ∃ S', wfT Γ C B rt S' X
  | .leaf, _, _, _, _, _, h => h.elim
  | .inner k x v a b, A, X, S, hy, hw, h => by
    rcases h with h | ⟨c, h⟩
    · rw [h]; exact ⟨S, hw⟩
    · have k1 : yK (gSy A) = 1 := by rw [hy, c]; rfl
      obtain ⟨m, em, -⟩ := hw.fn k1
      have sy := gSy_tk em
      rw [hy] at sy
      rcases h with h | h
      · exact wfT_sb hQ a (gTk A) X S sy.1 (hw.tk k1) h
      · exact wfT_sb hQ b (gAn A) X (gPn A :: S) sy.2 (hw.an hQ k1 (fun x hx => List.mem_cons_of_mem _ hx) (fun _ => List.mem_cons_self ..)) h
theorem tx_nl (hR : pgR T len cnt kk pp ee f xs is e α N S P A x0 g' ρ' τ) : ∀ u, u ∈ is.map Prod.fst ++ tW e → pTN f pp ee is e α u ≠ .leaf := fun u hu z => by
  obtain ⟨i, hi⟩ := List.getElem?_of_mem hu
  obtain ⟨c, -, c2, c3⟩ := hR.2.2.2.2 i u hi
  obtain ⟨-, h2, h3, -⟩ := hR.2.2.1
  have z : (mEnd f pp ee is e).2.2.1 u α = .leaf := z
  rcases h3.at h2 c2 with ⟨-, e, -⟩ | ⟨-, e⟩ <;> rw [c3, z] at e <;> cases e
theorem gGd.ne {Γ : uGm} {C B : Int} {rt : Nat → gTm} {tN : Nat → tY} {Lp : Nat → Prop} {q : Nat → gTy} {u : Nat} (h : gGd Γ C B rt tN Lp q u) (hl : tN u ≠ .leaf) : q u ≠ gNtd := fun z => by
  have := h.1
  rw [z] at this
  exact hl this.symm
/-- **told NAMES of a PROGRAM have types of their own** -/
theorem tx_gd (hT : 2010 ≤ T) (hp : pgT T len cnt j kk pp ee f fc xs is e α) (hR : pgR T len cnt kk pp ee f xs is e α N S P A x0 g' ρ' τ) (hi : pGi T f pp ee xs is e α (τ.2.2.1 32) inv) (mx : gMx f pp ee (pTE f pp ee is e α) (pTN f pp ee is e α) 59 e (is.map Prod.fst)) : ∀ u, u ∈ is.map Prod.fst ++ tW e → gGd (pGm T f pp ee xs is e α (τ.2.2.1 32) inv) 10010000 8008000000002 (pRt f pp ee is e α) (pTN f pp ee is e α) (fun v => v ∈ is.map Prod.fst ++ tW e) (pWk T f pp ee is e α q0 A0).1.1 u := fun u hu => by
  obtain ⟨u1, u2, u3, u4, u5⟩ := hi
  obtain ⟨-, hq⟩ := tx_3 hT hp hR mx u1
  obtain ⟨-, -, -, t10, t11, t12⟩ := tx_1 hT hp hR.2.1
  obtain ⟨i1, i2⟩ := pTN_in (f := f) (pp := pp) (ee := ee) (α := α) t11
  obtain ⟨n1, n2, n3⟩ := List.nodup_append.mp t11
  obtain ⟨-, -, -, -, -, ⟨⟨g1, g2, -⟩, p6', -⟩, -⟩ := hp
  have pm := wW_pm e 0 g2 p6'
  have hi' : ∀ y, y ∈ is → pTN f pp ee is e α y.1 = yB y.2 ∧ uNm (pGm T f pp ee xs is e α (τ.2.2.1 32) inv) (.inl y.1) := fun y hy => ⟨i1 y hy, u1 _ (List.mem_append_left _ (List.mem_map.mpr ⟨y, hy, rfl⟩))⟩
  have E := gIs_w (Γ := pGm T f pp ee xs is e α (τ.2.2.1 32) inv) (C := 10010000) (B := 8008000000002) (rt := pRt f pp ee is e α) (tN := pTN f pp ee is e α) is [] [] (q0, [], []) ⟨rfl, trivial, fun u hu => (by cases hu)⟩ hi' (by rw [List.nil_append]; exact n1)
  rw [List.nil_append] at E
  obtain ⟨e1, e2, e3⟩ := E
  have e2 : scC (gIs is [] (q0, [], [])).1 = [] := e2
  have hL : ∀ v, v ∈ is.map Prod.fst → v ∈ is.map Prod.fst ++ tW e := fun v hv => List.mem_append_left _ hv
  refine gWk_td u2 (by decide) (by decide) e (is.map Prod.fst) (gIs is [] (q0, [], [])).1 A0 (gIs is [] (q0, [], [])).2 _ (by rw [e2]; exact hq) t12 e1 (aH.e g2.e) hL (fun v hv => List.mem_append_right _ (pm.mem_iff.mp hv)) u ?_
  rcases List.mem_append.mp hu with z | z
  · exact Or.inl (gGd.e e1 hL z)
  · exact Or.inr (pm.mem_iff.mpr z)
/-- **all that is asked of a PROGRAM can be asked**, as the class and as the reference ask it -/
theorem tx_6 (hT : 2010 ≤ T) (hp : pgT T len cnt j kk pp ee f fc xs is e α) (hR : pgR T len cnt kk pp ee f xs is e α N S P A x0 g' ρ' τ) (hi : pGi T f pp ee xs is e α (τ.2.2.1 32) inv) (mx : gMx f pp ee (pTE f pp ee is e α) (pTN f pp ee is e α) 59 e (is.map Prod.fst)) : dGd T cnt kk pp ee f (τ.2.2.1 32) (is.map Prod.fst ++ tW e) (pGm T f pp ee xs is e α (τ.2.2.1 32) inv) 8008000000002 (pFK T f pp ee xs is e α (τ.2.2.1 32) inv (pWk T f pp ee is e α q0 A0).1) (pWk T f pp ee is e α q0 A0).1.2.1 (pWk T f pp ee is e α q0 A0).1.2.2 (pOT f pp ee is e α (pWk T f pp ee is e α q0 A0).1.1) ∧ ((∀ x, x ∈ (pWk T f pp ee is e α q0 A0).1.2.1 → fP (pGm T f pp ee xs is e α (τ.2.2.1 32) inv) 10010000 8008000000002 (pRt f pp ee is e α) 59 (pTN f pp ee is e α) (cbS T cnt kk pp ee f (τ.2.2.1 32) (is.map Prod.fst ++ tW e) 8008000000002 (pTN f pp ee is e α)) x) ∧ ∀ x, x ∈ (pWk T f pp ee is e α q0 A0).1.2.2 → nP (pGm T f pp ee xs is e α (τ.2.2.1 32) inv) 10010000 8008000000002 (pRt f pp ee is e α) (pTN f pp ee is e α) (cbS T cnt kk pp ee f (τ.2.2.1 32) (is.map Prod.fst ++ tW e) 8008000000002 (pTN f pp ee is e α)) (nbS T cnt kk pp ee f (τ.2.2.1 32) (is.map Prod.fst ++ tW e) 8008000000002 (pTN f pp ee is e α)) x) ∧ ∀ kp, 0 < (pFK T f pp ee xs is e α (τ.2.2.1 32) inv (pWk T f pp ee is e α q0 A0).1 kp).length → (pGm T f pp ee xs is e α (τ.2.2.1 32) inv).2.1 kp < 60 ∧ (pFK T f pp ee xs is e α (τ.2.2.1 32) inv (pWk T f pp ee is e α q0 A0).1 kp).length ≤ 366 := by
  have gd := tx_gd (q0 := q0) (A0 := A0) hT hp hR hi mx
  obtain ⟨u1, u2, u3, u4, u5⟩ := hi
  obtain ⟨hb, -⟩ := tx_3 hT hp hR mx u1
  obtain ⟨-, -, -, t10, t11, t12⟩ := tx_1 hT hp hR.2.1
  obtain ⟨i1, i2⟩ := pTN_in (f := f) (pp := pp) (ee := ee) (α := α) t11
  have hpr := tx_pr hp hR
  have hlv := tx_lv hp
  obtain ⟨n1, n2, n3⟩ := List.nodup_append.mp t11
  obtain ⟨-, -, -, -, -, ⟨⟨g1, g2, ⟨i0, g3⟩, -⟩, -⟩, -⟩ := hp
  obtain ⟨-, ⟨r1, -, -, -, -, -, ⟨r2, -⟩⟩, -⟩ := hR
  have hi' : ∀ y, y ∈ is → pTN f pp ee is e α y.1 = yB y.2 ∧ uNm (pGm T f pp ee xs is e α (τ.2.2.1 32) inv) (.inl y.1) := fun y hy => ⟨i1 y hy, u1 _ (List.mem_append_left _ (List.mem_map.mpr ⟨y, hy, rfl⟩))⟩
  have nw : ∀ w, w ∈ tW e → w ∉ is.map Prod.fst := fun w hw z => n3 w z w hw rfl
  have hO : ∀ X, pOT f pp ee is e α (pWk T f pp ee is e α q0 A0).1.1 X → ∃ S, wfT (pGm T f pp ee xs is e α (τ.2.2.1 32) inv) 10010000 8008000000002 (pRt f pp ee is e α) S X := fun X ⟨u, hu, hX⟩ => by
    obtain ⟨g1, S, -, g3⟩ := gd u hu
    exact wfT_sb u2 _ _ X S g1 g3 hX
  have Dd := dGd_gWk (T := T) (cnt := cnt) (kk := kk) (q0 := q0) (A0 := A0) (rt := pRt f pp ee is e α) hO rfl u2 u3 u5 (by decide) u1 hi' n1 g2 g3 r2 n2 nw t12 mx hb (show gIs is [] (q0, [], []) = ((gIs is [] (q0, [], [])).1, (gIs is [] (q0, [], [])).2) from rfl) rfl
  have Fn := fnP_gWk (T := T) (cnt := cnt) (kk := kk) (q0 := q0) (A0 := A0) (rt := pRt f pp ee is e α) rfl u2 (by decide) (by decide) u1 hi' n1 g2 g3 r2 n2 nw t12 mx hb (show gIs is [] (q0, [], []) = ((gIs is [] (q0, [], [])).1, (gIs is [] (q0, [], [])).2) from rfl) rfl
  refine ⟨Dd, Fn, fun kp c => ?_⟩
  obtain ⟨k1, k2⟩ := FK_pl hO u5 Dd Fn.1 Fn.2 kp c
  refine ⟨?_, k2⟩
  have := gaM_c (R := τ.2.2.1 32) (nq := pNq T f pp ee) (xs := xs) (inv := inv) (fun x hx => (hpr x hx).1) k1
  have := lsC_le (tLs (pTE f pp ee is e α) (pTN f pp ee is e α) e)
  show (gaM (τ.2.2.1 32) (tLs (pTE f pp ee is e α) (pTN f pp ee is e α) e) (pTN f pp ee is e α) (pNq T f pp ee) xs inv).2.1 (kp.1, kp.2) < 60
  omega
end AC2
