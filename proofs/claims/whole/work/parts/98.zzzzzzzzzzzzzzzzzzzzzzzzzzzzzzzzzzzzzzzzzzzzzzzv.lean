/-! ROOM: COPY: a function that a told type's row takes lies once more elsewhere -/
theorem yL_nf : ∀ {V : tY}, (yG V ∨ V = .leaf) → yK V ≠ 1 → yL V = .leaf
  | .leaf, _, _ => rfl
  | .inner k u v a b, g, h => by
    have c : k ≠ 0 := fun z => h (by rw [z]; rfl)
    rcases g with g | g
    · unfold yG at g
      rw [if_neg c] at g
      exact g.1
    · cases g
theorem yAr_tl {V : tY} {b : Nat} (g : yG V) (hk : yK (yRs b V) = 1) : yAr (yRs b V) ≤ yAr V := by
  have := yAr_b b V (Or.inl g) (Nat.le_of_lt (ySp_k g hk))
  omega
theorem yLa_le {V : tY} {s : Nat} (g : yG V) (hs : s < ySp V) : s + 1 + yLa V s ≤ yAr V := by
  have e := yAr_e V (Or.inl g) (ySp V) (Nat.le_refl _)
  have := sNx_1 (h := yLa V) hs
  omega
theorem yG_lf {V : tY} {i : Nat} (g : yG V) (hk : yK (yRs i V) = 1) : yG (yL (yRs i V)) := by
  rcases yG_rs i V (Or.inl g) with q | q
  · revert q hk
    generalize yRs i V = X
    intro hk q
    cases X with
    | leaf => exact absurd hk (by decide)
    | inner k u v a b =>
      have k0 : k = 0 := by have hk : k + 1 = 1 := hk; omega
      unfold yG at q
      rw [if_pos k0] at q
      exact q.1
  · rw [q] at hk; exact absurd hk (by decide)
section TCY
variable {ρ : Nat → Nat × Nat} {tE tN : Nat → tY} {Un Ui : List ((Nat × Nat) × Nat)} {Ls W : List Nat} {l : List (Nat × tY × List Nat)}
theorem tl_yA (h : tlH ρ tE tN Un Ls W l) {id0 : Nat × Nat} {m0 : Nat} (hu : (id0, m0) ∈ Un) : yAr (uY tE tN id0) ≤ tlN l := by
  have g := (sx_u h hu).1
  have e := yAr_e (uY tE tN id0) (Or.inl g) (ySp (uY tE tN id0)) (Nat.le_refl _)
  have q := tl_st h hu (a := 0) (m := ySp (uY tE tN id0)) (pre := ySp (uY tE tN id0)) (Nat.le_refl _) (B := []) List.nodup_nil (fun b hb => by cases hb) (fun b hb => by cases hb) (fun d hd => by cases hd)
  simp only [Nat.zero_add, List.length_nil, Nat.add_zero] at q
  have e2 : (fun i => yLa (uY tE tN id0) i) = yLa (uY tE tN id0) := rfl
  rw [e2] at q
  omega
/-- what a told type's row takes at s, where it comes from a unit that doesn't hold that place -/
theorem tl_cy (h : tlH ρ tE tN Un Ls W l) {id0 id' : Nat × Nat} {m0 m' : Nat} (hu : (id0, m0) ∈ Un) (hu' : (id', m') ∈ Un) {i b s : Nat} (hi : i < ySp (uY tE tN id0)) (hs : s < ySp (yL (yRs i (uY tE tN id0)))) (hk : yK (yL (yRs s (yL (yRs i (uY tE tN id0))))) = 1) (eX : yL (yRs s (yL (yRs i (uY tE tN id0)))) = yRs b (uY tE tN id')) (no : ∀ s', s' < b → yRs s' (uY tE tN id') ≠ yRs s (yL (yRs i (uY tE tN id0)))) : yLa (uY tE tN id0) i + (i + 1) + yAr (yL (yRs s (yL (yRs i (uY tE tN id0))))) ≤ tlN l := by
  have g0 := (sx_u h hu).1
  have g' := (sx_u h hu').1
  have gy : yG (yL (yRs i (uY tE tN id0))) := yG_lf g0 (ySp_i _ _ hi)
  have l1 := yLa_le g0 hi
  have l2 := yLa_le gy hs
  have e3 : yLa (yL (yRs i (uY tE tN id0))) s = yAr (yL (yRs s (yL (yRs i (uY tE tN id0))))) := rfl
  have e4 : yLa (uY tE tN id0) i = yAr (yL (yRs i (uY tE tN id0))) := rfl
  have t0 := tl_yA h hu
  rcases tl_tw h hu hu' hi (by rw [← eX]; exact hk) (by rw [← eX]; omega) with ⟨x, u, p, hx, -, -, -, e5, e6⟩ | ⟨-, c1, c2⟩ | c
  · rw [e5, uY_p] at eX no g'
    have ne : p ≠ i := fun z => by
      rw [z] at e6
      rw [e6] at eX no
      rcases Nat.lt_or_ge s b with q | q
      · exact no s q rfl
      · have z1 := yZ_rm (yL (yRs i (uY tE tN id0))) b s q
        rw [← eX] at z1
        have k1 := ySp_i _ _ hs
        revert z1 k1
        generalize yRs s (yL (yRs i (uY tE tN id0))) = w
        intro z1 k1
        cases w with
        | leaf => exact absurd k1 (by decide)
        | inner k u v a b =>
          have : yZ (.inner k u v a b : tY) = yZ a + yZ b + 1 := rfl
          have : yL (.inner k u v a b : tY) = a := rfl
          rw [this] at z1
          omega
    have kX : yK (yRs b (tN u)) = 1 := by rw [← eX]; exact hk
    have kp : yK (yRs p (uY tE tN id0)) = 1 := by
      refine Classical.byContradiction fun q => ?_
      have := yL_nf (yG_rs p _ (Or.inl g0)) q
      rw [e6, this, yRs_lf] at kX
      exact absurd kX (by decide)
    have sp := ySp_k g0 kp
    have m := yAr_tl g' kX
    rw [← eX] at m
    have e7 : yLa (uY tE tN id0) p = yAr (tN u) := by rw [e6]; rfl
    have e := yAr_e (uY tE tN id0) (Or.inl g0) (ySp (uY tE tN id0)) (Nat.le_refl _)
    have n2 := sNx_2 (h := yLa (uY tE tN id0)) hi sp (fun z => ne z.symm)
    omega
  · have := sNx_1 (h := yLa (uY tE tN id0)) c1
    rw [← eX] at c2
    omega
  · rw [← eX] at c
    omega
/-- a part of a told type that a let rec or a fun asks for lies in its own TEMPLATE -/
theorem tl_cw (h : tlH ρ tE tN Un Ls W l) {id0 : Nat × Nat} {k0 m0 m' : Nat} (hu : (id0, m0) ∈ Un) (hu' : (((0, k0) : Nat × Nat), m') ∈ Un) {i b : Nat} (hi : i < ySp (uY tE tN id0)) (hk : yK (yRs b (uY tE tN (0, k0))) = 1) (hA : yAr (yRs b (uY tE tN (0, k0))) ≤ yLa (uY tE tN id0) i) : yLa (uY tE tN id0) i + (i + 1) + yAr (yRs b (uY tE tN (0, k0))) ≤ tlN l := by
  have g0 := (sx_u h hu).1
  have l1 := yLa_le g0 hi
  have t0 := tl_yA h hu
  rcases tl_tw h hu hu' hi hk hA with ⟨x, u, p, -, -, -, -, e5, -⟩ | ⟨-, c1, c2⟩ | c
  · injection e5 with e5; cases e5
  · have := sNx_1 (h := yLa (uY tE tN id0)) c1
    omega
  · omega
end TCY
section TXY
variable {T len cnt j N S P Q x0 : Nat} {kk pp ee f fc : Nat → Int32} {xs : List tQ} {is : List (Nat × Nat)} {e : tT} {α : Nat → tY} {g' : gG} {ρ' : Nat → tY} {τ : zSt}
set_option maxHeartbeats 1000000 in
/-- **COPY for a PROGRAM: a told type's arrows, its place, and what its row takes at any place are no more than all arrows** -/
theorem tx_cy (hT : 2010 ≤ T) (hp : pgT T len cnt j kk pp ee f fc xs is e α) (hR : pgR T len cnt kk pp ee f xs is e α N S P Q x0 g' ρ' τ) {id0 : Nat × Nat} {m0 : Nat} (hu : (id0, m0) ∈ gUn (pTN f pp ee is e α) e (is.map Prod.fst)) {i s : Nat} (hi : i < ySp (uY (pTE f pp ee is e α) (pTN f pp ee is e α) id0)) (hs : s < ySp (yL (yRs i (uY (pTE f pp ee is e α) (pTN f pp ee is e α) id0)))) (hk : yK (yL (yRs s (yL (yRs i (uY (pTE f pp ee is e α) (pTN f pp ee is e α) id0))))) = 1) : yLa (uY (pTE f pp ee is e α) (pTN f pp ee is e α) id0) i + (i + 1) + yAr (yL (yRs s (yL (yRs i (uY (pTE f pp ee is e α) (pTN f pp ee is e α) id0))))) ≤ tlN (tLs (pTE f pp ee is e α) (pTN f pp ee is e α) e) := by
  have G := tx_gu hT hp hR
  obtain ⟨ρ, H⟩ := tx_tl hT hp hR
  have Zc := tx_z (wt := 0) hT hp hR
  have oQ := tx_or (wt := 0) hT hp hR.2.1
  have hU : ∀ x, x ∈ gUi e → ∃ m, (x.1, m) ∈ gUn (pTN f pp ee is e α) e (is.map Prod.fst) := fun x hx => gUi_n e (is.map Prod.fst) x hx
  have hO := fun o => cvO_u (tE := pTE f pp ee is e α) (tN := pTN f pp ee is e α) e (is.map Prod.fst) o
  revert hu hi hs hk Zc hU hO H G oQ
  generalize cvE f pp ee 0 (pTN f pp ee is e α) e (is.map Prod.fst) (fun _ => 0) = L
  generalize gUn (pTN f pp ee is e α) e (is.map Prod.fst) = Un
  generalize cvO (pTE f pp ee is e α) (pTN f pp ee is e α) e = O
  generalize tLs (pTE f pp ee is e α) (pTN f pp ee is e α) e = l
  generalize pTE f pp ee is e α = tE
  generalize pTN f pp ee is e α = tN
  intro hu hi hs hk G H Zc oQ hU hO
  have g0 := (sx_u H hu).1
  have gy : yG (yL (yRs i (uY tE tN id0))) := yG_lf g0 (ySp_i _ _ hi)
  have k1 : yK (yRs s (yL (yRs i (uY tE tN id0)))) = 1 := ySp_i _ _ hs
  obtain ⟨xt, hxt, zin⟩ := uY_in H hu
  have yself : ∀ w : tY, yK w = 1 → yIn w w := fun w hw => by
    cases w with
    | leaf => exact absurd hw (by decide)
    | inner k u v a b => exact ⟨by have hw : k + 1 = 1 := hw; omega, Or.inl rfl⟩
  have yin : yIn (yRs s (yL (yRs i (uY tE tN id0)))) (uY tE tN id0) := yIn_rs i _ (fun i' hi' => yK_is (ySp_i _ _ (by omega))) (yIn_l (yK_is (ySp_i _ _ hi)) (yIn_rs s _ (fun i' hi' => yK_is (ySp_i _ _ (by omega))) (yself _ k1)))
  obtain ⟨M, hM⟩ := cl_mx L
  rcases Zc xt hxt _ (zin _ yin) with ⟨c, hc, i', hi', e1⟩ | ⟨o, ho, i', hi', e1⟩
  · obtain ⟨x, hx, b, eX, no⟩ := ch_or oQ hM ⟨c, hc, i', hi', e1⟩ hk
    obtain ⟨m', hm'⟩ := hU x hx
    exact tl_cy H hu hm' hi hs hk eX no
  · obtain ⟨k, m', h1, h2⟩ := hO o ho
    have l2 := yLa_le gy hs
    have t := yAr_tl gy k1
    have e4 : yLa (uY tE tN id0) i = yAr (yL (yRs i (uY tE tN id0))) := rfl
    have C := tl_cw H hu h1 hi (b := i') (by rw [h2, ← e1]; exact k1) (by rw [h2, ← e1, e4]; exact t)
    rw [h2, ← e1] at C
    have gw : yG (yRs s (yL (yRs i (uY tE tN id0)))) := by
      rcases yG_rs s _ (Or.inl gy) with q | q
      · exact q
      · rw [q] at k1; exact absurd k1 (by decide)
    have l3 := yLa_le (s := 0) gw (ySp_k gw k1)
    have e5 : yLa (yRs s (yL (yRs i (uY tE tN id0)))) 0 = yAr (yL (yRs s (yL (yRs i (uY tE tN id0))))) := rfl
    omega
theorem yLt_of {t : Nat} : ∀ (y : tY), (∀ s, s < ySp y → yK (yL (yRs s y)) = 1 → yAr (yL (yRs s y)) ≤ t) → yLt t y
  | .leaf, _ => trivial
  | .inner k u v a b, h => fun k0 => by
    subst k0
    have sp : ySp (.inner 0 u v a b : tY) = ySp b + 1 := rfl
    refine ⟨?_, yLt_of b (fun s hs hk => h (s + 1) (by omega) hk)⟩
    by_cases q : yK a = 1
    · exact Nat.le_trans (yHt_A a) (h 0 (by omega) q)
    · rw [yHt_n q]
      exact Nat.zero_le _
/-- COPY, as a bound of heights -/
theorem tx_lt (hT : 2010 ≤ T) (hp : pgT T len cnt j kk pp ee f fc xs is e α) (hR : pgR T len cnt kk pp ee f xs is e α N S P Q x0 g' ρ' τ) {id0 : Nat × Nat} {m0 : Nat} (hu : (id0, m0) ∈ gUn (pTN f pp ee is e α) e (is.map Prod.fst)) {i : Nat} (hi : i < ySp (uY (pTE f pp ee is e α) (pTN f pp ee is e α) id0)) : yLt (tlN (tLs (pTE f pp ee is e α) (pTN f pp ee is e α) e) - (yLa (uY (pTE f pp ee is e α) (pTN f pp ee is e α) id0) i + (i + 1))) (yL (yRs i (uY (pTE f pp ee is e α) (pTN f pp ee is e α) id0))) :=
  yLt_of _ (fun s hs hk => by
    have := tx_cy hT hp hR hu hi hs hk
    omega)
end TXY
