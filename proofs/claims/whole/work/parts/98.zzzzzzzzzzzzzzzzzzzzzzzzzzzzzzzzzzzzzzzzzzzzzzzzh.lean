/-! ROOM: COPY for a PROGRAM, with functions that are ARGS -/
section TXF
variable {T len cnt j N S P Q x0 : Nat} {kk pp ee f fc : Nat → Int32} {xs : List tQ} {is : List (Nat × Nat)} {e : tT} {α : Nat → tY} {g' : gG} {ρ' : Nat → tY} {τ : zSt}
set_option maxHeartbeats 1000000 in
/-- **COPY for a PROGRAM, with functions that are ARGS** -/
theorem tx_cyF (hT : 2010 ≤ T) (hp : pgT T len cnt j kk pp ee f fc xs is e α) (hR : pgR T len cnt kk pp ee f xs is e α N S P Q x0 g' ρ' τ) {id0 : Nat × Nat} {m0 : Nat} (hu : (id0, m0) ∈ gUn (pTN f pp ee is e α) e (is.map Prod.fst)) {i s : Nat} (hi : i < ySp (uY (pTE f pp ee is e α) (pTN f pp ee is e α) id0)) (hs : s < ySp (yL (yRs i (uY (pTE f pp ee is e α) (pTN f pp ee is e α) id0)))) (hk : yK (yL (yRs s (yL (yRs i (uY (pTE f pp ee is e α) (pTN f pp ee is e α) id0))))) = 1) : yLa (uY (pTE f pp ee is e α) (pTN f pp ee is e α) id0) i + (i + 1) + yAr (yL (yRs s (yL (yRs i (uY (pTE f pp ee is e α) (pTN f pp ee is e α) id0))))) + gfN e ≤ tlN (tLs (pTE f pp ee is e α) (pTN f pp ee is e α) e) + 2 := by
  have GF : gfN e ≤ ((tLs (pTE f pp ee is e α) (pTN f pp ee is e α) e).filter fuP).length := by
    obtain ⟨⟨-, -, -, -, -, f3, -⟩, -, -, w0, nd, gok⟩ := tx_1 hT hp hR.2.1
    obtain ⟨-, -, -, -, -, ⟨⟨g1, g2, -⟩, -⟩, -⟩ := hp
    exact (gf_le (tE := pTE f pp ee is e α) (tN := pTN f pp ee is e α) e f3 0 g2).1
  have G := tx_gu hT hp hR
  obtain ⟨ρ, H⟩ := tx_tl hT hp hR
  have Zc := tx_z (wt := 0) hT hp hR
  have oQ := tx_or (wt := 0) hT hp hR.2.1
  have hU : ∀ x, x ∈ gUi e → ∃ m, (x.1, m) ∈ gUn (pTN f pp ee is e α) e (is.map Prod.fst) := fun x hx => gUi_n e (is.map Prod.fst) x hx
  have hO := fun o => cvO_u (tE := pTE f pp ee is e α) (tN := pTN f pp ee is e α) e (is.map Prod.fst) o
  revert hu hi hs hk Zc hU hO H G oQ GF
  generalize gfN e = gf
  generalize cvE f pp ee 0 (pTN f pp ee is e α) e (is.map Prod.fst) (fun _ => 0) = L
  generalize gUn (pTN f pp ee is e α) e (is.map Prod.fst) = Un
  generalize cvO (pTE f pp ee is e α) (pTN f pp ee is e α) e = O
  generalize tLs (pTE f pp ee is e α) (pTN f pp ee is e α) e = l
  generalize pTE f pp ee is e α = tE
  generalize pTN f pp ee is e α = tN
  intro hu hi hs hk GF G H Zc oQ hU hO
  have g0 := (sx_u H hu).1
  have gy : yG (yL (yRs i (uY tE tN id0))) := yG_lf g0 (ySp_i _ _ hi)
  have k1 : yK (yRs s (yL (yRs i (uY tE tN id0)))) = 1 := ySp_i _ _ hs
  obtain ⟨xt, hxt, zin⟩ := uY_in H hu
  have yself : ∀ w : tY, yK w = 1 → yIn w w := fun w hw => by
    cases w with
    | leaf => exact absurd hw (by decide)
    | inner k u v a b => exact ⟨by have hw : k + 1 = 1 := hw; omega, Or.inl rfl⟩
  have yin : yIn (yRs s (yL (yRs i (uY tE tN id0)))) (uY tE tN id0) := yIn_rs i _ (fun i' hi' => yK_is (ySp_i _ _ (by omega))) (yIn_l (yK_is (ySp_i _ _ hi)) (yIn_rs s _ (fun i' hi' => yK_is (ySp_i _ _ (by omega))) (yself _ k1)))
  obtain ⟨M, hM⟩ := cl_mx L
  rcases Zc xt hxt _ (zin _ yin) with ⟨c, hc, i', hi', e1⟩ | ⟨o, ho, i', hi', e1⟩
  · obtain ⟨x, hx, b, eX, no⟩ := ch_or oQ hM ⟨c, hc, i', hi', e1⟩ hk
    obtain ⟨m', hm'⟩ := hU x hx
    have := tl_cyF H hu hm' hi hs hk eX no
    omega
  · obtain ⟨k, m', h1, h2⟩ := hO o ho
    have l2 := yLa_le gy hs
    have t := yAr_tl gy k1
    have e4 : yLa (uY tE tN id0) i = yAr (yL (yRs i (uY tE tN id0))) := rfl
    have C := tl_cwF H hu h1 hi (b := i') (by rw [h2, ← e1]; exact k1) (by rw [h2, ← e1, e4]; exact t)
    rw [h2, ← e1] at C
    have gw : yG (yRs s (yL (yRs i (uY tE tN id0)))) := by
      rcases yG_rs s _ (Or.inl gy) with q | q
      · exact q
      · rw [q] at k1; exact absurd k1 (by decide)
    have l3 := yLa_le (s := 0) gw (ySp_k gw k1)
    have e5 : yLa (yRs s (yL (yRs i (uY tE tN id0)))) 0 = yAr (yL (yRs s (yL (yRs i (uY tE tN id0))))) := rfl
    omega
/-- COPY with functions that are ARGS, as a bound of heights -/
theorem tx_ltF (hT : 2010 ≤ T) (hp : pgT T len cnt j kk pp ee f fc xs is e α) (hR : pgR T len cnt kk pp ee f xs is e α N S P Q x0 g' ρ' τ) {id0 : Nat × Nat} {m0 : Nat} (hu : (id0, m0) ∈ gUn (pTN f pp ee is e α) e (is.map Prod.fst)) {i : Nat} (hi : i < ySp (uY (pTE f pp ee is e α) (pTN f pp ee is e α) id0)) : yLt (tlN (tLs (pTE f pp ee is e α) (pTN f pp ee is e α) e) + 2 - (gfN e + yLa (uY (pTE f pp ee is e α) (pTN f pp ee is e α) id0) i + (i + 1))) (yL (yRs i (uY (pTE f pp ee is e α) (pTN f pp ee is e α) id0))) :=
  yLt_of _ (fun s hs hk => by
    have := tx_cyF hT hp hR hu hi hs hk
    omega)
end TXF
