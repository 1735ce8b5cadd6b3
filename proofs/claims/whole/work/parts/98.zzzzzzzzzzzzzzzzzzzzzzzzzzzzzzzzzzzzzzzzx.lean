/-! CAPACITIES: what must be SO is no more than words -/
theorem gIs_2 : ∀ (r : List (Nat × Nat)) (sc : List gEn) (s : gSt), (gIs r sc s).2.2 = s.2
  | [], _, _ => rfl
  | y :: r, sc, s => gIs_2 r (gNm (.inl y.1) (gPl (yB y.2)) sc) (gTn y.1 (gPl (yB y.2)) s)
theorem gNe_ln (x : gNd) (s : gSt) : (gNe x s).2.2.length = s.2.2.length + 1 := by
  unfold gNe
  rw [List.length_append]
  rfl
section AEW
variable {kk : Nat → Int32} {T cnt : Nat} {f pp ee : Nat → Int32} {tE tM : Nat → tY}
set_option maxHeartbeats 1000000 in
theorem aE_nl (hz : ∀ i, cnt ≤ i → kk i = 0) (k i : Nat) (t : tT) (j : Nat) (h : aE kk T k i = .inr (t, j)) : i < j ∧ ∀ env sc A s, (gWk T f pp ee tE tM t env sc A s).1.2.2.length ≤ s.2.2.length + (j - i) := by
  refine aE_ind (P := fun k i t j => i < j ∧ ∀ env sc A s, (gWk T f pp ee tE tM t env sc A s).1.2.2.length ≤ s.2.2.length + (j - i)) (Q := fun k q i t j => i ≤ j ∧ ∀ env sc A s, (gWk T f pp ee tE tM t env sc A s).1.2.2.length ≤ s.2.2.length + (j - i)) ?_ ?_ ?_ ?_ ?_ ?_ ?_ ?_ ?_ ?_ ?_ ?_ ?_ ?_ ?_ ?_ ?_ ?_ ?_ ?_ k i t j h
  · rintro k i a l b j - - ⟨a0, a1⟩ - ⟨b0, b1⟩
    refine ⟨by omega, fun env sc A s => ?_⟩
    have i1 := a1 env sc A s
    have i2 : _ ≤ (gWk T f pp ee tE tM a env sc A s).1.2.2.length + (j - (l + 1)) := b1 (env ++ [i + 1]) (gNm (.inl (i + 1)) (gWk T f pp ee tE tM a env sc A s).2 sc) A (gTn (i + 1) (gWk T f pp ee tE tM a env sc A s).2 (gWk T f pp ee tE tM a env sc A s).1)
    exact Nat.le_trans i2 (by omega)
  · rintro k i q a l b j - - - - - - ⟨a0, a1⟩ - ⟨b0, b1⟩
    refine ⟨by omega, fun env sc A s => ?_⟩
    have p2 := gPa_2 q (i + 3) (gTp (2 * i + 1) (tM (i + 2)) (List.range' (i + 3) q) sc) sc (gTn (i + 2) (gTp (2 * i + 1) (tM (i + 2)) (List.range' (i + 3) q) sc) s)
    generalize hp : gPa q (i + 3) (gTp (2 * i + 1) (tM (i + 2)) (List.range' (i + 3) q) sc) sc (gTn (i + 2) (gTp (2 * i + 1) (tM (i + 2)) (List.range' (i + 3) q) sc) s) = p at p2
    have p2 : p.2.2.2 = s.2 := p2
    have i1 := a1 (env ++ ([i + 2] ++ List.range' (i + 3) q)) p.1 A p.2.2
    rw [p2] at i1
    have i2 : _ ≤ (gWk T f pp ee tE tM a (env ++ ([i + 2] ++ List.range' (i + 3) q)) p.1 A p.2.2).1.2.2.length + (j - (l + 1)) := b1 (env ++ [i + 2]) sc A (gFt (gFi (gSy p.2.1) (gWk T f pp ee tE tM a (env ++ ([i + 2] ++ List.range' (i + 3) q)) p.1 A p.2.2).2 p.2.1 p.1) (gWk T f pp ee tE tM a (env ++ ([i + 2] ++ List.range' (i + 3) q)) p.1 A p.2.2).1)
    subst hp
    exact Nat.le_trans i2 (by omega)
  · rintro k i a j - - - ⟨a0, a1⟩
    refine ⟨by omega, fun env sc A s => ?_⟩
    have i1 : _ ≤ s.2.2.length + (j - (i + 3)) := a1 (env ++ [i + 1]) (gNm (.inl (i + 1)) (gTk (gTp (2 * i) (tE i) [i + 1] sc)) sc) A (gTn (i + 1) (gTk (gTp (2 * i) (tE i) [i + 1] sc)) s)
    exact Nat.le_trans i1 (by omega)
  · rintro k i c l a m b j - hc' - ⟨a0, a1⟩ - ⟨b0, b1⟩
    have e0 := aE_nd0 hz _ _ _ _ hc'
    refine ⟨by omega, fun env sc A s => ?_⟩
    have i1 := a1 env (.inr (.inl (c, env), true) :: sc) (gTp (2 * i) (tE i) [] sc) s
    have i2 : _ ≤ (gWk T f pp ee tE tM a env (.inr (.inl (c, env), true) :: sc) (gTp (2 * i) (tE i) [] sc) s).1.2.2.length + (j - (m + 1)) := b1 env (gFl (.inr (.inl (c, env), true) :: sc)) (gTp (2 * i) (tE i) [] sc) (gFt (gFi (gSy (gTp (2 * i) (tE i) [] sc)) (gWk T f pp ee tE tM a env (.inr (.inl (c, env), true) :: sc) (gTp (2 * i) (tE i) [] sc) s).2 (gTp (2 * i) (tE i) [] sc) (.inr (.inl (c, env), true) :: sc)) (gWk T f pp ee tE tM a env (.inr (.inl (c, env), true) :: sc) (gTp (2 * i) (tE i) [] sc) s).1)
    exact Nat.le_trans i2 (by omega)
  · rintro k i c l a j - hc' - ⟨a0, a1⟩
    have e0 := aE_nd0 hz _ _ _ _ hc'
    refine ⟨by omega, fun env sc A s => ?_⟩
    have i1 := a1 env (.inr (.inl (c, env), true) :: sc) A (gNe (sc, i, 0, c, [], env, 0) s)
    rw [gNe_ln] at i1
    exact Nat.le_trans i1 (by omega)
  · rintro k i S l S' m a j - - - hS - - hS' - ⟨a0, a1⟩
    obtain ⟨⟨-, f1⟩, -⟩ := aSm_fx hS
    obtain ⟨⟨-, g1⟩, -⟩ := aSm_fx hS'
    refine ⟨by omega, fun env sc A s => ?_⟩
    have i1 := a1 env sc A (gNe (sc, i + 2, 3, .leaf, S.2, env, gNu f pp ee env (i + 1)) s)
    rw [gNe_ln] at i1
    exact Nat.le_trans i1 (by omega)
  · rintro k i S j - hS
    obtain ⟨⟨-, f1⟩, -⟩ := aSm_fx hS
    refine ⟨by omega, fun env sc A s => ?_⟩
    have i1 := gNe_ln (sc, i, 2, .leaf, S.2, env, 0) s
    exact Nat.le_trans (Nat.le_of_eq i1) (by omega)
  · rintro k i g hg
    refine ⟨by omega, fun env sc A s => ?_⟩
    rcases hg with ⟨-, rfl⟩ | ⟨-, rfl⟩ | ⟨-, rfl⟩
    all_goals exact Nat.le_add_right _ _
  · rintro k i S j - hS
    obtain ⟨⟨-, f1⟩, -⟩ := aSm_fx hS
    exact ⟨by omega, fun env sc A s => Nat.le_add_right _ _⟩
  · rintro k i g S l S' j hg hS hS'
    obtain ⟨⟨-, f1⟩, -⟩ := aSm_fx hS
    obtain ⟨⟨-, g1⟩, -⟩ := aSm_fx hS'
    refine ⟨by omega, fun env sc A s => ?_⟩
    have i1 := gNe_ln (sc, l, 1, .leaf, S'.2, env, 0) s
    rcases hg with ⟨-, rfl⟩ | ⟨-, rfl⟩ | ⟨-, rfl⟩
    · exact Nat.le_add_right _ _
    · exact Nat.le_trans (Nat.le_of_eq i1) (by omega)
    · exact Nat.le_trans (Nat.le_of_eq i1) (by omega)
  · rintro k i S l - - hS -
    obtain ⟨⟨-, f1⟩, -⟩ := aSm_fx hS
    refine ⟨by omega, fun env sc A s => ?_⟩
    have i1 := gNe_ln (sc, i + 1, 3, .leaf, S.2, env, gNu f pp ee env i) s
    exact Nat.le_trans (Nat.le_of_eq i1) (by omega)
  · rintro k i as j - har ⟨a0, a1⟩
    refine ⟨by omega, fun env sc A s => ?_⟩
    have i1 := a1 env sc (s.1 (gNu f pp ee env i)) s
    exact Nat.le_trans i1 (by omega)
  · rintro k i a l - ⟨a0, a1⟩ -
    refine ⟨by omega, fun env sc A s => ?_⟩
    have i1 := a1 env sc A s
    exact Nat.le_trans i1 (by omega)
  · rintro k i S l - hS -
    obtain ⟨⟨-, f1⟩, -⟩ := aSm_fx hS
    exact ⟨by omega, fun env sc A s => Nat.le_add_right _ _⟩
  · rintro k i a l b j - - ⟨a0, a1⟩ - - - - ⟨b0, b1⟩
    refine ⟨by omega, fun env sc A s => ?_⟩
    have i1 := a1 env (.inr (.inr (gNu f pp ee env (i + 1)), true) :: sc) A s
    generalize hr : gWk T f pp ee tE tM a env (.inr (.inr (gNu f pp ee env (i + 1)), true) :: sc) A s = r1 at i1
    have i2 : _ ≤ r1.1.2.2.length + (j - (l + 4)) := b1 (env ++ [l + 1, l + 1 + 1]) (gNm (.inl (l + 1 + 1)) (gEq (yB 3) (some (.inl (gNu f pp ee env (i + 1)), 1), -1)) (gNm (.inl (l + 1)) (gPl (yB 0)) (.inr (.inr (gNu f pp ee env (i + 1)), false) :: sc))) A (gTn (l + 1 + 1) (gEq (yB 3) (some (.inl (gNu f pp ee env (i + 1)), 1), -1)) (gTn (l + 1) (gPl (yB 0)) (gFt (gFi (tE i) r1.2 (gTp (2 * i) (tE i) [] sc) (.inr (.inr (gNu f pp ee env (i + 1)), true) :: sc)) r1.1)))
    subst hr
    exact Nat.le_trans i2 (by omega)
  · intro k q i ha
    exact ⟨Nat.le_refl _, fun env sc A s => Nat.le_add_right _ _⟩
  · rintro k q i b j - - - ⟨b0, b1⟩
    refine ⟨by omega, fun env sc A s => ?_⟩
    generalize hS : (i, [((if aIs kk 2 i = true then 0 else 1), false, i)]) = S
    have i2 : _ ≤ s.2.2.length + (j - (i + 1)) := b1 env sc (if gMs (yL (gSy A)) = true then gPu (gAn A) (gPn A) (gOf T f pp ee env S.2) else gAn A) (gFt (gFi (yL (gSy A)) (gSu T f pp ee env S.2 s) (gTk A) sc) s)
    subst hS
    exact Nat.le_trans i2 (by omega)
  · rintro k q i S l b j - - hS - ⟨b0, b1⟩
    obtain ⟨⟨-, f1⟩, -⟩ := aSm_fx hS
    refine ⟨by omega, fun env sc A s => ?_⟩
    have i2 : _ ≤ s.2.2.length + (j - (l + 1)) := b1 env sc (if gMs (yL (gSy A)) = true then gPu (gAn A) (gPn A) (gOf T f pp ee env S.2) else gAn A) (gFt (gFi (yL (gSy A)) (gSu T f pp ee env S.2 s) (gTk A) sc) s)
    exact Nat.le_trans i2 (by omega)
  · rintro k q i e l b j - - ⟨a0, a1⟩ - ⟨b0, b1⟩
    refine ⟨by omega, fun env sc A s => ?_⟩
    have i1 := a1 env sc A s
    have i2 : _ ≤ (gWk T f pp ee tE tM e env sc A s).1.2.2.length + (j - (l + 1)) := b1 env sc (gAn A) (gFt (gFi (yL (gSy A)) (gWk T f pp ee tE tM e env sc A s).2 (gTk A) sc) (gWk T f pp ee tE tM e env sc A s).1)
    exact Nat.le_trans i2 (by omega)
  · rintro k q i v b j - ⟨b0, b1⟩
    refine ⟨by omega, fun env sc A s => ?_⟩
    have i2 := b1 env sc (gAn A) s
    exact Nat.le_trans i2 (by omega)
end AEW
section TXM
variable {T len cnt j : Nat} {kk pp ee f fc : Nat → Int32} {xs : List tQ} {is : List (Nat × Nat)} {e : tT} {α : Nat → tY}
/-- what must be SO -/
theorem tx_sln (hp : pgT T len cnt j kk pp ee f fc xs is e α) (q0 : Nat → gTy) (A0 : gTy) : (pWk T f pp ee is e α q0 A0).1.2.2.length ≤ 2000 := by
  obtain ⟨⟨p1, p1', p1''⟩, p2, p3, p4, ⟨p5, p5'⟩, -, p7, p8, -⟩ := hp
  obtain ⟨-, j', q3⟩ := aPr_d p2
  have h1 := (aE_nl (f := f) (pp := pp) (ee := ee) (tE := pTE f pp ee is e α) (tM := pTN f pp ee is e α) p8 _ _ _ _ q3).2 (is.map Prod.fst) (gIs is [] (q0, [], [])).1 A0 (gIs is [] (q0, [], [])).2
  rw [gIs_2] at h1
  have h1 : _ ≤ 0 + (cnt - j') := h1
  exact Nat.le_trans h1 (by omega)
end TXM
