/-! ROOM: COPY, with funs whose heads ask for parts of a type -/
section TTZ
variable {ρ : Nat → Nat × Nat} {tE tN : Nat → tY} {Un : List ((Nat × Nat) × Nat)} {Ls W : List Nat} {l : List (Nat × tY × List Nat)}
set_option maxHeartbeats 1000000 in
/-- tl_tw, with funs whose heads are smaller -/
theorem tl_twZ (h : tlH ρ tE tN Un Ls W l) {Zf : List tY} {w : Nat} (hn : Zf.Nodup) (hz : ∀ z, z ∈ Zf → (∃ x, x ∈ l ∧ fuP x = true ∧ z = x.2.1) ∧ yAr z < w) {id0 id' : Nat × Nat} {m0 m' : Nat} (hu : (id0, m0) ∈ Un) (hu' : (id', m') ∈ Un) {i b : Nat} (hi : i < ySp (uY tE tN id0)) (hk : yK (yRs b (uY tE tN id')) = 1) (hA : yAr (yRs b (uY tE tN id')) ≤ yLa (uY tE tN id0) i) (hw : w ≤ yAr (yRs b (uY tE tN id'))) : (∃ x u p, x ∈ l ∧ id0 = (0, x.1) ∧ p < 4 ∧ x.2.2[p]? = some u ∧ id' = (1, u) ∧ tN u = yL (yRs p (uY tE tN id0))) ∨ (id' = id0 ∧ i < b ∧ b + sNx (yLa (uY tE tN id0)) b + yAr (yRs b (uY tE tN id')) = yAr (uY tE tN id0)) ∨ yAr (uY tE tN id0) + b + yAr (yRs b (uY tE tN id')) + ((Zf.map yAr).sum + (l.filter fuP).length) ≤ tlN l + 2 + Zf.length := by
  obtain ⟨x0, hx0, hid⟩ := h.wh hu
  obtain ⟨x', hx', hid'⟩ := h.wh hu'
  obtain ⟨B, b1, b2⟩ := ex_B (l := l) Zf (fun z hz' => (hz z hz').1)
  have nB : B.Nodup := List.Pairwise.of_map (R := fun a b => a ≠ b) (S := fun a b => a ≠ b) (fun x : Nat × tY × List Nat => x.2.1) (fun a b hne e => hne (by rw [e])) (by rw [b1]; exact hn)
  have e1 : B.map (fun x : Nat × tY × List Nat => yAr x.2.1) = Zf.map yAr := by
    rw [← b1, List.map_map]
    rfl
  have e2 : B.length = Zf.length := by rw [← b1, List.length_map]
  have nin : ∀ x : Nat × tY × List Nat, w ≤ yAr x.2.1 → x ∉ B := fun x hx c => by
    have m : x.2.1 ∈ Zf := by rw [← b1]; exact List.mem_map.mpr ⟨x, c, rfl⟩
    have := (hz _ m).2
    omega
  have AL : ∀ x, x ∈ l → w ≤ yAr x.2.1 → yAr x.2.1 + ((Zf.map yAr).sum + (l.filter fuP).length) ≤ tlN l + 1 + Zf.length := fun x hx hw' => by
    have := tl_B h (B := x :: B) (List.nodup_cons.mpr ⟨nin x hw', nB⟩) (fun b hb => by
      rcases List.mem_cons.mp hb with q | q
      · rw [q]; exact hx
      · exact (b2 b q).1)
    rw [List.map_cons, List.sum_cons, List.length_cons, e1, e2] at this
    omega
  have AL2 : ∀ x y, x ∈ l → y ∈ l → x.1 ≠ y.1 → w ≤ yAr x.2.1 → w ≤ yAr y.2.1 → yAr x.2.1 + yAr y.2.1 + ((Zf.map yAr).sum + (l.filter fuP).length) ≤ tlN l + 2 + Zf.length := fun x y hx hy hn hw1 hw2 => by
    have := tl_B h (B := x :: y :: B) (List.nodup_cons.mpr ⟨fun z => by
      rcases List.mem_cons.mp z with q | q
      · exact hn (by rw [q])
      · exact nin x hw1 q, List.nodup_cons.mpr ⟨nin y hw2, nB⟩⟩) (fun b hb => by
      rcases List.mem_cons.mp hb with q | q
      · rw [q]; exact hx
      · rcases List.mem_cons.mp q with q | q
        · rw [q]; exact hy
        · exact (b2 b q).1)
    rw [List.map_cons, List.sum_cons, List.map_cons, List.sum_cons, List.length_cons, List.length_cons, e1, e2] at this
    omega
  have LEFT : ∀ U : tY, yG U → ∀ j, j < ySp U → j + 1 + yLa U j ≤ yAr U := fun U g j hj => by
    have e := yAr_e U (Or.inl g) (ySp U) (Nat.le_refl _)
    have := sNx_1 (h := yLa U) hj
    omega
  have LEFT2 : ∀ U : tY, yG U → ∀ j k, j < ySp U → k < ySp U → j ≠ k → j + 1 + yLa U j + yLa U k ≤ yAr U := fun U g j k hj hk' hn => by
    have e := yAr_e U (Or.inl g) (ySp U) (Nat.le_refl _)
    have := sNx_2 (h := yLa U) hj hk' hn
    omega
  have TAIL : ∀ U : tY, yG U → yK (yRs b U) = 1 → b + sNx (yLa U) b + yAr (yRs b U) = yAr U := fun U g k => (yAr_b b U (Or.inl g) (Nat.le_of_lt (ySp_k g k))).symm
  have BOTH : ∀ U : tY, yG U → yK (yRs b U) = 1 → ∀ j, j < ySp U → (j < b ∧ b + yLa U j + yAr (yRs b U) ≤ yAr U) ∨ yLa U j < yAr (yRs b U) := fun U g k j hj => by
    rcases Nat.lt_or_ge j b with c | c
    · have e := yAr_b b U (Or.inl g) (Nat.le_of_lt (ySp_k g k))
      have := sNx_1 (h := yLa U) c
      exact Or.inl ⟨c, by omega⟩
    · refine Or.inr ?_
      have gb : yG (yRs b U) := by
        rcases yG_rs b U (Or.inl g) with z | z
        · exact z
        · rw [z] at k; exact absurd k (by decide)
      have s1 := ySp_rs b U g k
      have e := LEFT (yRs b U) gb (j - b) (by omega)
      rw [← yLa_b, show b + (j - b) = j by omega] at e
      omega
  have G : ∀ x, x ∈ l → yG x.2.1 := h.2.2.2.2.1
  rcases hid with ⟨i1, i2⟩ | ⟨j0, u0, i1, i2⟩
  · rw [i2] at hi hA ⊢
    have L0 := LEFT _ (G x0 hx0) i hi
    rcases hid' with ⟨k1, k2⟩ | ⟨j', u', k1, k2⟩
    · rw [k2] at hk hA hw ⊢
      by_cases e : x0.1 = x'.1
      · have := tl_key h.2.1 hx0 hx' e
        subst this
        rcases BOTH _ (G x0 hx0) hk i hi with ⟨c1, c2⟩ | c
        · exact Or.inr (Or.inl ⟨by rw [i1, k1], c1, TAIL _ (G x0 hx0) hk⟩)
        · omega
      · have al := AL2 x0 x' hx0 hx' e
        have t := TAIL _ (G x' hx') hk
        exact Or.inr (Or.inr (by omega))
    · obtain ⟨n1, n2, n3, -⟩ := h.nm (k := x'.1) (Y := x'.2.1) hx' k1
      rw [k2, uY_p] at hk hA hw ⊢
      have t := TAIL _ n3 hk
      have is := h.is (k := x'.1) (Y := x'.2.1) hx' n1
      have sp : j' < ySp x'.2.1 := ySp_k (G x' hx') (yIs_1 is)
      have e2 : yLa x'.2.1 j' = yAr (tN u') := by unfold yLa; rw [n2]
      by_cases e : x0.1 = x'.1
      · have := tl_key h.2.1 hx0 hx' e
        subst this
        have q4 := (h.1.1 x0 hx0).1
        exact Or.inl ⟨x0, u', j', hx0, i1, Nat.lt_of_lt_of_le n1 q4, k1, rfl, n2.symm⟩
      · have al := AL2 x0 x' hx0 hx' e
        have L2 := LEFT _ (G x' hx') j' sp
        exact Or.inr (Or.inr (by omega))
  · obtain ⟨n1, n2, n3, -⟩ := h.nm (k := x0.1) (Y := x0.2.1) hx0 i1
    rw [i2, uY_p] at hi hA ⊢
    have L0 := LEFT _ n3 i hi
    have is := h.is (k := x0.1) (Y := x0.2.1) hx0 n1
    have sp0 : j0 < ySp x0.2.1 := ySp_k (G x0 hx0) (yIs_1 is)
    have e0 : yLa x0.2.1 j0 = yAr (tN u0) := by unfold yLa; rw [n2]
    rcases hid' with ⟨k1, k2⟩ | ⟨j', u', k1, k2⟩
    · rw [k2] at hk hA hw ⊢
      by_cases e : x0.1 = x'.1
      · have := tl_key h.2.1 hx0 hx' e
        subst this
        have al := AL x0 hx0
        rcases BOTH _ (G x0 hx0) hk j0 sp0 with ⟨c1, c2⟩ | c
        · exact Or.inr (Or.inr (by omega))
        · omega
      · have al := AL2 x0 x' hx0 hx' e
        have t := TAIL _ (G x' hx') hk
        have L2 := LEFT _ (G x0 hx0) j0 sp0
        exact Or.inr (Or.inr (by omega))
    · obtain ⟨m1, m2, m3, -⟩ := h.nm (k := x'.1) (Y := x'.2.1) hx' k1
      rw [k2, uY_p] at hk hA hw ⊢
      have t := TAIL _ m3 hk
      have is' := h.is (k := x'.1) (Y := x'.2.1) hx' m1
      have sp' : j' < ySp x'.2.1 := ySp_k (G x' hx') (yIs_1 is')
      have e2 : yLa x'.2.1 j' = yAr (tN u') := by unfold yLa; rw [m2]
      by_cases e : x0.1 = x'.1
      · have := tl_key h.2.1 hx0 hx' e
        subst this
        have al := AL x0 hx0
        by_cases ne : j0 = j'
        · subst ne
          rw [i1] at k1
          injection k1 with k1
          subst k1
          rcases BOTH _ n3 hk i hi with ⟨c1, c2⟩ | c
          · exact Or.inr (Or.inl ⟨rfl, c1, t⟩)
          · omega
        · have L2 := LEFT2 _ (G x0 hx0) j0 j' sp0 sp' ne
          exact Or.inr (Or.inr (by omega))
      · have al := AL2 x0 x' hx0 hx' e
        have L2 := LEFT _ (G x' hx') j' sp'
        have L3 := LEFT _ (G x0 hx0) j0 sp0
        exact Or.inr (Or.inr (by omega))
/-- tl_cy, with funs whose heads are smaller than what is taken -/
theorem tl_cyZ (h : tlH ρ tE tN Un Ls W l) {Zf : List tY} {w : Nat} (hn : Zf.Nodup) (hz : ∀ z, z ∈ Zf → (∃ x, x ∈ l ∧ fuP x = true ∧ z = x.2.1) ∧ yAr z < w) {id0 id' : Nat × Nat} {m0 m' : Nat} (hu : (id0, m0) ∈ Un) (hu' : (id', m') ∈ Un) {i b s : Nat} (hi : i < ySp (uY tE tN id0)) (hs : s < ySp (yL (yRs i (uY tE tN id0)))) (hk : yK (yL (yRs s (yL (yRs i (uY tE tN id0))))) = 1) (hw : w ≤ yAr (yL (yRs s (yL (yRs i (uY tE tN id0)))))) (eX : yL (yRs s (yL (yRs i (uY tE tN id0)))) = yRs b (uY tE tN id')) (no : ∀ s', s' < b → yRs s' (uY tE tN id') ≠ yRs s (yL (yRs i (uY tE tN id0)))) : yLa (uY tE tN id0) i + (i + 1) + yAr (yL (yRs s (yL (yRs i (uY tE tN id0))))) + ((Zf.map yAr).sum + (l.filter fuP).length) ≤ tlN l + 2 + Zf.length := by
  have g0 := (sx_u h hu).1
  have g' := (sx_u h hu').1
  have gy : yG (yL (yRs i (uY tE tN id0))) := yG_lf g0 (ySp_i _ _ hi)
  have l1 := yLa_le g0 hi
  have l2 := yLa_le gy hs
  have e3 : yLa (yL (yRs i (uY tE tN id0))) s = yAr (yL (yRs s (yL (yRs i (uY tE tN id0))))) := rfl
  have e4 : yLa (uY tE tN id0) i = yAr (yL (yRs i (uY tE tN id0))) := rfl
  have t0 := tl_zf h hu hn (fun z hz' => ⟨(hz z hz').1, by have := (hz z hz').2; omega⟩)
  rcases tl_twZ h hn hz hu hu' hi (by rw [← eX]; exact hk) (by rw [← eX]; omega) (by rw [← eX]; exact hw) with ⟨x, u, p, hx, -, -, -, e5, e6⟩ | ⟨-, c1, c2⟩ | c
  · rw [e5, uY_p] at eX no g'
    have ne : p ≠ i := fun z => by
      rw [z] at e6
      rw [e6] at eX no
      rcases Nat.lt_or_ge s b with q | q
      · exact no s q rfl
      · have z1 := yZ_rm (yL (yRs i (uY tE tN id0))) b s q
        rw [← eX] at z1
        have k1 := ySp_i _ _ hs
        revert z1 k1
        generalize yRs s (yL (yRs i (uY tE tN id0))) = w
        intro z1 k1
        cases w with
        | leaf => exact absurd k1 (by decide)
        | inner k u v a b =>
          have : yZ (.inner k u v a b : tY) = yZ a + yZ b + 1 := rfl
          have : yL (.inner k u v a b : tY) = a := rfl
          rw [this] at z1
          omega
    have kX : yK (yRs b (tN u)) = 1 := by rw [← eX]; exact hk
    have kp : yK (yRs p (uY tE tN id0)) = 1 := by
      refine Classical.byContradiction fun q => ?_
      have := yL_nf (yG_rs p _ (Or.inl g0)) q
      rw [e6, this, yRs_lf] at kX
      exact absurd kX (by decide)
    have sp := ySp_k g0 kp
    have m := yAr_tl g' kX
    rw [← eX] at m
    have e7 : yLa (uY tE tN id0) p = yAr (tN u) := by rw [e6]; rfl
    have e := yAr_e (uY tE tN id0) (Or.inl g0) (ySp (uY tE tN id0)) (Nat.le_refl _)
    have n2 := sNx_2 (h := yLa (uY tE tN id0)) hi sp (fun z => ne z.symm)
    omega
  · have := sNx_1 (h := yLa (uY tE tN id0)) c1
    rw [← eX] at c2
    omega
  · rw [← eX] at c
    omega
end TTZ
