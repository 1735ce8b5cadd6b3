/-! CAPACITIES: what is known of a piece -/
theorem yK_2 {y : tY} (h : 2 ≤ yLv y) : yK y = 1 := by
  cases y with
  | leaf =>
    have h : 2 ≤ 1 := h
    omega
  | inner k u v a b =>
    by_cases c : k = 0
    · rw [c]; rfl
    · have : yLv (.inner k u v a b : tY) = 1 := if_neg c
      omega
theorem lc_key : ∀ {lc : List ((Nat × tY × List Nat) × Nat)} {x y : (Nat × tY × List Nat) × Nat}, ((lc.map Prod.fst).map Prod.fst).Nodup → x ∈ lc → y ∈ lc → x.1.1 = y.1.1 → x = y
  | [], _, _, _, h, _, _ => by cases h
  | z :: lc, x, y, nd, hx, hy, e => by
    have nd : (z.1.1 :: (lc.map Prod.fst).map Prod.fst).Nodup := nd
    obtain ⟨n1, n2⟩ := List.nodup_cons.mp nd
    rcases List.mem_cons.mp hx with hx | hx
    · rcases List.mem_cons.mp hy with hy | hy
      · rw [hx, hy]
      · exact absurd (List.mem_map.mpr ⟨y.1, List.mem_map.mpr ⟨y, hy, rfl⟩, by rw [← e, hx]⟩) n1
    · rcases List.mem_cons.mp hy with hy | hy
      · exact absurd (List.mem_map.mpr ⟨x.1, List.mem_map.mpr ⟨x, hx, rfl⟩, by rw [e, hy]⟩) n1
      · exact lc_key n2 hx hy e
/-- a text's TEMPLATES, units and counts -/
def tlQ (ρ : Nat → Nat × Nat) (tE tN : Nat → tY) (Un : List ((Nat × Nat) × Nat)) (Ls W : List Nat) (lc : List ((Nat × tY × List Nat) × Nat)) : Prop := tlH ρ tE tN Un Ls W (lc.map Prod.fst) ∧ (∀ x, x ∈ lc → ((0, x.1.1), x.2) ∈ Un ∧ x.2 ≤ 12 ∧ (yK x.1.2.1 = 1 → x.2 ≤ 11)) ∧ (∀ x, x ∈ lc → x.2 + x.1.2.2.length ≤ 12) ∧ ∀ x, x ∈ Un → tlV lc x
section PCC
variable {ρ : Nat → Nat × Nat} {tE tN : Nat → tY} {Un : List ((Nat × Nat) × Nat)} {Ls W : List Nat} {lc : List ((Nat × tY × List Nat) × Nat)} {p : (Nat × Nat) × tY × Nat} {k m : Nat} {C : List Nat}
theorem pc_c (H : tlQ ρ tE tN Un Ls W lc) (hp : p ∈ pcs lc) : p.2.2 ≤ 12 ∧ (2 ≤ yLv p.2.1 → p.2.2 ≤ 11) := by
  obtain ⟨x, x1, x2⟩ := pcs_of hp
  have xl : x.1 ∈ lc.map Prod.fst := List.mem_map.mpr ⟨x, x1, rfl⟩
  obtain ⟨-, c1, c2⟩ := H.2.1 x x1
  have c3 := H.2.2.1 x x1
  rcases x2 with x2 | ⟨i, u, y1, y2, y3⟩
  · rw [x2]
    refine ⟨c1, fun h => c2 (yK_2 ?_)⟩
    have := yTp_le x.1.2.2.length x.1.2.1 (fun i hi => H.1.is (k := x.1.1) (Y := x.1.2.1) (ns := x.1.2.2) xl hi)
    have h : 2 ≤ yLv (yTp x.1.2.2.length x.1.2.1) := h
    omega
  · rw [y2]
    have n1 := (H.1.nm (k := x.1.1) (Y := x.1.2.1) (ns := x.1.2.2) xl y1).1
    have := yAm_le i x.1.2.1
    exact ⟨by show x.2 + yAm i x.1.2.1 ≤ 12; omega, fun _ => by show x.2 + yAm i x.1.2.1 ≤ 11; omega⟩
theorem pc_m (H : tlQ ρ tE tN Un Ls W lc) (hp : p ∈ pcs lc) (hm : (p.1, m) ∈ Un) : m = p.2.2 := by
  obtain ⟨x, x1, x2⟩ := pcs_of hp
  have xl : x.1 ∈ lc.map Prod.fst := List.mem_map.mpr ⟨x, x1, rfl⟩
  have fnd : ((lc.map Prod.fst).flatMap (fun x => x.2.2)).Nodup := H.1.1.2.2.2.nodup H.1.2.2.1
  rcases H.2.2.2 _ hm with ⟨h1, Y, ns, h2⟩ | ⟨h1, k, Y, ns, i, c, h2, h3, h4⟩
  · have h1 : p.1.1 = 0 := h1
    have h2 : ((p.1.2, Y, ns), m) ∈ lc := h2
    rcases x2 with x2 | ⟨i, u, y1, y2, y3⟩
    · have e := lc_key H.1.2.1 h2 x1 (by rw [x2])
      rw [x2, ← e]
    · rw [y2] at h1
      cases h1
  · have h1 : p.1.1 = 1 := h1
    have h3 : ns[i]? = some p.1.2 := h3
    have h4 : m = c + yAm i Y := h4
    rcases x2 with x2 | ⟨i', u, y1, y2, y3⟩
    · rw [x2] at h1
      cases h1
    · rw [y2] at h3
      have h3 : ns[i]? = some u := h3
      have hl : (k, Y, ns) ∈ lc.map Prod.fst := List.mem_map.mpr ⟨_, h2, rfl⟩
      obtain ⟨e, nn⟩ := fm_key fnd hl xl (List.mem_of_getElem? h3) (List.mem_of_getElem? y1)
      have e' := lc_key H.1.2.1 h2 x1 (by show k = x.1.1; rw [← e])
      have nn : ns.Nodup := nn
      have hn : ns = x.1.2.2 := by rw [← e]
      have hY : Y = x.1.2.1 := by rw [← e]
      have hc : c = x.2 := by rw [← e']
      rw [← hn] at y1
      have hi := nd_gt nn h3 y1
      rw [y2, h4, hc, hY, hi]
theorem pc_sx (H : tlQ ρ tE tN Un Ls W lc) (hp : p ∈ pcs lc) {B : Nat} (hB : ∀ y, (∀ z, yIn z y → uRp ρ tE tN Un Ls z) → ySx y ≤ B) : ySx p.2.1 ≤ B := by
  obtain ⟨x, x1, x2⟩ := pcs_of hp
  have xl : x.1 ∈ lc.map Prod.fst := List.mem_map.mpr ⟨x, x1, rfl⟩
  have hR := H.1.2.2.2.2.2 x.1 xl
  have his : ∀ i, i < x.1.2.2.length → yIs (yRs i x.1.2.1) := fun i hi => H.1.is (k := x.1.1) (Y := x.1.2.1) (ns := x.1.2.2) xl hi
  rcases x2 with x2 | ⟨i, u, y1, y2, y3⟩
  · rw [x2]
    exact Nat.le_trans (ySx_tp _ _ his) (hB _ hR)
  · rw [y2]
    have n1 := (H.1.nm (k := x.1.1) (Y := x.1.2.1) (ns := x.1.2.2) xl y1).1
    exact hB _ (fun z hz => hR z (yIn_rs i x.1.2.1 (fun j hj => his j (by omega)) (yIn_l (his i n1) hz)))
theorem pc_j (H : tlQ ρ tE tN Un Ls W lc) (hp : p ∈ pcs lc) (K : uKc ρ tE tN Un Ls p.1 k C) : 0 < C.length → p.2.2 + C.length ≤ 11 := fun h => by
  obtain ⟨-, -, -, K4, K5, -⟩ := K
  have := K5 h
  obtain ⟨m, m1, m2⟩ := K4 (by omega)
  have := pc_m H hp m1
  omega
theorem pc_bk (H : tlQ ρ tE tN Un Ls W lc) (hp : p ∈ pcs lc) (K : uKc ρ tE tN Un Ls p.1 k C) : yLv p.2.1 + C.length ≤ 60 ∧ ∀ c', 1 ≤ c' → ∃ u, u + 1 ≤ yLv p.2.1 ∧ u ≤ 4 * C.length + 4 ∧ 2 * yS p.2.1 c' ≤ 2 * (c' * yLv p.2.1) + iNb (yLv p.2.1) C.length u := by
  have B : yLv p.2.1 + C.length ≤ 60 ∧ ∃ s, s ≤ k ∧ (∀ j, j < s → yIs (yRs j p.2.1) ∧ (yK (yL (yRs j p.2.1)) = 1 → yLv (yL (yRs j p.2.1)) + yLv p.2.1 + C.length ≤ 60)) ∧ yLv (yRs s p.2.1) + yLv p.2.1 + C.length ≤ 61 := by
    obtain ⟨x, x1, x2⟩ := pcs_of hp
    have xl : x.1 ∈ lc.map Prod.fst := List.mem_map.mpr ⟨x, x1, rfl⟩
    rcases x2 with x2 | ⟨i, u, y1, y2, y3⟩
    · rw [x2] at K ⊢
      exact bl_r (k := x.1.1) (Y := x.1.2.1) (ns := x.1.2.2) H.1 xl (H.2.1 x x1).1 K
    · rw [y2] at K ⊢
      have e := (H.1.nm (k := x.1.1) (Y := x.1.2.1) (ns := x.1.2.2) xl y1).2.1
      have := bl_p (k := x.1.1) (Y := x.1.2.1) (ns := x.1.2.2) H.1 xl y1 K
      rw [← e] at this
      exact this
  obtain ⟨b1, s, b2, b3, b4⟩ := B
  have k4 := K.2.1
  refine ⟨b1, fun c' hc => ?_⟩
  obtain ⟨u, v, X, b, q1, q2, q3, q4, q5, q7, q6⟩ := bk_y s p.2.1 c' (60 - yLv p.2.1 - C.length) hc (fun j hj => ⟨(b3 j hj).1, fun hk => by have := (b3 j hj).2 hk; omega⟩) (by omega)
  refine ⟨u, by omega, by omega, ?_⟩
  have eX : yLv p.2.1 - u = X := by omega
  unfold iNb
  rw [eX]
  have h1 : v * (60 - yLv p.2.1 - C.length) ≤ (4 * C.length + 4 - u) * (60 - yLv p.2.1 - C.length) := Nat.mul_le_mul_right _ (by omega)
  rw [if_neg (by omega)]
  have h2 : b ≤ min X (60 - yLv p.2.1 - C.length + 1) := Nat.le_min.mpr ⟨q5, q4⟩
  omega
theorem pc_wB {y : tY} {c' M : Nat} (hc : 1 ≤ c') (hM : ySx y ≤ M) : 2 * yS y c' ≤ 2 * (c' * yLv y) + iNm (yLv y) M := by
  have h1 := yS_1 y c' M hc hM
  have h2 := wB_iN M (yLv y)
  omega
theorem o_20 : ∀ N, N < 23 → 1 ≤ N → 21 * N + N * N + 20 + (N - 1) * (22 - N) ≤ 44 * N := by decide
theorem o_24 : ∀ N, N < 23 → 1 ≤ N → 19 * N + N * N + 24 + (N - 1) * (24 - N) ≤ 44 * N := by decide
theorem pc_o (H : tlQ ρ tE tN Un Ls W lc) (hp : p ∈ pcs lc) (hN : yLv p.2.1 ≤ 22) : 2 * yS p.2.1 p.2.2 + 20 + (yLv p.2.1 - 1) * (22 - yLv p.2.1) ≤ 44 * yLv p.2.1 ∧ (p.2.2 ≤ 10 → 2 * yS p.2.1 p.2.2 + 24 + (yLv p.2.1 - 1) * (24 - yLv p.2.1) ≤ 44 * yLv p.2.1) := by
  have pos := yLv_pos p.2.1
  obtain ⟨c1, c2⟩ := pc_c H hp
  have up : ∀ c', 1 ≤ c' → p.2.2 ≤ c' → 2 * yS p.2.1 p.2.2 + yLv p.2.1 ≤ 2 * (c' * yLv p.2.1) + yLv p.2.1 * yLv p.2.1 := fun c' h1 h2 => by
    have h3 := yS_mo p.2.1 h2
    have h4 := yS_r (y := p.2.1) h1
    omega
  refine ⟨?_, fun h10 => ?_⟩
  · by_cases h2 : 2 ≤ yLv p.2.1
    · have h3 := up 11 (by omega) (c2 h2)
      have h4 := o_20 (yLv p.2.1) (by omega) pos
      omega
    · have e : yLv p.2.1 = 1 := by omega
      have h3 := up 12 (by omega) c1
      rw [e] at h3 ⊢
      omega
  · have h3 := up 10 (by omega) h10
    have h4 := o_24 (yLv p.2.1) (by omega) pos
    omega
end PCC
