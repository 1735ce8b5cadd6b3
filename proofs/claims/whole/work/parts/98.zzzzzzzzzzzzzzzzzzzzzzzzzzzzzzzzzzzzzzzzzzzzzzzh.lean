/-! ROOM: two places of the same type do not lie one in another -/
theorem sNx_1 {h : Nat → Nat} {i n : Nat} (hi : i < n) : h i ≤ sNx h n := by
  have := sNx_mo (h := h) (show i + 1 ≤ n by omega)
  have e : sNx h (i + 1) = sNx h i + h i := rfl
  omega
theorem sNx_2 {h : Nat → Nat} {i j n : Nat} (hi : i < n) (hj : j < n) (hn : i ≠ j) : h i + h j ≤ sNx h n := by
  rcases Nat.lt_or_ge i j with c | c
  · have h1 := sNx_1 (h := h) c
    have h2 := sNx_mo (h := h) (show j + 1 ≤ n by omega)
    have e : sNx h (j + 1) = sNx h j + h j := rfl
    omega
  · have h1 := sNx_1 (h := h) (show j < i by omega)
    have h2 := sNx_mo (h := h) (show i + 1 ≤ n by omega)
    have e : sNx h (i + 1) = sNx h i + h i := rfl
    omega
/-- a type's arrows: b places of its row, what they take, and what comes behind -/
theorem yAr_b : ∀ (b : Nat) (y : tY), (yG y ∨ y = .leaf) → b ≤ ySp y → yAr y = b + sNx (yLa y) b + yAr (yRs b y)
  | 0, y, _, _ => by
    show yAr y = 0 + 0 + yAr y
    omega
  | b + 1, .leaf, _, h => by
    have : ySp .leaf = 0 := rfl
    omega
  | b + 1, .inner k u v l r, hg, h => by
    rcases hg with hg | hg
    · unfold yG at hg
      by_cases c : k = 0
      · subst c
        rw [if_pos rfl] at hg
        have e1 : ySp (.inner 0 u v l r) = ySp r + 1 := rfl
        have I := yAr_b b r (Or.inl hg.2) (by omega)
        rw [yAr_0, sNx_sh]
        have e2 : yLa (.inner 0 u v l r) 0 = yAr l := rfl
        have e3 : (fun i => yLa (.inner 0 u v l r) (i + 1)) = yLa r := rfl
        have e4 : yRs (b + 1) (.inner 0 u v l r) = yRs b r := rfl
        rw [e2, e3, e4]
        omega
      · have e1 : ySp (.inner k u v l r) = 0 := if_neg c
        omega
    · cases hg
theorem yLa_b (y : tY) (b i : Nat) : yLa y (b + i) = yLa (yRs b y) i := by
  unfold yLa
  rw [yRs_ad]
theorem su_2 {α : Type} (f : α → Nat) : ∀ (l : List α) (x y : α), x ∈ l → y ∈ l → x ≠ y → f x + f y ≤ (l.map f).sum
  | [], _, _, h, _, _ => by cases h
  | z :: l, x, y, hx, hy, hn => by
    rw [List.map_cons, List.sum_cons]
    rcases List.mem_cons.mp hx with e | e
    · rcases List.mem_cons.mp hy with e' | e'
      · rw [e, e'] at hn; exact absurd rfl hn
      · have := su_me f l y e'
        rw [e]; omega
    · rcases List.mem_cons.mp hy with e' | e'
      · have := su_me f l x e
        rw [e']; omega
      · have := su_2 f l x y e e' hn
        omega
section TCP
variable {ρ : Nat → Nat × Nat} {tE tN : Nat → tY} {Un : List ((Nat × Nat) × Nat)} {Ls W : List Nat} {l : List (Nat × tY × List Nat)}
/-- a row that goes on -/
theorem ySp_k {U : tY} {b : Nat} (g : yG U) (hk : yK (yRs b U) = 1) : b < ySp U := by
  have h1 := ySp_rs b U g hk
  have h2 := ySp_n hk
  omega
set_option maxHeartbeats 1000000 in
/-- **what a call takes at a place, and a unit's tail that is no larger, elsewhere** -/
theorem tl_cp (h : tlH ρ tE tN Un Ls W l) {id0 id' : Nat × Nat} {m0 m' : Nat} (hu : (id0, m0) ∈ Un) (hu' : (id', m') ∈ Un) {i b : Nat} (hi : i < ySp (uY tE tN id0)) (hk : yK (yRs b (uY tE tN id')) = 1) (hA : yAr (yRs b (uY tE tN id')) ≤ yLa (uY tE tN id0) i) (hx : ∀ x u, x ∈ l → id0 = (0, x.1) → x.2.2[i]? = some u → id' ≠ (1, u)) : yLa (uY tE tN id0) i + yAr (yRs b (uY tE tN id')) + b ≤ tlN l ∧ yLa (uY tE tN id0) i + yAr (yRs b (uY tE tN id')) + (i + 1) ≤ tlN l := by
  obtain ⟨x0, hx0, hid⟩ := h.wh hu
  obtain ⟨x', hx', hid'⟩ := h.wh hu'
  have AL : ∀ x, x ∈ l → yAr x.2.1 ≤ tlN l := fun x hx => su_me (fun x : Nat × tY × List Nat => yAr x.2.1) l x hx
  have AL2 : ∀ x y, x ∈ l → y ∈ l → x.1 ≠ y.1 → yAr x.2.1 + yAr y.2.1 ≤ tlN l := fun x y hx hy hn => su_2 (fun x : Nat × tY × List Nat => yAr x.2.1) l x y hx hy (fun e => hn (by rw [e]))
  -- one unit: its row, a left, its tail
  have LEFT : ∀ U : tY, yG U → ∀ j, j < ySp U → j + 1 + yLa U j ≤ yAr U := fun U g j hj => by
    have e := yAr_e U (Or.inl g) (ySp U) (Nat.le_refl _)
    have := sNx_1 (h := yLa U) hj
    omega
  have LEFT2 : ∀ U : tY, yG U → ∀ j k, j < ySp U → k < ySp U → j ≠ k → j + 1 + yLa U j + yLa U k ≤ yAr U := fun U g j k hj hk' hn => by
    have e := yAr_e U (Or.inl g) (ySp U) (Nat.le_refl _)
    have := sNx_2 (h := yLa U) hj hk' hn
    omega
  have TAIL : ∀ U : tY, yG U → yK (yRs b U) = 1 → b + yAr (yRs b U) ≤ yAr U := fun U g k => by
    have := yAr_b b U (Or.inl g) (Nat.le_of_lt (ySp_k g k))
    omega
  -- a left before a tail, or within it
  have BOTH : ∀ U : tY, yG U → yK (yRs b U) = 1 → ∀ j, j < ySp U → (j < b ∧ b + yLa U j + yAr (yRs b U) ≤ yAr U) ∨ yLa U j < yAr (yRs b U) := fun U g k j hj => by
    rcases Nat.lt_or_ge j b with c | c
    · have e := yAr_b b U (Or.inl g) (Nat.le_of_lt (ySp_k g k))
      have := sNx_1 (h := yLa U) c
      exact Or.inl ⟨c, by omega⟩
    · refine Or.inr ?_
      have gb : yG (yRs b U) := by
        rcases yG_rs b U (Or.inl g) with z | z
        · exact z
        · rw [z] at k; exact absurd k (by decide)
      have s1 := ySp_rs b U g k
      have e := LEFT (yRs b U) gb (j - b) (by omega)
      rw [← yLa_b, show b + (j - b) = j by omega] at e
      omega
  have G : ∀ x, x ∈ l → yG x.2.1 := h.2.2.2.2.1
  rcases hid with ⟨i1, i2⟩ | ⟨j0, u0, i1, i2⟩
  · rw [i2] at hi hA ⊢
    have L0 := LEFT _ (G x0 hx0) i hi
    rcases hid' with ⟨k1, k2⟩ | ⟨j', u', k1, k2⟩
    · rw [k2] at hk hA ⊢
      by_cases e : x0.1 = x'.1
      · have := tl_key h.2.1 hx0 hx' e
        subst this
        have al := AL x0 hx0
        rcases BOTH _ (G x0 hx0) hk i hi with ⟨c1, c2⟩ | c
        · exact ⟨by omega, by omega⟩
        · omega
      · have al := AL2 x0 x' hx0 hx' e
        have t := TAIL _ (G x' hx') hk
        exact ⟨by omega, by omega⟩
    · obtain ⟨n1, n2, n3, -⟩ := h.nm (k := x'.1) (Y := x'.2.1) hx' k1
      rw [k2, uY_p] at hk hA ⊢
      have t := TAIL _ n3 hk
      have is := h.is (k := x'.1) (Y := x'.2.1) hx' n1
      have sp : j' < ySp x'.2.1 := ySp_k (G x' hx') (yIs_1 is)
      have e2 : yLa x'.2.1 j' = yAr (tN u') := by unfold yLa; rw [n2]
      by_cases e : x0.1 = x'.1
      · have := tl_key h.2.1 hx0 hx' e
        subst this
        have ne : i ≠ j' := fun z => by
          subst z
          exact hx x0 u' hx0 i1 k1 k2
        have al := AL x0 hx0
        have L2 := LEFT2 _ (G x0 hx0) i j' hi sp ne
        have L3 := LEFT2 _ (G x0 hx0) j' i sp hi (fun z => ne z.symm)
        exact ⟨by omega, by omega⟩
      · have al := AL2 x0 x' hx0 hx' e
        have L2 := LEFT _ (G x' hx') j' sp
        exact ⟨by omega, by omega⟩
  · obtain ⟨n1, n2, n3, -⟩ := h.nm (k := x0.1) (Y := x0.2.1) hx0 i1
    rw [i2, uY_p] at hi hA ⊢
    have L0 := LEFT _ n3 i hi
    have is := h.is (k := x0.1) (Y := x0.2.1) hx0 n1
    have sp0 : j0 < ySp x0.2.1 := ySp_k (G x0 hx0) (yIs_1 is)
    have e0 : yLa x0.2.1 j0 = yAr (tN u0) := by unfold yLa; rw [n2]
    rcases hid' with ⟨k1, k2⟩ | ⟨j', u', k1, k2⟩
    · rw [k2] at hk hA ⊢
      by_cases e : x0.1 = x'.1
      · have := tl_key h.2.1 hx0 hx' e
        subst this
        have al := AL x0 hx0
        rcases BOTH _ (G x0 hx0) hk j0 sp0 with ⟨c1, c2⟩ | c
        · exact ⟨by omega, by omega⟩
        · omega
      · have al := AL2 x0 x' hx0 hx' e
        have t := TAIL _ (G x' hx') hk
        have L2 := LEFT _ (G x0 hx0) j0 sp0
        exact ⟨by omega, by omega⟩
    · obtain ⟨m1, m2, m3, -⟩ := h.nm (k := x'.1) (Y := x'.2.1) hx' k1
      rw [k2, uY_p] at hk hA ⊢
      have t := TAIL _ m3 hk
      have is' := h.is (k := x'.1) (Y := x'.2.1) hx' m1
      have sp' : j' < ySp x'.2.1 := ySp_k (G x' hx') (yIs_1 is')
      have e2 : yLa x'.2.1 j' = yAr (tN u') := by unfold yLa; rw [m2]
      by_cases e : x0.1 = x'.1
      · have := tl_key h.2.1 hx0 hx' e
        subst this
        have al := AL x0 hx0
        by_cases ne : j0 = j'
        · subst ne
          rw [i1] at k1
          injection k1 with k1
          subst k1
          have L2 := LEFT _ (G x0 hx0) j0 sp0
          rcases BOTH _ n3 hk i hi with ⟨c1, c2⟩ | c
          · exact ⟨by omega, by omega⟩
          · omega
        · have L2 := LEFT2 _ (G x0 hx0) j0 j' sp0 sp' ne
          exact ⟨by omega, by omega⟩
      · have al := AL2 x0 x' hx0 hx' e
        have L2 := LEFT _ (G x' hx') j' sp'
        have L3 := LEFT _ (G x0 hx0) j0 sp0
        exact ⟨by omega, by omega⟩
end TCP
