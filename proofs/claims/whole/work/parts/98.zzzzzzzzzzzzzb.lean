/-! namesAt(), INSTANCES of a CASE: the reference -/
/-- the row of what * may be -/
def uSr (Γ : uGm) (τ : zSt) (S : List gN) : Prop := τ.1 126 = nI S.length ∧ S.length ≤ 60 ∧ ∀ i x, S[i]? = some x → τ.2.2.1 85 i = nI (Γ.1 x)
theorem gSs_eq : ∀ sc : List gEn, gSs sc = ((scN sc).map Prod.fst).reverse := fun sc => by
  unfold gSs scN
  congr 1
  induction sc with
  | nil => rfl
  | cons x sc ih =>
    cases x with
    | inl y => simp only [List.filterMap_cons, List.map_cons]; rw [ih]
    | inr y => simp only [List.filterMap_cons]; exact ih
section RNA
variable {ks : Nat → Nat} {qs : List Nat} {T h0 : Nat} {Γ : uGm} {CD : tT → Nat → Prop}
theorem r_nat55 {n : Nat} {call : zCl} {m : Nat} : ∀ (d i t : Nat) (τ : zSt), i + d = m → d < t → m ≤ 60 → ∃ τ', l_namesAt_55 T call h0 qs ks t (nI m) (nI i) τ = some (none, τ') ∧ (∀ k, k ≠ 126 → τ'.1 k = τ.1 k) ∧ τ'.1 126 = nI m ∧ τ'.2.1 = τ.2.1 ∧ (∀ k, k ≠ 85 → τ'.2.2.1 k = τ.2.2.1 k) ∧ τ'.2.2.2 = τ.2.2.2 ∧ (∀ j, j < i → τ'.2.2.1 85 j = τ.2.2.1 85 j) ∧ ∀ j, i ≤ j → j < m → τ'.2.2.1 85 j = τ.2.2.1 86 (m - 1 - j)
  | 0, i, t, τ, hi, ht, hm => by
    obtain ⟨t, rfl⟩ : ∃ t', t = t' + 1 := ⟨t - 1, by omega⟩
    refine ⟨zI τ 126 (nI m), ?_, fun k hk => if_neg hk, rfl, rfl, fun _ _ => rfl, rfl, fun _ _ => rfl, fun j h1 h2 => by omega⟩
    rw [l_namesAt_55, if_pos (nI_le (by omega) (by omega))]
    rfl
  | d + 1, i, t, τ, hi, ht, hm => by
    obtain ⟨t, rfl⟩ : ∃ t', t = t' + 1 := ⟨t - 1, by omega⟩
    have e1 : nI m - 1 - nI i = nI (m - 1 - i) := by
      rw [show m = 1 + (i + d) by omega, show (1 : Int32) = nI 1 from rfl, nI_sub, nI_sub, show 1 + (i + d) - 1 - i = d by omega]
    have z1 : zin (nI (m - 1 - i)) 60 = true := zin_n (by omega) (by decide)
    have z2 : zin (nI i) 60 = true := zin_n (by omega) (by decide)
    have c1 : (nI (m - 1 - i)).toNatClampNeg = m - 1 - i := nI_clamp (by omega)
    have c2 : (nI i).toNatClampNeg = i := nI_clamp (by omega)
    obtain ⟨τ', a1, a2, a3, a4, a5, a6, a7, a8⟩ := r_nat55 (n := n) (call := call) d (i + 1) t (zA τ 85 (upd (τ.2.2.1 85) i (τ.2.2.1 86 (m - 1 - i)))) (by omega) (by omega) hm
    refine ⟨τ', ?_, a2, a3, a4, fun k hk => (a5 k hk).trans (if_neg hk), a6, fun j hj => ?_, fun j h1 h2 => ?_⟩
    · rw [l_namesAt_55, if_neg (nI_ge (by omega) (by omega)), e1, zgd_at z1, zgd_at z2, c1, c2, zlet_at, nI_p1]
      exact a1
    · rw [a7 j (by omega)]
      show upd (τ.2.2.1 85) i (τ.2.2.1 86 (m - 1 - i)) j = _
      exact if_neg (by omega)
    · by_cases z : j = i
      · subst z
        rw [a7 j (by omega)]
        show upd (τ.2.2.1 85) j (τ.2.2.1 86 (m - 1 - j)) j = _
        exact if_pos rfl
      · rw [a8 j (by omega) h2]
        rfl
theorem r_nat4 {n : Nat} {v : Nat → Nat} : ∀ (ch : List (Option (gN × gTy))) (e : Int32) (k t : Nat) (τ : zSt), uVn τ v → uEv Γ v τ ch e → ch.length < t → k + (ch.filterMap id).length ≤ 60 → ∃ τ', l_namesAt_4 T (zF h0 qs ks T (n + 1)) h0 qs ks t (nI k) e τ = l_namesAt_55 T (zF h0 qs ks T (n + 1)) h0 qs ks T (nI (k + (ch.filterMap id).length)) 0 τ' ∧ τ'.1 = τ.1 ∧ τ'.2.1 = τ.2.1 ∧ (∀ j, j ≠ 86 → τ'.2.2.1 j = τ.2.2.1 j) ∧ τ'.2.2.2 = τ.2.2.2 ∧ (∀ j, j < k → τ'.2.2.1 86 j = τ.2.2.1 86 j) ∧ ∀ i x, (ch.filterMap id)[i]? = some x → τ'.2.2.1 86 (k + i) = nI (Γ.1 x.1)
  | [], e, k, t, τ, hV, hE, ht, hk => by
    obtain ⟨t, rfl⟩ : ∃ t', t = t' + 1 := ⟨t - 1, by omega⟩
    have hE : e = -1 := hE
    subst hE
    exact ⟨τ, by rw [l_namesAt_4, if_pos (by decide)]; rfl, rfl, rfl, fun _ _ => rfl, rfl, fun _ _ => rfl, fun i x h => by cases h⟩
  | o :: ch, e, k, t, τ, hV, ⟨i, ty, ⟨g1, g2⟩, ⟨g3, g4⟩, g5, g6⟩, ht, hk => by
    obtain ⟨t, rfl⟩ : ∃ t', t = t' + 1 := ⟨t - 1, by omega⟩
    have l109 : v 109 ≤ 12000 := (hV 109 (by decide)).2
    have l75 : v 75 ≤ 40000 := (hV 75 (by decide)).2
    subst g1
    have zi : zin (nI i) 12000 = true := zin_n (by omega) (by decide)
    have ci : (nI i).toNatClampNeg = i := nI_clamp (by omega)
    have zt : zin (nI ty) 40000 = true := zin_n (by omega) (by decide)
    have ct : (nI ty).toNatClampNeg = ty := nI_clamp (by omega)
    have ht' : ch.length < t := by simp only [List.length_cons] at ht; omega
    rw [l_namesAt_4, if_neg (nI_nn (by omega)), zgd_at zi, ci, g3, zgd_at zt, ct, r_isSaid, zci_at]
    cases o with
    | none =>
      have e0 : (τ.2.2.1 42 ty == 1 || τ.2.2.1 42 ty == 3 || τ.2.2.1 42 ty == 5) = false := by
        rcases g5 with g5 | g5 <;> rw [g5] <;> rfl
      rw [e0, if_pos (by decide)]
      unfold j_namesAt_43
      rw [zgd_at zi, ci]
      exact r_nat4 ch _ k t τ hV g6 ht' hk
    | some x =>
      obtain ⟨p1, p2, p3⟩ := g5
      have e1 : (τ.2.2.1 42 ty == 1 || τ.2.2.1 42 ty == 3 || τ.2.2.1 42 ty == 5) = true := by
        generalize gSy x.2 = y at p2 p3
        cases y with
        | leaf => exact False.elim p3
        | inner k' _ _ l' r' =>
          obtain ⟨-, w1, w2⟩ := uTy.k p3
          rw [w1]
          have k5 : k' = 0 ∨ k' = 1 ∨ k' = 2 ∨ k' = 3 ∨ k' = 4 := by omega
          rcases k5 with rfl | rfl | rfl | rfl | rfl
          · exact absurd (show false = true from p2) (by decide)
          · rfl
          · exact absurd (show false = true from p2) (by decide)
          · rfl
          · rfl
      have lk : k + ((ch.filterMap id).length + 1) ≤ 60 := hk
      have zk : zin (nI k) 60 = true := zin_n (by omega) (by decide)
      have ck : (nI k).toNatClampNeg = k := nI_clamp (by omega)
      rw [e1, if_neg (by decide), zgd_at zi, zgd_at zk, ck, zlet_at, p1]
      unfold j_namesAt_43
      rw [zgd_at zi, ci, nI_p1]
      have fr : uFr v τ (zA τ 86 (upd (τ.2.2.1 86) k (nI (Γ.1 x.1)))) := ⟨fun _ _ _ _ => rfl, fun _ _ => rfl, fun j hj i _ => congrFun (if_neg (fun e => hj (by rw [e]; unfold uAy; omega))) i, fun _ _ _ => rfl⟩
      obtain ⟨τ', a1, a2, a3, a4, a5, a6, a7⟩ := r_nat4 ch _ (k + 1) t (zA τ 86 (upd (τ.2.2.1 86) k (nI (Γ.1 x.1)))) hV (uEv.up (fun _ => Nat.le_refl _) fr ch _ g6) ht' (by omega)
      refine ⟨τ', ?_, a2, a3, fun j hj => (a4 j hj).trans (if_neg hj), a5, fun j hj => ?_, fun j y hy => ?_⟩
      · refine Eq.trans ?_ (a1.trans ?_)
        · rfl
        · rw [show k + 1 + (ch.filterMap id).length = k + (List.filterMap id (some x :: ch)).length from by show _ = k + ((ch.filterMap id).length + 1); omega]
      · rw [a6 j (by omega)]
        show upd (τ.2.2.1 86) k _ j = _
        exact if_neg (by omega)
      · cases j with
        | zero =>
          have : x = y := Option.some.inj hy
          subst this
          rw [Nat.add_zero, a6 k (by omega)]
          show upd (τ.2.2.1 86) k _ k = _
          exact if_pos rfl
        | succ j =>
          have := a7 j y hy
          rw [show k + 1 + j = k + (j + 1) by omega] at this
          exact this
/-- **namesAt()** -/
theorem r_namesAt {n N : Nat} {v : Nat → Nat} {τ : zSt} {sc : List gEn} {e g : Int32} (hT : 300 ≤ T) (hV : uVn τ v) (hS : uSc N CD Γ v τ sc e g) (hN : N ≤ 200) (hs : (gSs sc).length ≤ 60) : ∃ τ', zF h0 qs ks T (n + 2) 75 [.ref h0, .int e] τ = some (none, τ') ∧ uVn τ' v ∧ uFr v τ τ' ∧ (∀ k, uAy k → k ≠ 85 → k ≠ 86 → τ'.2.2.1 k = τ.2.2.1 k) ∧ (τ'.1 63 = τ.1 63 ∧ τ'.2.1 64 = τ.2.1 64) ∧ uSr Γ τ' (gSs sc) := by
  obtain ⟨⟨ch, a1, a2, a3⟩, -⟩ := hS
  have l1 : (gSs sc).length = (ch.filterMap id).length := by rw [gSs_eq, List.length_reverse, List.length_map, a1]
  obtain ⟨τ1, b1, b2, b3, b4, b5, b6, b7⟩ := r_nat4 (h0 := h0) (qs := qs) (ks := ks) (T := T) (n := n) (Γ := Γ) ch e 0 T τ hV a3 (by omega) (by omega)
  rw [Nat.zero_add] at b1
  obtain ⟨τ2, c1, c2, c3, c4, c5, c6, c7, c8⟩ := r_nat55 (h0 := h0) (qs := qs) (ks := ks) (T := T) (n := n) (call := zF h0 qs ks T (n + 1)) (m := (ch.filterMap id).length) (ch.filterMap id).length 0 T τ1 (Nat.zero_add _) (by omega) (by omega)
  refine ⟨τ2, ?_, fun k hk => ?_, ⟨fun k h1 h2 h3 => ?_, fun k hk => ?_, fun k h1 i _ => ?_, fun k i _ => ?_⟩, fun k _ h85 h86 => ?_, ⟨?_, ?_⟩, ?_, by omega, fun i x hx => ?_⟩
  · rw [show n + 2 = (n + 1) + 1 from rfl, zE_namesAt]
    unfold b_namesAt
    have b1 : l_namesAt_4 T (zF h0 qs ks T (n + 1)) h0 qs ks T 0 e τ = _ := b1
    rw [b1]
    exact c1
  · have : k ≠ 126 := fun e => by subst e; exact absurd hk (by decide)
    rw [c2 k this, b2]
    exact hV k hk
  · rw [c2 k h3, b2]
  · rw [c4, b3]
  · have n85 : k ≠ 85 := fun e => h1 (by rw [e]; unfold uAy; omega)
    have n86 : k ≠ 86 := fun e => h1 (by rw [e]; unfold uAy; omega)
    rw [c5 k n85, b4 k n86]
  · rw [c6, b5]
  · rw [c5 k h85, b4 k h86]
  · rw [c2 63 (by decide), b2]
  · rw [c4, b3]
  · rw [c3, l1]
  · have hi : i < (ch.filterMap id).length := by rw [← l1]; exact (List.getElem?_eq_some_iff.mp hx).1
    rw [c8 i (Nat.zero_le _) hi]
    rw [gSs_eq, List.getElem?_reverse (by rw [List.length_map, ← a1]; exact hi), List.getElem?_map, List.length_map, ← a1] at hx
    cases ey : (ch.filterMap id)[(ch.filterMap id).length - 1 - i]? with
    | none => rw [ey] at hx; cases hx
    | some y =>
      rw [ey] at hx
      have hx : y.1 = x := Option.some.inj hx
      have := b7 _ y ey
      rw [Nat.zero_add] at this
      rw [this, hx]
end RNA
