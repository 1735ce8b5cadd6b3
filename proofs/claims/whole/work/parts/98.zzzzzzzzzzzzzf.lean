/-! template() of the reference: a leaf -/
/-- QUALS in their rows -/
def uQs (Γ : uGm) (τ : zSt) : Prop := τ.1 39 = nI Γ.2.2.2.1.length ∧ Γ.2.2.2.1.length ≤ 6 ∧ ∀ q qq, Γ.2.2.2.1[q]? = some qq → (τ.2.2.1 22 q = nI qq.1 ∧ qq.1 ≤ 2) ∧ τ.2.2.1 25 q = b01 qq.2.2.2.1
def yBs (y : tY) : Nat := if yK y = 4 then 1 else if yK y = 5 then 2 else 0
/-- what comes behind the QUALS -/
def tE2 (T : Nat) (call : zCl) (h0 : Nat) (x5 x6 : Int32) (σ : zSt) : zRs := zgd (zin x6 64) (zlet (zA σ 62 (upd (σ.2.2.1 62) (x6).toNatClampNeg (σ.1 99))) fun s3 => zci (call 68 [.ref h0, .int x6, .int (-1), .int (-1)] s3) fun r7 s5 => zci (call 67 [.ref h0, .int x5, .int r7, .int (-1), .int (-1), .int (-1)] s5) fun r10 s8 => some (some (.int r10), s8))
section RTL
variable {ks : Nat → Nat} {qs : List Nat} {T h0 : Nat} {Γ : uGm}
theorem r_t293 {n c : Nat} {x5 : Int32} {S : List gN} {y : tY} (hT : 100 ≤ T) (hc : c < 64) (hy : yK y = 2 ∨ yK y = 4 ∨ yK y = 5) : ∀ (d q t : Nat) (v : Nat → Nat) (τ : zSt), q + d = Γ.2.2.2.1.length → d < t → uVn τ v → uSr Γ τ S → uQs Γ τ → τ.2.2.1 60 c = nI (yBs y) → v 99 + (gIn Γ.2.2.1 (Γ.2.2.2.1.drop q) y S).length ≤ 8000 → ∃ τ', l_template_293 T (zF h0 qs ks T n) h0 qs ks t x5 (nI c) (nI q) τ = tE2 T (zF h0 qs ks T n) h0 x5 (nI c) τ' ∧ uIo Γ v τ (gIn Γ.2.2.1 (Γ.2.2.2.1.drop q) y S).length (gIn Γ.2.2.1 (Γ.2.2.2.1.drop q) y S) τ'
  | 0, q, t, v, τ, hq, ht, hV, hS, hQ, h60, hl => by
    obtain ⟨t, rfl⟩ : ∃ t', t = t' + 1 := ⟨t - 1, by omega⟩
    have l6 := hQ.2.1
    have ed : Γ.2.2.2.1.drop q = [] := List.drop_of_length_le (by omega)
    rw [ed]
    refine ⟨τ, ?_, by show uVn τ (uU9 v 0); rw [uU9_0]; exact hV, uFr.rf v τ, uKe.rf τ, fun _ _ _ _ => rfl, rfl, fun j x hx => by cases hx⟩
    rw [l_template_293, hQ.1, if_pos (nI_le (by omega) (by omega))]
    rfl
  | d + 1, q, t, v, τ, hq, ht, hV, hS, hQ, h60, hl => by
    obtain ⟨t, rfl⟩ : ∃ t', t = t' + 1 := ⟨t - 1, by omega⟩
    have l6 := hQ.2.1
    have hql : q < Γ.2.2.2.1.length := by omega
    have eq : Γ.2.2.2.1[q]? = some Γ.2.2.2.1[q] := List.getElem?_eq_getElem hql
    have ed : Γ.2.2.2.1.drop q = Γ.2.2.2.1[q] :: Γ.2.2.2.1.drop (q + 1) := List.drop_eq_getElem_cons hql
    obtain ⟨⟨h22, h22'⟩, h25⟩ := hQ.2.2 q _ eq
    generalize Γ.2.2.2.1[q] = qq at eq ed h22 h22' h25
    have zq : zin (nI q) 6 = true := zin_n (by omega) (by decide)
    have cq : (nI q).toNatClampNeg = q := nI_clamp (by omega)
    have zc : zin (nI c) 64 = true := zin_n hc (by decide)
    have cc : (nI c).toNatClampNeg = c := nI_clamp (by omega)
    rw [ed, gIn_cons] at hl ⊢
    rw [l_template_293, hQ.1, if_neg (nI_ge (by omega) (by omega)), zgd_at zq, zgd_at zc, cq, cc, h22, h60]
    have iff : nI qq.1 = nI (yBs y) ↔ (qq.1 = 0 ∧ yK y = 2) ∨ (qq.1 = 1 ∧ yK y = 4) ∨ (qq.1 = 2 ∧ yK y = 5) := by
      have yb : yBs y ≤ 2 := by unfold yBs; split <;> (try split) <;> omega
      constructor
      · intro w
        have w := nI_inj' (by omega) (by omega) w
        unfold yBs at w
        rcases hy with h | h | h <;> rw [h] at w ⊢ <;> simp at w <;> omega
      · intro w
        have : qq.1 = yBs y := by
          unfold yBs
          rcases w with ⟨w1, w2⟩ | ⟨w1, w2⟩ | ⟨w1, w2⟩ <;> rw [w1, w2] <;> rfl
        rw [this]
    by_cases z : (qq.1 = 0 ∧ yK y = 2) ∨ (qq.1 = 1 ∧ yK y = 4) ∨ (qq.1 = 2 ∧ yK y = 5)
    · rw [if_pos z] at hl ⊢
      rw [if_pos (iff.mpr z)]
      rw [List.length_append] at hl
      obtain ⟨τ1, a1, a2⟩ := r_t325q (h0 := h0) (qs := qs) (ks := ks) (call := zF h0 qs ks T n) (k293 := l_template_293 T (zF h0 qs ks T n) h0 qs ks t) (x5 := x5) (x6 := nI c) hT eq (by omega) h25 hV hS (by omega)
      have a3 := a2
      obtain ⟨b1, b2, b3, b4, b5, b6⟩ := a2
      have S1 : uSr Γ τ1 S := ⟨by rw [b3.2.1]; exact hS.1, hS.2.1, fun j x hx => by rw [b4 85 (by decide) (by decide) (by decide)]; exact hS.2.2 j x hx⟩
      have Q1 : uQs Γ τ1 := ⟨(b2.1 39 (by decide) (by decide) (by decide)).trans hQ.1, hQ.2.1, fun q qq e => by rw [b4 22 (by decide) (by decide) (by decide), b4 25 (by decide) (by decide) (by decide)]; exact hQ.2.2 q qq e⟩
      obtain ⟨τ2, c1, c2⟩ := r_t293 (n := n) (x5 := x5) (S := S) hT hc hy d (q + 1) t (uU9 v (gIq Γ.2.2.1 qq S).length) τ1 (by omega) (by omega) b1 S1 Q1 (by rw [b4 60 (by decide) (by decide) (by decide)]; exact h60) (by show v 99 + (gIq Γ.2.2.1 qq S).length + _ ≤ 8000; omega)
      refine ⟨τ2, a1.trans c1, ?_⟩
      rw [List.length_append]
      exact a3.app c2
    · rw [if_neg z] at hl ⊢
      rw [if_neg (fun w => z (iff.mp w))]
      unfold j_template_417
      rw [nI_p1]
      rw [List.nil_append] at hl ⊢
      exact r_t293 (n := n) (x5 := x5) (S := S) hT hc hy d (q + 1) t v τ (by omega) (by omega) hV hS hQ h60 hl
/-- a CASE's rows -/
theorem r_crow {v : Nat → Nat} {τ : zSt} {x1 x2 : Int32} (hV : uVn τ v) (hl : v 98 < 64) : ∃ τ', τ' = zA (zA (zI τ 98 (nI (v 98 + 1))) 60 (upd (τ.2.2.1 60) (v 98) x1)) 61 (upd (τ.2.2.1 61) (v 98) x2) ∧ uVn τ' (uUp v 98) ∧ uFr v τ τ' ∧ (τ'.2.2.1 60 (v 98) = x1 ∧ τ'.2.2.1 61 (v 98) = x2) ∧ uKe τ τ' ∧ ∀ k, k ≠ 60 → k ≠ 61 → τ'.2.2.1 k = τ.2.2.1 k := by
  refine ⟨_, rfl, hV.up (by decide) rfl (by show v 98 + 1 ≤ 64; omega) (fun k _ hk => if_neg hk), ⟨fun k h1 h2 h3 => if_neg (fun e => h1 (by rw [e]; decide)), fun _ _ => rfl, fun k h1 i h2 => ?_, fun k i h2 => rfl⟩, ⟨if_pos rfl, if_pos rfl⟩, ⟨fun k hk => ?_, rfl, rfl, rfl⟩, fun k h1 h2 => ?_⟩
  · have hx : k = 60 ∨ k = 61 → i ≠ v 98 := fun hk => by
      have := h2 98 (by rcases hk with rfl | rfl <;> decide)
      omega
    show (if k = 61 then _ else if k = 60 then _ else _ : Nat → Int32) i = _
    by_cases e1 : k = 61
    · subst e1; rw [if_pos rfl]; exact if_neg (hx (by decide))
    by_cases e2 : k = 60
    · subst e2; rw [if_neg (by decide), if_pos rfl]; exact if_neg (hx (by decide))
    rw [if_neg e1, if_neg e2]
    rfl
  · show (if k = 61 then _ else if k = 60 then _ else _ : Nat → Int32) = _
    have : k = 40 ∨ k = 41 ∨ k = 66 ∨ k = 67 ∨ k = 74 ∨ k = 85 ∨ k = 86 := hk
    rw [if_neg (by omega), if_neg (by omega)]
    rfl
  · show (if k = 61 then _ else if k = 60 then _ else _ : Nat → Int32) = _
    rw [if_neg h2, if_neg h1]
    rfl
/-- counters up, of a leaf -/
def uLf (v : Nat → Nat) (m : Nat) : Nat → Nat := fun k => if k = 75 then v k + 1 else if k = 79 then v k + 1 else if k = 98 then v k + 1 else if k = 99 then v k + m else v k
theorem uLf_le (v : Nat → Nat) (m : Nat) : ∀ k, v k ≤ uLf v m k := by
  intro k
  unfold uLf
  repeat' split
  all_goals omega
/-- template() of int, array, list, from where its CASE is made -/
theorem r_tleaf {n k : Nat} {l r : tY} {m : gTm} {v : Nat → Nat} {τ : zSt} (hT : 100 ≤ T) (hk : k = 1 ∨ k = 3 ∨ k = 4) (hm : m.2.2.1 = .inner k () () l r) (hcn : Γ.2.1 (m.1, m.2.1) = v 98) (hV : uVn τ v) (hS : uSr Γ τ m.2.2.2.2) (hQ : uQs Γ τ) (h98 : v 98 < 64) (h99 : v 99 + (gIn Γ.2.2.1 Γ.2.2.2.1 m.2.2.1 m.2.2.2.2).length ≤ 8000) (h79 : v 79 < 24000) (h75 : v 75 < 40000) : ∃ τ', zlet (zI τ 98 (τ.1 98 + 1)) (fun s9 => if nI (uK k) = 3 then j_template_278 T (zF h0 qs ks T (n + 1)) h0 qs ks (nI (uK k)) (τ.1 98) (τ.1 98) 1 s9 else if nI (uK k) = 5 then j_template_278 T (zF h0 qs ks T (n + 1)) h0 qs ks (nI (uK k)) (τ.1 98) (τ.1 98) 2 s9 else j_template_278 T (zF h0 qs ks T (n + 1)) h0 qs ks (nI (uK k)) (τ.1 98) (τ.1 98) 0 s9) = some (some (.int (nI (v 75))), τ') ∧ uVn τ' (uLf v (gIn Γ.2.2.1 Γ.2.2.2.1 m.2.2.1 m.2.2.2.2).length) ∧ uFr v τ τ' ∧ uKe τ τ' ∧ uTy Γ (uLf v (gIn Γ.2.2.1 Γ.2.2.2.1 m.2.2.1 m.2.2.2.2).length) τ' m.2.2.1 (v 75) (.inr m, []) := by
  obtain ⟨c98, -⟩ := hV 98 (by decide)
  obtain ⟨c99, -⟩ := hV 99 (by decide)
  have z98 : zin (τ.1 98) 64 = true := by rw [c98]; exact zin_n h98 (by decide)
  have cl98 : (τ.1 98).toNatClampNeg = v 98 := by rw [c98]; exact nI_clamp (by omega)
  have q1 : τ.1 98 + 1 = nI (v 98 + 1) := by rw [c98, nI_p1]
  have hyk : yK m.2.2.1 = 2 ∨ yK m.2.2.1 = 4 ∨ yK m.2.2.1 = 5 := by
    rw [hm]
    rcases hk with rfl | rfl | rfl
    · exact Or.inl rfl
    · exact Or.inr (Or.inl rfl)
    · exact Or.inr (Or.inr rfl)
  generalize hF : gIn Γ.2.2.1 Γ.2.2.2.1 m.2.2.1 m.2.2.2.2 = F at h99 ⊢
  obtain ⟨τ1, e1, e2, e3, ⟨e4, e5⟩, e6, e7⟩ := r_crow (x1 := nI (yBs m.2.2.1)) (x2 := τ.1 99) hV h98
  have S1 : uSr Γ τ1 m.2.2.2.2 := ⟨by rw [e6.2.1]; exact hS.1, hS.2.1, fun j x hx => by rw [e7 85 (by decide) (by decide)]; exact hS.2.2 j x hx⟩
  have Q1 : uQs Γ τ1 := ⟨(e3.1 39 (by decide) (by decide) (by decide)).trans hQ.1, hQ.2.1, fun q qq e => by rw [e7 22 (by decide) (by decide), e7 25 (by decide) (by decide)]; exact hQ.2.2 q qq e⟩
  have l6 := hQ.2.1
  obtain ⟨τ2, a1, b1, b2, b3, b4, b5, b6⟩ := r_t293 (h0 := h0) (qs := qs) (ks := ks) (T := T) (n := n + 1) (c := v 98) (x5 := nI (uK k)) (S := m.2.2.2.2) (y := m.2.2.1) hT h98 hyk Γ.2.2.2.1.length 0 T (uUp v 98) τ1 (Nat.zero_add _) (by omega) e2 S1 Q1 e4 (by rw [List.drop_zero, hF, uUp_ne v (by decide)]; exact h99)
  rw [List.drop_zero, hF] at b1 b6
  have a1 : l_template_293 T (zF h0 qs ks T (n + 1)) h0 qs ks T (nI (uK k)) (nI (v 98)) 0 τ1 = _ := a1
  -- row 62
  have fr2 : uFr v τ τ2 := e3.tr b2 (uUp_le v 98)
  have c99' : τ2.1 99 = nI (v 99 + F.length) := (b1 99 (by decide)).1
  have zc : zin (nI (v 98)) 64 = true := zin_n h98 (by decide)
  have cc : (nI (v 98)).toNatClampNeg = v 98 := nI_clamp (by omega)
  generalize hτ3 : zA τ2 62 (upd (τ2.2.2.1 62) (v 98) (τ2.1 99)) = τ3
  have V3 : uVn τ3 (uU9 (uUp v 98) F.length) := by rw [← hτ3]; exact b1
  have fr3 : uFr v τ τ3 := by
    refine fr2.tr (v' := v) (τ' := τ2) ⟨fun _ _ _ _ => by rw [← hτ3]; rfl, fun _ _ => by rw [← hτ3]; rfl, fun k' h1 i h2 => ?_, fun _ _ _ => by rw [← hτ3]; rfl⟩ (fun _ => Nat.le_refl _)
    rw [← hτ3]
    show (if k' = 62 then _ else _ : Nat → Int32) i = _
    by_cases z : k' = 62
    · subst z
      have := h2 98 (by decide)
      rw [if_pos rfl]
      exact if_neg (by omega)
    · rw [if_neg z]
  have k3 : uKe τ2 τ3 := by
    rw [← hτ3]
    refine ⟨fun k' hk' => ?_, rfl, rfl, rfl⟩
    have : k' = 40 ∨ k' = 41 ∨ k' = 66 ∨ k' = 67 ∨ k' = 74 ∨ k' = 85 ∨ k' = 86 := hk'
    exact if_neg (by omega)
  have r62 : τ3.2.2.1 62 (v 98) = nI (v 99 + F.length) := by
    rw [← hτ3, ← c99']
    show upd (τ2.2.2.1 62) (v 98) (τ2.1 99) (v 98) = _
    exact if_pos rfl
  have rot : ∀ k', k' ≠ 62 → τ3.2.2.1 k' = τ2.2.2.1 k' := fun k' h => by rw [← hτ3]; exact if_neg h
  obtain ⟨τ4, f1, f2, f3, ⟨f4, f5, f6⟩, f7⟩ := r_said (h0 := h0) (qs := qs) (ks := ks) (T := T) (n := n) (x1 := nI (v 98)) (x2 := -1) (x3 := -1) V3 (by show v 79 < 24000; exact h79)
  obtain ⟨τ5, d1, d2, d3, ⟨d4, d5, d6, d7, d8⟩, d9⟩ := r_rich (h0 := h0) (qs := qs) (ks := ks) (T := T) (n := n) (x1 := nI (uK k)) (x2 := nI (v 79)) (x3 := -1) (x4 := -1) (x5 := -1) f2 (by show v 75 < 40000; exact h75)
  have f1 : zF h0 qs ks T (n + 1) 68 [.ref h0, .int (nI (v 98)), .int (-1), .int (-1)] τ3 = some (some (.int (nI (v 79))), τ4) := f1
  have d1 : zF h0 qs ks T (n + 1) 67 [.ref h0, .int (nI (uK k)), .int (nI (v 79)), .int (-1), .int (-1), .int (-1)] τ4 = some (some (.int (nI (v 75))), τ5) := d1
  have ev : uUp (uUp (uU9 (uUp v 98) F.length) 79) 75 = uLf v F.length := by
    funext k'
    simp only [uUp, uU9, uLf]
    repeat' split
    all_goals omega
  rw [ev] at d2
  have le1 : ∀ k', v k' ≤ uU9 (uUp v 98) F.length k' := fun k' => Nat.le_trans (uUp_le v 98 k') (uU9_le _ _ k')
  have le2 : ∀ k', v k' ≤ uUp (uU9 (uUp v 98) F.length) 79 k' := fun k' => Nat.le_trans (le1 k') (uUp_le _ 79 k')
  have fr45 : uFr (uU9 (uUp v 98) F.length) τ3 τ5 := f3.tr d3 (uUp_le _ 79)
  have fr5 : uFr v τ τ5 := fr3.tr (fr45.mo le1) (fun _ => Nat.le_refl _)
  refine ⟨τ5, ?_, d2, fr5, ((e6.tr b3).tr k3).tr ((show uKe τ3 τ4 from ⟨f7.1, f7.2.1, f7.2.2.1, f7.2.2.2⟩).tr ⟨d9.1, d9.2.1, d9.2.2.1, d9.2.2.2⟩), ?_⟩
  · have go : j_template_278 T (zF h0 qs ks T (n + 1)) h0 qs ks (nI (uK k)) (τ.1 98) (τ.1 98) (nI (yBs m.2.2.1)) (zI τ 98 (τ.1 98 + 1)) = some (some (.int (nI (v 75))), τ5) := by
      unfold j_template_278
      simp only [zA, zI] at e1
      simp only [zgd, zlet, zA, zI, z98, cl98, if_true, q1, if_false, show ¬ (99 : Nat) = 98 by decide, show ¬ (61 : Nat) = 60 by decide]
      rw [← e1, c98, a1]
      unfold tE2
      rw [zgd_at zc, cc, zlet_at, hτ3, f1, zci_at, d1, zci_at]
    rw [zlet_at]
    have eb : yBs m.2.2.1 = if k = 3 then 1 else if k = 4 then 2 else 0 := by
      rw [hm]
      rcases hk with rfl | rfl | rfl <;> rfl
    rw [eb] at go
    rcases hk with rfl | rfl | rfl
    · rw [if_neg (by decide), if_neg (by decide)]; exact go
    · rw [if_pos (by decide)]; exact go
    · rw [if_neg (by decide), if_pos (by decide)]; exact go
  · rw [hm]
    have k0 : ¬ k = 0 := by rcases hk with rfl | rfl | rfl <;> decide
    refine ⟨by show v 75 < v 75 + 1; omega, hm, ?_⟩
    rw [if_neg k0]
    refine ⟨by omega, d4, fun _ => ⟨v 79, d5, by show v 79 < v 79 + 1; omega, ?_, ?_⟩⟩
    · have r49 : τ5.2.2.1 49 (v 79) = -1 := (d3.r (k := 49) (c := 79) (i := v 79) (by decide) (by unfold uAy; omega) (by show v 79 < v 79 + 1; omega)).trans f6
      rw [r49]
      rfl
    · have r47 : τ5.2.2.1 47 (v 79) = nI (v 98) := (d3.r (k := 47) (c := 79) (i := v 79) (by decide) (by unfold uAy; omega) (by show v 79 < v 79 + 1; omega)).trans f4
      have r48 : τ5.2.2.1 48 (v 79) = -1 := (d3.r (k := 48) (c := 79) (i := v 79) (by decide) (by unfold uAy; omega) (by show v 79 < v 79 + 1; omega)).trans f5
      rw [r47, r48]
      show nI (v 98) = nI (Γ.2.1 (m.1, m.2.1)) ∧ _ ∧ uCs Γ _ τ5 (Γ.2.1 (m.1, m.2.1)) (gIn Γ.2.2.1 Γ.2.2.2.1 m.2.2.1 m.2.2.2.2)
      rw [hcn, hF]
      have r98 : ∀ k', 60 ≤ k' → k' ≤ 62 → τ5.2.2.1 k' (v 98) = τ3.2.2.1 k' (v 98) := fun k' a b => fr45.r (c := 98) (by unfold uCo; rw [if_neg (by omega), if_neg (by omega), if_neg (by omega), if_neg (by omega), if_pos ⟨a, b⟩]) (by unfold uAy; omega) (by show v 98 < v 98 + 1; omega)
      refine ⟨rfl, rfl, by show v 98 < v 98 + 1; omega, v 99, ?_, (r98 62 (by decide) (by decide)).trans r62, by show v 99 + F.length ≤ v 99 + F.length; omega, fun i x hx => ?_⟩
      · rw [r98 61 (by decide) (by decide), rot 61 (by decide), b4 61 (by decide) (by decide) (by decide), e5, c99]
      · obtain ⟨⟨q, qq, g1, g2, g3⟩, -⟩ := b6 i x hx
        have g99 : uUp v 98 99 = v 99 := uUp_ne v (by decide)
        rw [g99] at g2 g3
        have hi : v 99 + i < uU9 (uUp v 98) F.length 99 := by show v 99 + i < v 99 + F.length; have := (List.getElem?_eq_some_iff.mp hx).1; omega
        have r : ∀ k', 63 ≤ k' → k' ≤ 65 → τ5.2.2.1 k' (v 99 + i) = τ2.2.2.1 k' (v 99 + i) := fun k' a b => (fr45.r (c := 99) (by unfold uCo; rw [if_neg (by omega), if_neg (by omega), if_neg (by omega), if_neg (by omega), if_neg (by omega), if_pos ⟨a, b⟩]) (by unfold uAy; omega) hi).trans (congrFun (rot k' (by omega)) _)
        exact ⟨q, qq, g1, (r 63 (by decide) (by decide)).trans g2, by rw [r 64 (by decide) (by decide)]; exact g3⟩
end RTL
