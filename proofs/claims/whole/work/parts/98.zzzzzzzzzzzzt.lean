/-! put() of the reference -/
theorem gTk_pu (A : gTy) (x : gN) (t : gTe) : gTk (gPu A x t) = gPu (gTk A) x t := by
  obtain ⟨a, G⟩ := A
  cases a <;> rfl
theorem gAn_pu (A : gTy) (x : gN) (t : gTe) : gAn (gPu A x t) = gPu (gAn A) x t := by
  obtain ⟨a, G⟩ := A
  cases a <;> rfl
theorem gPn_pu (A : gTy) (x : gN) (t : gTe) : gPn (gPu A x t) = gPn A := rfl
theorem gSy_pu (A : gTy) (x : gN) (t : gTe) : gSy (gPu A x t) = gSy A := rfl
theorem uAd_mo (v : Nat → Nat) {r s f p r' s' f' p' : Nat} (h1 : r ≤ r') (h2 : s ≤ s') (h3 : f ≤ f') (h4 : p ≤ p') : ∀ k, uAd v r s f p k ≤ uAd v r' s' f' p' k := by
  intro k
  unfold uAd
  repeat' split
  all_goals omega
section RPT
variable {ks : Nat → Nat} {qs : List Nat} {T h0 : Nat} {Γ : uGm}
/-- what is put in: a row more -/
theorem r_prow {v : Nat → Nat} {τ : zSt} {x2 x3 x4 x6 : Int32} {x5 : Int64} (hV : uVn τ v) (hl : v 91 < 24000) : ∃ τ', τ' = zI (zA (zG (zA (zA (zA τ 55 (upd (τ.2.2.1 55) (v 91) x2)) 56 (upd (τ.2.2.1 56) (v 91) x3)) 57 (upd (τ.2.2.1 57) (v 91) x4)) 59 (vp_updL (τ.2.2.2 59) (v 91) x5)) 58 (upd (τ.2.2.1 58) (v 91) x6)) 91 (nI (v 91 + 1)) ∧ uVn τ' (uUp v 91) ∧ uFr v τ τ' ∧ (τ'.2.2.1 55 (v 91) = x2 ∧ τ'.2.2.1 56 (v 91) = x3 ∧ τ'.2.2.1 57 (v 91) = x4 ∧ τ'.2.2.2 59 (v 91) = x5 ∧ τ'.2.2.1 58 (v 91) = x6) ∧ uKe τ τ' := by
  refine ⟨_, rfl, hV.up (by decide) rfl (by show v 91 + 1 ≤ 24000; omega) (fun k _ hk => if_neg hk), ⟨fun k h1 h2 h3 => if_neg (fun e => h1 (by rw [e]; decide)), fun _ _ => rfl, fun k h1 i h2 => ?_, fun k i h2 => ?_⟩, ⟨if_pos rfl, if_pos rfl, if_pos rfl, ?_, if_pos rfl⟩, fun k hk => ?_, rfl, rfl, rfl⟩
  · have hx : k = 55 ∨ k = 56 ∨ k = 57 ∨ k = 58 → i ≠ v 91 := fun hk => by
      have := h2 91 (by rcases hk with rfl | rfl | rfl | rfl <;> decide)
      omega
    show (if k = 58 then _ else if k = 57 then _ else if k = 56 then _ else if k = 55 then _ else _ : Nat → Int32) i = _
    by_cases e1 : k = 58
    · subst e1; rw [if_pos rfl]; exact if_neg (hx (by decide))
    by_cases e2 : k = 57
    · subst e2; rw [if_neg (by decide), if_pos rfl]; exact if_neg (hx (by decide))
    by_cases e3 : k = 56
    · subst e3; rw [if_neg (by decide), if_neg (by decide), if_pos rfl]; exact if_neg (hx (by decide))
    by_cases e4 : k = 55
    · subst e4; rw [if_neg (by decide), if_neg (by decide), if_neg (by decide), if_pos rfl]; exact if_neg (hx (by decide))
    rw [if_neg e1, if_neg e2, if_neg e3, if_neg e4]
  · show (if k = 59 then _ else _ : Nat → Int64) i = _
    by_cases e2 : k = 59
    · subst e2
      have := h2 91 (by decide)
      rw [if_pos rfl, vp_L, if_neg (by omega)]
    · rw [if_neg e2]; rfl
  · show vp_updL _ _ _ _ = _
    rw [vp_L, if_pos rfl]
  · show (if k = 58 then _ else if k = 57 then _ else if k = 56 then _ else if k = 55 then _ else _ : Nat → Int32) = _
    have : k = 40 ∨ k = 41 ∨ k = 66 ∨ k = 67 ∨ k = 74 ∨ k = 85 ∨ k = 86 := hk
    rw [if_neg (by omega), if_neg (by omega), if_neg (by omega), if_neg (by omega)]
/-- **put()** -/
theorem r_put {x : gN} {u : gTe} : ∀ (y : tY) (t : Nat) (A : gTy) (n : Nat) (v : Nat → Nat) (τ : zSt), uVn τ v → uTy Γ v τ y t A → v 75 + yNd y ≤ 40000 → v 79 + yLs y ≤ 24000 → v 91 + yLs y ≤ 24000 → yDp y + 2 ≤ n → ∃ t' τ' r s p, zF h0 qs ks T n 77 [.ref h0, .int (nI t), .int (nI (Γ.1 x)), .int (uTe Γ u).1, .int (uTe Γ u).2.1, .long (uTe Γ u).2.2] τ = some (some (.int (nI t')), τ') ∧ uVn τ' (uAd v r s 0 p) ∧ (r ≤ yNd y ∧ s ≤ yLs y ∧ p ≤ yLs y) ∧ uFr v τ τ' ∧ uKe τ τ' ∧ uTy Γ (uAd v r s 0 p) τ' y t' (gPu A x u)
  | .leaf, t, A, n, v, τ, hV, h, _, _, _, _ => False.elim h
  | .inner k _ _ l r, t, A, n, v, τ, hV, h, h75, h79, h91, hn => by
    obtain ⟨n, rfl⟩ : ∃ n', n = n' + 1 := ⟨n - 1, by omega⟩
    have h' := h
    obtain ⟨g1, g2, g3⟩ := h
    have l75 := (hV 75 (by decide)).2
    have l75 : v 75 ≤ 40000 := l75
    have zt : zin (nI t) 40000 = true := zin_n (by omega) (by decide)
    have ct : (nI t).toNatClampNeg = t := nI_clamp (by omega)
    rw [zE_put]
    unfold b_put
    by_cases z : k = 0
    · subst z
      have eN : yNd (.inner 0 () () l r : tY) = yNd l + yNd r + 1 := rfl
      have eL : yLs (.inner 0 () () l r : tY) = yLs l + yLs r := rfl
      have eD : yDp (.inner 0 () () l r : tY) = max (yDp l) (yDp r) + 1 := rfl
      rw [eN] at h75
      rw [eL] at h79 h91
      rw [eD] at hn
      rw [if_pos rfl] at g3
      obtain ⟨a1, ⟨m, am⟩, a3, tl, tr, a4, a5, a6, a7⟩ := g3
      obtain ⟨t1, τ1, r1, s1, p1, b1, b2, ⟨b3, b3', b3''⟩, b4, b5, b6⟩ := r_put l tl (gTk A) n v τ hV a6 (by omega) (by omega) (by omega) (by omega)
      have v1 : uAd v r1 s1 0 p1 75 = v 75 + r1 ∧ uAd v r1 s1 0 p1 79 = v 79 + s1 ∧ uAd v r1 s1 0 p1 91 = v 91 + p1 := ⟨rfl, rfl, rfl⟩
      obtain ⟨t2, τ2, r2, s2, p2, c1, c2, ⟨c3, c3', c3''⟩, c4, c5, c6⟩ := r_put r tr (gAn A) n (uAd v r1 s1 0 p1) τ1 b2 (uTy.up (uAd_le _ _ _ _ _) b4 r tr _ a7) (by rw [v1.1]; omega) (by rw [v1.2.1]; omega) (by rw [v1.2.2]; omega) (by omega)
      rw [uAd_ad] at c2 c6
      obtain ⟨n, rfl⟩ : ∃ n', n = n' + 1 := ⟨n - 1, by omega⟩
      have v2 : uAd v (r1 + r2) (s1 + s2) (0 + 0) (p1 + p2) 75 = v 75 + (r1 + r2) := rfl
      obtain ⟨τ3, d1, d2, d3, ⟨d4, d5, d6, d7, d8⟩, d9⟩ := r_rich (h0 := h0) (qs := qs) (ks := ks) (T := T) (n := n) (x1 := 4) (x2 := -1) (x3 := nI (Γ.1 (gPn A))) (x4 := nI t1) (x5 := nI t2) c2 (by rw [v2]; omega)
      rw [uUp_75, uAd_ad] at d2
      have e42 : τ.2.2.1 42 t = 4 := a1
      have f12 : uFr v τ τ2 := b4.tr c4 (uAd_le _ _ _ _ _)
      have e46 : τ1.2.2.1 46 t = nI tr := (b4.r (c := 75) (by decide) (by unfold uAy; omega) g1).trans a5
      have e44 : τ2.2.2.1 44 t = nI (Γ.1 (gPn A)) := (f12.r (c := 75) (by decide) (by unfold uAy; omega) g1).trans a3.1
      have le2 : ∀ k, uAd v r1 s1 0 p1 k ≤ uAd v (r1 + r2) (s1 + s2) (0 + 0) (p1 + p2) k := uAd_mo v (by omega) (by omega) (by omega) (by omega)
      have le3 : ∀ k, uAd v (r1 + r2) (s1 + s2) (0 + 0) (p1 + p2) k ≤ uAd v (r1 + r2 + 1) (s1 + s2 + 0) (0 + 0 + 0) (p1 + p2 + 0) k := uAd_mo v (by omega) (by omega) (by omega) (by omega)
      refine ⟨v 75 + (r1 + r2), τ3, r1 + r2 + 1, s1 + s2, p1 + p2, ?_, d2, ⟨by rw [eN]; omega, by rw [eL]; omega, by rw [eL]; omega⟩, f12.tr d3 (uAd_le _ _ _ _ _), (b5.tr c5).tr ⟨d9.1, d9.2.1, d9.2.2.1, d9.2.2.2⟩, ?_, g2, ?_⟩
      · simp only [zgd, zt, if_true, ct, e42, if_neg (show ¬ (4 : Int32) = 2 by decide), a4]
        rw [b1, zci_at, e46, c1, zci_at, e44, d1, zci_at, v2]
      · show v 75 + (r1 + r2) < v 75 + (r1 + r2 + 1)
        omega
      · rw [if_pos rfl]
        rw [v2] at d4 d6 d7 d8
        refine ⟨d4, ⟨m, am⟩, ⟨d6, a3.2⟩, t1, t2, d7, d8, ?_, ?_⟩
        · rw [gTk_pu]
          exact uTy.up (fun k => Nat.le_trans (le2 k) (le3 k)) (c4.tr d3 le2) l t1 _ b6
        · rw [gAn_pu]
          exact uTy.up le3 d3 r t2 _ c6
    · have eN : yNd (.inner k () () l r : tY) = 1 := if_neg z
      have eD : yDp (.inner k () () l r : tY) = 0 := if_neg z
      rw [eN] at h75
      rw [eD] at hn
      rw [if_neg z] at g3
      obtain ⟨k4, a1, a2⟩ := g3
      by_cases z2 : k = 2
      · subst z2
        have e42 : τ.2.2.1 42 t = 2 := a1
        have eL : yLs (.inner 2 () () l r : tY) = 0 := rfl
        refine ⟨t, τ, 0, 0, 0, ?_, by rw [uAd_0]; exact hV, ⟨Nat.zero_le _, Nat.zero_le _, Nat.zero_le _⟩, uFr.rf v τ, uKe.rf τ, ?_⟩
        · simp only [zgd, zt, if_true, ct, e42]
        · rw [uAd_0]
          refine ⟨g1, g2, ?_⟩
          rw [if_neg z]
          exact ⟨k4, a1, fun w => absurd rfl w⟩
      · have eL : yLs (.inner k () () l r : tY) = 1 := by show (if k = 0 then _ else if k = 2 then 0 else 1) = 1; rw [if_neg z, if_neg z2]
        rw [eL] at h79 h91
        obtain ⟨s, s1, s2, s3, s4⟩ := a2 z2
        have l79 : v 79 ≤ 24000 := (hV 79 (by decide)).2
        have zs : zin (nI s) 24000 = true := zin_n (by omega) (by decide)
        have cs : (nI s).toNatClampNeg = s := nI_clamp (by omega)
        obtain ⟨c91, -⟩ := hV 91 (by decide)
        have z91 : zin (τ.1 91) 24000 = true := by rw [c91]; exact zin_n (by omega) (by decide)
        have cl91 : (τ.1 91).toNatClampNeg = v 91 := by rw [c91]; exact nI_clamp (by omega)
        have k5 : k = 1 ∨ k = 3 ∨ k = 4 := by omega
        have n2 : ¬ τ.2.2.1 42 t = 2 := by rw [a1]; rcases k5 with rfl | rfl | rfl <;> decide
        have n4 : ¬ τ.2.2.1 42 t = 4 := by rw [a1]; rcases k5 with rfl | rfl | rfl <;> decide
        obtain ⟨τ1, e1, e2, e3, ⟨e4, e5, e6, e7, e8⟩, e9⟩ := r_prow (x2 := nI (Γ.1 x)) (x3 := (uTe Γ u).1) (x4 := (uTe Γ u).2.1) (x5 := (uTe Γ u).2.2) (x6 := τ.2.2.1 49 s) hV (by omega)
        rw [uUp_91] at e2
        obtain ⟨n, rfl⟩ : ∃ n', n = n' + 1 := ⟨n - 1, by omega⟩
        have r1 : ∀ k, 42 ≤ k → k ≤ 46 → τ1.2.2.1 k t = τ.2.2.1 k t := fun k a b => e3.r (c := 75) (by unfold uCo; rw [if_pos ⟨a, b⟩]) (by unfold uAy; omega) g1
        have r2 : ∀ k, 47 ≤ k → k ≤ 49 → τ1.2.2.1 k s = τ.2.2.1 k s := fun k a b => e3.r (c := 79) (by unfold uCo; rw [if_neg (by omega), if_pos ⟨a, b⟩]) (by unfold uAy; omega) s2
        obtain ⟨τ2, f1, f2, f3, ⟨f4, f5, f6⟩, f7⟩ := r_said (h0 := h0) (qs := qs) (ks := ks) (T := T) (n := n) (x1 := τ.2.2.1 47 s) (x2 := τ.2.2.1 48 s) (x3 := nI (v 91)) e2 (by show v 79 + 0 < 24000; omega)
        rw [uUp_79, uAd_ad] at f2
        obtain ⟨τ3, d1, d2, d3, ⟨d4, d5, d6, d7, d8⟩, d9⟩ := r_rich (h0 := h0) (qs := qs) (ks := ks) (T := T) (n := n) (x1 := τ.2.2.1 42 t) (x2 := nI (v 79)) (x3 := -1) (x4 := -1) (x5 := -1) f2 (by show v 75 + (0 + 0) < 40000; omega)
        rw [uUp_75, uAd_ad] at d2
        have f1 : zF h0 qs ks T (n + 1) 68 [.ref h0, .int (τ.2.2.1 47 s), .int (τ.2.2.1 48 s), .int (nI (v 91))] τ1 = some (some (.int (nI (v 79))), τ2) := f1
        have d1 : zF h0 qs ks T (n + 1) 67 [.ref h0, .int (τ.2.2.1 42 t), .int (nI (v 79)), .int (-1), .int (-1), .int (-1)] τ2 = some (some (.int (nI (v 75))), τ3) := d1
        have f3' : uFr v τ1 τ2 := f3.mo (uAd_le _ _ _ _ _)
        have d3' : uFr v τ2 τ3 := d3.mo (uAd_le _ _ _ _ _)
        have fin : uFr v τ τ3 := (e3.tr f3' (fun k => Nat.le_refl _)).tr d3' (fun k => Nat.le_refl _)
        have lev : ∀ k, v k ≤ uAd v 1 1 0 1 k := uAd_le _ _ _ _ _
        have u0 : 0 + 0 + 1 = 1 ∧ 0 + 1 + 0 = 1 ∧ 0 + 0 + 0 = 0 ∧ 1 + 0 + 0 = 1 := by decide
        refine ⟨v 75, τ3, 1, 1, 1, ?_, d2, ⟨by rw [eN]; omega, by rw [eL]; omega, by rw [eL]; omega⟩, fin, (e9.tr ⟨f7.1, f7.2.1, f7.2.2.1, f7.2.2.2⟩).tr ⟨d9.1, d9.2.1, d9.2.2.1, d9.2.2.2⟩, ?_, g2, ?_⟩
        · have q1 : τ.1 91 + 1 = nI (v 91 + 1) := by rw [c91, nI_p1]
          have q2 : nI (v 91 + 1) - 1 = nI (v 91) := by rw [← nI_p1, nI_pm]
          simp only [zA, zG, zI] at e1
          simp only [zgd, zt, if_true, ct, if_neg n2, if_neg n4, zlet, zA, zG, zI, z91, cl91, s1, zs, cs, q1, q2, if_false, show ¬ (42 : Nat) = 55 by decide, show ¬ (42 : Nat) = 56 by decide, show ¬ (42 : Nat) = 57 by decide, show ¬ (42 : Nat) = 58 by decide, show ¬ (43 : Nat) = 55 by decide, show ¬ (43 : Nat) = 56 by decide, show ¬ (43 : Nat) = 57 by decide, show ¬ (43 : Nat) = 58 by decide, show ¬ (47 : Nat) = 55 by decide, show ¬ (47 : Nat) = 56 by decide, show ¬ (47 : Nat) = 57 by decide, show ¬ (47 : Nat) = 58 by decide, show ¬ (48 : Nat) = 55 by decide, show ¬ (48 : Nat) = 56 by decide, show ¬ (48 : Nat) = 57 by decide, show ¬ (48 : Nat) = 58 by decide, show ¬ (49 : Nat) = 55 by decide, show ¬ (49 : Nat) = 56 by decide, show ¬ (49 : Nat) = 57 by decide, show ¬ (49 : Nat) = 58 by decide, show ¬ (55 : Nat) = 56 by decide, show ¬ (55 : Nat) = 57 by decide, show ¬ (55 : Nat) = 58 by decide, show ¬ (56 : Nat) = 55 by decide, show ¬ (56 : Nat) = 57 by decide, show ¬ (56 : Nat) = 58 by decide, show ¬ (57 : Nat) = 55 by decide, show ¬ (57 : Nat) = 56 by decide, show ¬ (57 : Nat) = 58 by decide, show ¬ (58 : Nat) = 55 by decide, show ¬ (58 : Nat) = 56 by decide, show ¬ (58 : Nat) = 57 by decide]
          rw [← e1, f1, zci_at, d1, zci_at]
        · show v 75 < v 75 + 1
          omega
        · rw [if_neg z]
          refine ⟨k4, d4.trans a1, fun _ => ⟨v 79, d5, ?_, ?_, ?_⟩⟩
          · show v 79 < v 79 + 1
            omega
          · have r49 : τ3.2.2.1 49 (v 79) = nI (v 91) := (d3.r (k := 49) (c := 79) (i := v 79) (by decide) (by unfold uAy; omega) (by show v 79 < v 79 + (0 + 1); omega)).trans f6
            rw [r49]
            have eG : (gPu A x u).2.reverse = (x, u) :: A.2.reverse := by unfold gPu; simp
            rw [eG]
            have g91 : ∀ {k : Nat}, uCo k = some 91 → ¬ uAy k → τ3.2.2.1 k (v 91) = τ1.2.2.1 k (v 91) := fun {k} hk hy => (d3.r (c := 91) (i := v 91) hk hy (by show v 91 < v 91 + (1 + 0); omega)).trans (f3.r (c := 91) (i := v 91) hk hy (by show v 91 < v 91 + 1; omega))
            have g59 : τ3.2.2.2 59 (v 91) = τ1.2.2.2 59 (v 91) := (d3.l (k := 59) (c := 91) (i := v 91) (by decide) (by show v 91 < v 91 + (1 + 0); omega)).trans (f3.l (k := 59) (c := 91) (i := v 91) (by decide) (by show v 91 < v 91 + 1; omega))
            refine ⟨v 91, ⟨rfl, by show v 91 < v 91 + 1; omega⟩, (g91 (by decide) (by unfold uAy; omega)).trans e4, ?_, ?_⟩
            · rw [g91 (k := 56) (by decide) (by unfold uAy; omega), g91 (k := 57) (by decide) (by unfold uAy; omega), g59, e5, e6, e7]
            · rw [g91 (k := 58) (by decide) (by unfold uAy; omega), e8]
              exact uPu.up lev fin _ _ s3
          · have r47 : τ3.2.2.1 47 (v 79) = τ.2.2.1 47 s := (d3.r (k := 47) (c := 79) (i := v 79) (by decide) (by unfold uAy; omega) (by show v 79 < v 79 + (0 + 1); omega)).trans f4
            have r48 : τ3.2.2.1 48 (v 79) = τ.2.2.1 48 s := (d3.r (k := 48) (c := 79) (i := v 79) (by decide) (by unfold uAy; omega) (by show v 79 < v 79 + (0 + 1); omega)).trans f5
            rw [r47, r48]
            show match A.1 with | .inl x => _ | .inr m => _
            cases hA : A.1 with
            | inl y => rw [hA] at s4; exact ⟨s4.1, uFs.up lev fin _ _ s4.2⟩
            | inr m => rw [hA] at s4; exact ⟨s4.1, s4.2.1, s4.2.2.up lev fin⟩
end RPT
