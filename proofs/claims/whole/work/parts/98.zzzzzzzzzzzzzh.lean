/-! template() of the reference -/
/-- parameters without a NAME, where q have one -/
def yFz : tY → Nat → Nat
  | .leaf, _ => 0
  | .inner k _ _ l r, q => if k = 0 then (if q = 0 then 1 else 0) + yFz l 0 + yFz r (q - 1) else 0
/-- NAMES and CASES of a TEMPLATE have the numbers that the reference gives them, from fb, cb on -/
def mOk (Γ : uGm) : tY → gTm → Nat → Nat → Prop
  | .leaf, _, _, _ => True
  | .inner k _ _ l r, m, fb, cb => if k = 0 then (uNm Γ (mPn m) ∧ Γ.2.2.2.2.1 (mPn m) = l ∧ (m.2.2.2.1 = [] → Γ.1 (mPn m) = 700 + fb)) ∧ mOk Γ l (mTk m) (fb + (if m.2.2.2.1.length = 0 then 1 else 0)) cb ∧ mOk Γ r (mAn m) (fb + (if m.2.2.2.1.length = 0 then 1 else 0) + yFz l 0) (cb + yLs l) else (k ≠ 2 → Γ.2.1 (m.1, m.2.1) = cb)
/-- how many INSTANCES -/
def mIs (Γ : uGm) : tY → gTm → Nat
  | .leaf, _ => 0
  | .inner k _ _ l r, m => if k = 0 then mIs Γ l (mTk m) + mIs Γ r (mAn m) else if k = 2 then 0 else (gIn Γ.2.2.1 Γ.2.2.2.1 m.2.2.1 m.2.2.2.2).length
/-- what * may be, at most -/
def mSx : tY → gTm → Nat
  | .leaf, m => m.2.2.2.2.length
  | .inner k _ _ l r, m => if k = 0 then max (mSx l (mTk m)) (mSx r (mAn m)) else m.2.2.2.2.length
theorem mSx_ge : ∀ (y : tY) (m : gTm), m.2.2.2.2.length ≤ mSx y m
  | .leaf, _ => Nat.le_refl _
  | .inner k _ _ l r, m => by
    show _ ≤ if k = 0 then _ else _
    split
    · have := mSx_ge l (mTk m)
      have e : (mTk m).2.2.2.2 = m.2.2.2.2 := rfl
      rw [e] at this
      omega
    · exact Nat.le_refl _
def tmC (Γ : uGm) (y : tY) (m : gTm) : Nat → Nat := fun k => if k = 75 then yNd y else if k = 79 then yLs y else if k = 98 then yLs y else if k = 99 then mIs Γ y m else if k = 100 then yFz y m.2.2.2.1.length else 0
/-- rows that template() leaves alone -/
def uKt (τ τ' : zSt) : Prop := (∀ k, k = 40 ∨ k = 41 ∨ k = 74 ∨ k = 86 → τ'.2.2.1 k = τ.2.2.1 k) ∧ τ'.1 63 = τ.1 63 ∧ τ'.2.1 64 = τ.2.1 64
section RTE
variable {ks : Nat → Nat} {qs : List Nat} {T h0 : Nat} {Γ : uGm} {τ τ' τ'' : zSt} {v : Nat → Nat}
theorem uKt.rf (τ : zSt) : uKt τ τ := ⟨fun _ _ => rfl, rfl, rfl⟩
theorem uKt.tr (h : uKt τ τ') (g : uKt τ' τ'') : uKt τ τ'' := ⟨fun k a => (g.1 k a).trans (h.1 k a), g.2.1.trans h.2.1, g.2.2.trans h.2.2⟩
theorem uKe.t (h : uKe τ τ') : uKt τ τ' := ⟨fun k a => h.1 k (by unfold uAy; omega), h.2.2.1, h.2.2.2⟩
theorem rTf.u {g : gG} {ρ : Nat → tY} (h : rTf τ g ρ) (f : uFr v τ τ') : rTf τ' g ρ := by
  obtain ⟨⟨k, ⟨h1, h2⟩, ⟨h3, h4⟩, h5⟩, h6⟩ := h
  have e : ∀ k, 34 ≤ k → k ≤ 38 → ∀ i, τ'.2.2.1 k i = τ.2.2.1 k i := fun k a b i => f.2.2.1 k (by unfold uAy; omega) i (fun c hc => by
    unfold uCo at hc
    rw [if_neg (by omega), if_neg (by omega), if_neg (by omega), if_neg (by omega), if_neg (by omega), if_neg (by omega), if_neg (by omega), if_neg (by omega), if_neg (by omega), if_neg (by omega)] at hc
    cases hc)
  refine ⟨⟨k, ⟨(f.1 59 (by decide) (by decide) (by decide)).trans h1, h2⟩, ⟨(f.1 60 (by decide) (by decide) (by decide)).trans h3, h4⟩, fun t ht => ?_⟩, h6⟩
  rw [e 34 (by decide) (by decide), e 35 (by decide) (by decide), e 36 (by decide) (by decide), e 37 (by decide) (by decide), e 38 (by decide) (by decide)]
  exact h5 t ht
/-- rows without a counter -/
theorem uFr.n (f : uFr v τ τ') {k i : Nat} (hy : ¬ uAy k) (hk : uCo k = none) : τ'.2.2.1 k i = τ.2.2.1 k i := f.2.2.1 k hy i (fun c hc => by rw [hk] at hc; cases hc)
theorem uQs.u (h : uQs Γ τ) (f : uFr v τ τ') : uQs Γ τ' := ⟨(f.1 39 (by decide) (by decide) (by decide)).trans h.1, h.2.1, fun q qq e => by
  rw [f.n (k := 22) (by unfold uAy; omega) rfl, f.n (k := 25) (by unfold uAy; omega) rfl]
  exact h.2.2 q qq e⟩
/-- NAMES that were made between two counts know what they are -/
def uNw (Γ : uGm) (a b : Nat) (τ : zSt) : Prop := ∀ x, uNm Γ x → 700 + a ≤ Γ.1 x → Γ.1 x < 700 + b → uIs Γ τ x
def tmO (Γ : uGm) (R : zRs) (y : tY) (m : gTm) (v : Nat → Nat) (τ : zSt) : Prop := ∃ t τ' v', R = some (some (.int (nI t)), τ') ∧ uVn τ' v' ∧ uGe v v' (tmC Γ y m) ∧ (v' 98 = v 98 + yLs y ∧ v' 100 = v 100 + yFz y m.2.2.2.1.length) ∧ uFr v τ τ' ∧ uKt τ τ' ∧ uSr Γ τ' m.2.2.2.2 ∧ (uIk Γ τ τ' ∧ uNw Γ (v 100) (v' 100) τ') ∧ uTy Γ v' τ' y t (.inr m, [])
end RTE
section RTM
variable {ks : Nat → Nat} {qs : List Nat} {T h0 : Nat}
/-- lengths, sizes and what * may be, once a parameter's type is made -/
theorem r_tmid {n X t1 gr sl : Nat} {w0 q : Int32} {v : Nat → Nat} {τ : zSt} (hV : uVn τ v) (hX : X < 1501) (ht : t1 < v 75) (h126 : τ.1 126 = nI sl) (hsl : (τ.2.2.1 42 t1 == 1 || τ.2.2.1 42 t1 == 3 || τ.2.2.1 42 t1 == 5) = true → sl < 60) : ∃ τ', zgd (zin (nI t1) 40000) (zci (zF h0 qs ks T (n + 1) 71 [.int (τ.2.2.1 42 (nI t1).toNatClampNeg)] τ) fun r8 s6 => zgd (zin (nI t1) 40000) (if (s6.2.2.1 42 (nI t1).toNatClampNeg) = 3 then j_template_125 T (zF h0 qs ks T (n + 1)) h0 qs ks w0 q (nI gr) (nI X) (nI t1) r8 (nI X) s6 else zgd (zin (nI t1) 40000) (if (s6.2.2.1 42 (nI t1).toNatClampNeg) = 5 then j_template_125 T (zF h0 qs ks T (n + 1)) h0 qs ks w0 q (nI gr) (nI X) (nI t1) r8 (nI X) s6 else j_template_130 T (zF h0 qs ks T (n + 1)) h0 qs ks w0 q (nI gr) (nI X) (nI t1) r8 (nI X) 0 s6))) = j_template_180 T (zF h0 qs ks T (n + 1)) h0 qs ks w0 q (nI gr) (nI X) (nI t1) (b01 (τ.2.2.1 42 t1 == 1 || τ.2.2.1 42 t1 == 3 || τ.2.2.1 42 t1 == 5)) τ' ∧ uVn τ' v ∧ uFr v τ τ' ∧ uKt τ τ' ∧ (τ'.2.2.1 66 = upd (τ.2.2.1 66) X (b01 (uLn (τ.2.2.1 42 t1))) ∧ τ'.2.2.1 67 = upd (τ.2.2.1 67) X (b01 (τ.2.2.1 42 t1 == 5))) ∧ (∀ k, k ≠ 66 → k ≠ 67 → k ≠ 85 → τ'.2.2.1 k = τ.2.2.1 k) ∧ ((τ.2.2.1 42 t1 == 1 || τ.2.2.1 42 t1 == 3 || τ.2.2.1 42 t1 == 5) = false → τ'.1 126 = nI sl ∧ τ'.2.2.1 85 = τ.2.2.1 85) ∧ ((τ.2.2.1 42 t1 == 1 || τ.2.2.1 42 t1 == 3 || τ.2.2.1 42 t1 == 5) = true → τ'.1 126 = nI (sl + 1) ∧ τ'.2.2.1 85 = upd (τ.2.2.1 85) sl (nI X)) := by
  have l75 : v 75 ≤ 40000 := (hV 75 (by decide)).2
  have zt : zin (nI t1) 40000 = true := zin_n (by omega) (by decide)
  have ct : (nI t1).toNatClampNeg = t1 := nI_clamp (by omega)
  have zx : zin (nI X) 1501 = true := zin_n hX (by decide)
  have cx : (nI X).toNatClampNeg = X := nI_clamp (by omega)
  rw [zgd_at zt, ct, r_isSaid, zci_at, zgd_at zt]
  generalize hb : (τ.2.2.1 42 t1 == 1 || τ.2.2.1 42 t1 == 3 || τ.2.2.1 42 t1 == 5) = ms at hsl ⊢
  have core : ∀ a b : Int32, (a = 0 ∨ a = 1) → (b = 0 ∨ b = 1) → ∃ τ', (zgd (zin (nI X) 1501) (zlet (zA τ 66 (upd (τ.2.2.1 66) (nI X).toNatClampNeg (vp_nar .boolean a))) fun s2 => j_template_153 T (zF h0 qs ks T (n + 1)) h0 qs ks w0 q (nI gr) (nI X) (nI t1) (b01 ms) (nI X) b s2)) = j_template_180 T (zF h0 qs ks T (n + 1)) h0 qs ks w0 q (nI gr) (nI X) (nI t1) (b01 ms) τ' ∧ uVn τ' v ∧ uFr v τ τ' ∧ uKt τ τ' ∧ (τ'.2.2.1 66 = upd (τ.2.2.1 66) X a ∧ τ'.2.2.1 67 = upd (τ.2.2.1 67) X b) ∧ (∀ k, k ≠ 66 → k ≠ 67 → k ≠ 85 → τ'.2.2.1 k = τ.2.2.1 k) ∧ (ms = false → τ'.1 126 = nI sl ∧ τ'.2.2.1 85 = τ.2.2.1 85) ∧ (ms = true → τ'.1 126 = nI (sl + 1) ∧ τ'.2.2.1 85 = upd (τ.2.2.1 85) sl (nI X)) := fun a b ha hb' => by
    have na : vp_nar .boolean a = a := nar01 a ha
    have nb : vp_nar .boolean b = b := nar01 b hb'
    have frame : ∀ τ' : zSt, (∀ k, k ≠ 126 → τ'.1 k = τ.1 k) → τ'.2.1 = τ.2.1 → (∀ k, k ≠ 66 → k ≠ 67 → k ≠ 85 → τ'.2.2.1 k = τ.2.2.1 k) → τ'.2.2.2 = τ.2.2.2 → uVn τ' v ∧ uFr v τ τ' ∧ uKt τ τ' := fun τ' h1 h2 h3 h4 => by
      refine ⟨fun k hk => ?_, ⟨fun k _ _ h => h1 k h, fun k _ => by rw [h2], fun k hk i _ => ?_, fun k i _ => by rw [h4]⟩, fun k hk => h3 k (by omega) (by omega) (by omega), h1 63 (by decide), by rw [h2]⟩
      · rw [h1 k (fun e => by subst e; exact absurd hk (by decide))]; exact hV k hk
      · rw [h3 k (fun e => hk (by rw [e]; unfold uAy; omega)) (fun e => hk (by rw [e]; unfold uAy; omega)) (fun e => hk (by rw [e]; unfold uAy; omega))]
    cases hms : ms with
    | false =>
      refine ⟨zA (zA τ 66 (upd (τ.2.2.1 66) X a)) 67 (upd (τ.2.2.1 67) X b), ?_, ?_⟩
      · unfold j_template_153
        rw [zgd_at zx, zlet_at, zgd_at zx, zlet_at, cx, na, nb, if_pos (by decide)]
        rfl
      · obtain ⟨f1, f2, f3⟩ := frame (zA (zA τ 66 (upd (τ.2.2.1 66) X a)) 67 (upd (τ.2.2.1 67) X b)) (fun _ _ => rfl) rfl (fun k h1 h2 _ => (if_neg h2).trans (if_neg h1)) rfl
        exact ⟨f1, f2, f3, ⟨rfl, rfl⟩, fun k h1 h2 _ => (if_neg h2).trans (if_neg h1), fun _ => ⟨h126, rfl⟩, fun w => by cases w⟩
    | true =>
      have hsl' := hsl hms
      have z126 : zin (τ.1 126) 60 = true := by rw [h126]; exact zin_n hsl' (by decide)
      have c126 : (τ.1 126).toNatClampNeg = sl := by rw [h126]; exact nI_clamp (by omega)
      refine ⟨zI (zA (zA (zA τ 66 (upd (τ.2.2.1 66) X a)) 67 (upd (τ.2.2.1 67) X b)) 85 (upd (τ.2.2.1 85) sl (nI X))) 126 (nI (sl + 1)), ?_, ?_⟩
      · unfold j_template_153
        rw [zgd_at zx, zlet_at, zgd_at zx, zlet_at, cx, na, nb, if_neg (by decide)]
        have q1 : τ.1 126 + 1 = nI (sl + 1) := by rw [h126, nI_p1]
        simp only [zgd, zlet, zA, zI, z126, c126, if_true, if_false, q1, show ¬ (67 : Nat) = 66 by decide, show ¬ (85 : Nat) = 67 by decide, show ¬ (85 : Nat) = 66 by decide]
      · obtain ⟨f1, f2, f3⟩ := frame (zI (zA (zA (zA τ 66 (upd (τ.2.2.1 66) X a)) 67 (upd (τ.2.2.1 67) X b)) 85 (upd (τ.2.2.1 85) sl (nI X))) 126 (nI (sl + 1))) (fun k hk => if_neg hk) rfl (fun k h1 h2 h3 => (if_neg h3).trans ((if_neg h2).trans (if_neg h1))) rfl
        exact ⟨f1, f2, f3, ⟨rfl, rfl⟩, fun k h1 h2 h3 => (if_neg h3).trans ((if_neg h2).trans (if_neg h1)), fun w => (by cases w), fun _ => ⟨rfl, rfl⟩⟩
  have e42 : ∀ f, (zA τ 66 f).2.2.1 42 = τ.2.2.1 42 := fun f => rfl
  unfold j_template_125 j_template_130
  by_cases h3 : τ.2.2.1 42 t1 = 3
  · rw [if_pos h3]
    simp only [zlet_at, e42, zgd_at zt, ct, h3, if_neg (show ¬ (3 : Int32) = 5 by decide)]
    exact core 1 0 (Or.inr rfl) (Or.inl rfl)
  · rw [if_neg h3, zgd_at zt]
    by_cases h5 : τ.2.2.1 42 t1 = 5
    · rw [if_pos h5]
      simp only [zlet_at, e42, zgd_at zt, ct, h5, if_true]
      exact core 1 1 (Or.inr rfl) (Or.inr rfl)
    · rw [if_neg h5]
      simp only [zlet_at, e42, zgd_at zt, ct, if_neg h5]
      have a1 : uLn (τ.2.2.1 42 t1) = false := by unfold uLn; simp [h3, h5]
      have a2 : (τ.2.2.1 42 t1 == 5) = false := by simp [h5]
      rw [a1, a2]
      exact core 0 0 (Or.inl rfl) (Or.inl rfl)
end RTM
section RTP
variable {ks : Nat → Nat} {qs : List Nat} {T h0 : Nat} {Γ : uGm} {g : gG} {ρ : Nat → tY}
theorem r_template (hT : 9010 ≤ T) : ∀ (y : tY) (c0 : Nat) (m : gTm) (w0 : Int32) (w q n : Nat) (v : Nat → Nat) (τ : zSt), rTf τ g ρ → c0 < g.n → ρ c0 = y → m.2.2.1 = y → m.2.2.2.1 = List.range' w q → (q = 0 ∨ (w0 = nI w ∧ w + q ≤ 2010 ∧ ∀ i, i < q → τ.2.2.1 32 (w + i) = nI (Γ.1 (.inl (w + i))))) → uVn τ v → uSr Γ τ m.2.2.2.2 → uQs Γ τ → mOk Γ y m (v 100) (v 98) → mSx y m ≤ 60 → (∀ k, k ∈ uCt → v k + tmC Γ y m k ≤ uLm k) → yDp y + 4 ≤ n → tmO Γ (zF h0 qs ks T n 76 [.ref h0, .int (nI c0), .int w0, .int (nI q)] τ) y m v τ
  | .leaf, c0, m, w0, w, q, n, v, τ, hR, hc, hρ, _, _, _, _, _, _, _, _, _, _ => by
    exfalso
    obtain ⟨-, h2, h3, -⟩ := hR
    rcases h3.at h2 hc with ⟨-, e, -⟩ | ⟨-, e⟩ <;> rw [hρ] at e <;> cases e
  | .inner k _ _ l r, c0, m, w0, w, q, n, v, τ, hR, hc, hρ, hm, hns, hw, hV, hS, hQ, hO, hX, hL, hn => by
    obtain ⟨n, rfl⟩ : ∃ n', n = n' + 3 := ⟨n - 3, by omega⟩
    have hR' := hR
    obtain ⟨⟨kk, h1⟩, h2, h3, -⟩ := hR'
    have hgn := h1.1.2
    obtain ⟨r1, r2, r3⟩ := h3.rt h2 hc
    have hsort := r_sort (h0 := h0) (qs := qs) (ks := ks) (n := n) hT hR r1
    rw [r2, hρ] at hsort
    have hql : q = m.2.2.2.1.length := by rw [hns, List.length_range']
    rw [show n + 3 = (n + 2) + 1 from rfl, zE_template]
    unfold b_template
    rw [show n + 2 = (n + 1) + 1 from rfl, r_real hT h1 h2.1 hc, zci_at, show n + 1 + 1 = n + 2 from rfl, hsort, zci_at]
    by_cases z : k = 0
    · subst z
      have eN : yNd (.inner 0 () () l r : tY) = yNd l + yNd r + 1 := rfl
      have eL : yLs (.inner 0 () () l r : tY) = yLs l + yLs r := rfl
      have eD : yDp (.inner 0 () () l r : tY) = max (yDp l) (yDp r) + 1 := rfl
      have eI : mIs Γ (.inner 0 () () l r) m = mIs Γ l (mTk m) + mIs Γ r (mAn m) := rfl
      have eX : mSx (.inner 0 () () l r) m = max (mSx l (mTk m)) (mSx r (mAn m)) := rfl
      have eZ : yFz (.inner 0 () () l r : tY) m.2.2.2.1.length = (if m.2.2.2.1.length = 0 then 1 else 0) + yFz l 0 + yFz r (m.2.2.2.1.length - 1) := rfl
      have nsA : (mAn m).2.2.2.1.length = m.2.2.2.1.length - 1 := by show m.2.2.2.1.tail.length = _; rw [List.length_tail]
      obtain ⟨⟨o1, o2, o3⟩, o4, o5⟩ := (show (_ ∧ _ ∧ _) from hO)
      rw [eD] at hn
      rw [eX] at hX
      have b75 : v 75 + (yNd l + yNd r + 1) ≤ 40000 := hL 75 (by decide)
      have b79 : v 79 + (yLs l + yLs r) ≤ 24000 := hL 79 (by decide)
      have b98 : v 98 + (yLs l + yLs r) ≤ 64 := hL 98 (by decide)
      have b99 : v 99 + (mIs Γ l (mTk m) + mIs Γ r (mAn m)) ≤ 8000 := hL 99 (by decide)
      have b100 : v 100 + ((if m.2.2.2.1.length = 0 then 1 else 0) + yFz l 0 + yFz r (m.2.2.2.1.length - 1)) ≤ 800 := hL 100 (by decide)
      rw [← hql] at b100 o4 o5 nsA
      obtain ⟨k1, ⟨l1, l2⟩, e⟩ : g.K (gR g c0) = 1 ∧ (g.L (gR g c0) < g.n ∧ g.R (gR g c0) < g.n) ∧ ρ (g.L (gR g c0)) = l ∧ ρ (g.R (gR g c0)) = r := by
        rcases h3.at h2 hc with ⟨k1, e, q1, q2⟩ | ⟨k1, e⟩
        · rw [hρ] at e
          injection e with _ _ _ e1 e2
          exact ⟨k1, ⟨q1, q2⟩, e1.symm, e2.symm⟩
        · rw [hρ] at e
          injection e with e
          omega
      obtain ⟨ρl, ρr⟩ := e
      have zg : zin (nI (gR g c0)) 9000 = true := zin_n (by omega) (by decide)
      have cg : (nI (gR g c0)).toNatClampNeg = gR g c0 := nI_clamp (by omega)
      have X1500 := o1.1
      -- the NAME's number
      have nm : (if (nI q : Int32) ≤ 0 then j_template_54 T (zF h0 qs ks T (n + 2)) h0 qs ks w0 (nI q) (nI (gR g c0)) (700 + τ.1 100) τ else zgd (zin w0 2010) (j_template_54 T (zF h0 qs ks T (n + 2)) h0 qs ks w0 (nI q) (nI (gR g c0)) (τ.2.2.1 32 w0.toNatClampNeg) τ)) = j_template_54 T (zF h0 qs ks T (n + 2)) h0 qs ks w0 (nI q) (nI (gR g c0)) (nI (Γ.1 (mPn m))) τ := by
        rcases Nat.eq_zero_or_pos q with hq0 | hq0
        · have ns0 : m.2.2.2.1 = [] := by rw [hns, hq0]; rfl
          rw [hq0, if_pos (by decide), o3 ns0, (hV 100 (by decide)).1, show (700 : Int32) = nI 700 from rfl, nI_add]
        · rcases hw with hw | ⟨hw1, hw2, hw3⟩
          · omega
          · have ep : mPn m = .inl w := by
              unfold mPn
              rw [hns]
              obtain ⟨q', rfl⟩ : ∃ q', q = q' + 1 := ⟨q - 1, by omega⟩
              rfl
            have h32 := hw3 0 hq0
            rw [Nat.add_zero] at h32
            rw [if_neg (show ¬ (nI q : Int32) ≤ 0 from nI_ge (a := 0) (b := q) hq0 (by omega)), hw1, zgd_at (zin_n (by omega) (by decide)), nI_clamp (by omega), h32, ep]
      -- the counter of those without a NAME
      obtain ⟨τ0, v0, j1, j2, j3, j4, j5, j6⟩ : ∃ τ0 v0, j_template_54 T (zF h0 qs ks T (n + 2)) h0 qs ks w0 (nI q) (nI (gR g c0)) (nI (Γ.1 (mPn m))) τ = j_template_70 T (zF h0 qs ks T (n + 2)) h0 qs ks w0 (nI q) (nI (gR g c0)) (nI (Γ.1 (mPn m))) τ0 ∧ uVn τ0 v0 ∧ uFr v τ τ0 ∧ uKe τ τ0 ∧ v0 100 = v 100 + (if q = 0 then 1 else 0) ∧ ∀ k, k ≠ 100 → v0 k = v k := by
        unfold j_template_54
        rcases Nat.eq_zero_or_pos q with hq0 | hq0
        · have b1 : v 100 + 1 ≤ 800 := by rw [hq0, if_pos rfl] at b100; omega
          refine ⟨zI τ 100 (nI (v 100 + 1)), uUp v 100, ?_, hV.up (by decide) rfl b1 (fun k _ hk => if_neg hk), ⟨fun k h1 h2 h3 => if_neg (fun e => h1 (by rw [e]; decide)), fun _ _ => rfl, fun _ _ _ _ => rfl, fun _ _ _ => rfl⟩, ⟨fun _ _ => rfl, rfl, rfl, rfl⟩, by rw [uUp_at, if_pos hq0], fun k hk => uUp_ne v hk⟩
          rw [hq0, if_pos (by decide), zlet_at, (hV 100 (by decide)).1, nI_p1]
        · refine ⟨τ, v, ?_, hV, uFr.rf v τ, uKe.rf τ, by rw [if_neg (by omega)]; rfl, fun _ _ => rfl⟩
          rw [if_neg (fun w => by
            have := nI_inj' (a := q) (b := 0) (by rcases hw with h | h <;> omega) (by decide) w
            omega)]
      have le0 : ∀ k, v k ≤ v0 k := fun k => by
        by_cases z : k = 100
        · subst z; rw [j5]; omega
        · rw [j6 k z]; exact Nat.le_refl _
      have R0 := hR.u j3
      obtain ⟨⟨kk0, g1⟩, -⟩ := R0
      have rw35 := ((g1.2.2 _ r1).2.1 k1)
      have S0 : uSr Γ τ0 m.2.2.2.2 := ⟨by rw [j4.2.1]; exact hS.1, hS.2.1, fun j x hx => by rw [j4.1 85 (by unfold uAy; omega)]; exact hS.2.2 j x hx⟩
      -- the parameter
      obtain ⟨t1, τ1, v1, a1, a2, a3, ⟨a4, a4'⟩, a5, a6, a7, a8, a9⟩ := r_template hT l (g.L (gR g c0)) (mTk m) (-1) 0 0 (n + 2) v0 τ0 (hR.u j3) l1 ρl (by show yL m.2.2.1 = l; rw [hm]; rfl) rfl (Or.inl rfl) j2 S0 (hQ.u j3) (by rw [j5, j6 98 (by decide)]; exact o4) (by omega) (fun k hk => by
        unfold tmC
        by_cases k1 : k = 75
        · subst k1; show v0 75 + yNd l ≤ 40000; rw [j6 75 (by decide)]; omega
        rw [if_neg k1]
        by_cases k2 : k = 79
        · subst k2; show v0 79 + yLs l ≤ 24000; rw [j6 79 (by decide)]; omega
        rw [if_neg k2]
        by_cases k3 : k = 98
        · subst k3; show v0 98 + yLs l ≤ 64; rw [j6 98 (by decide)]; omega
        rw [if_neg k3]
        by_cases k4 : k = 99
        · subst k4; show v0 99 + mIs Γ l (mTk m) ≤ 8000; rw [j6 99 (by decide)]; omega
        rw [if_neg k4]
        by_cases k5 : k = 100
        · subst k5; show v0 100 + yFz l 0 ≤ 800; rw [j5]; omega
        rw [if_neg k5]
        exact (j2 k hk).2) (by omega)
      have a4' : v1 100 = v0 100 + yFz l 0 := a4'
      have a7 : uSr Γ τ1 m.2.2.2.2 := a7
      have le1 : ∀ k, v0 k ≤ v1 k := fun k => (a3 k).1
      have d75 : v1 75 ≤ v0 75 + yNd l := (a3 75).2
      have d79 : v1 79 ≤ v0 79 + yLs l := (a3 79).2
      have d99 : v1 99 ≤ v0 99 + mIs Γ l (mTk m) := (a3 99).2
      have t75 : t1 < v1 75 := by
        cases l with
        | leaf => exact False.elim a9
        | inner k' _ _ l' r' => exact a9.1
      have hl' : ∃ k' l' r', l = .inner k' () () l' r' ∧ τ1.2.2.1 42 t1 = (if k' = 0 then 4 else nI (uK k')) ∧ k' ≤ 4 := by
        cases l with
        | leaf => exact False.elim a9
        | inner k' _ _ l' r' => exact ⟨k', l', r', rfl, (uTy.k a9).2⟩
      have ms : (τ1.2.2.1 42 t1 == 1 || τ1.2.2.1 42 t1 == 3 || τ1.2.2.1 42 t1 == 5) = gMs l := by
        obtain ⟨k', l', r', e1, e2, e3⟩ := hl'
        rw [e2, e1]
        have k5 : k' = 0 ∨ k' = 1 ∨ k' = 2 ∨ k' = 3 ∨ k' = 4 := by omega
        rcases k5 with rfl | rfl | rfl | rfl | rfl <;> rfl
      have sA : (mAn m).2.2.2.2 = if gMs l = true then m.2.2.2.2 ++ [mPn m] else m.2.2.2.2 := by show (if gMs (yL m.2.2.1) = true then _ else _) = _; rw [hm]; rfl
      have xA := mSx_ge r (mAn m)
      obtain ⟨τ2, m1, m2, m3, m4, ⟨m5, m5'⟩, m6, m7, m8⟩ := r_tmid (h0 := h0) (qs := qs) (ks := ks) (T := T) (n := n + 1) (X := Γ.1 (mPn m)) (t1 := t1) (gr := gR g c0) (sl := m.2.2.2.2.length) (w0 := w0) (q := nI q) a2 (by omega) t75 a7.1 (fun w => by
        rw [ms] at w
        rw [sA, if_pos w, List.length_append] at xA
        simp only [List.length_cons, List.length_nil] at xA
        omega)
      rw [ms] at m1 m7 m8
      obtain ⟨i1, i2⟩ := uIk.kn (τ' := τ2) o1 o2 hl' m5 m5'
      have S2 : uSr Γ τ2 (mAn m).2.2.2.2 := by
        by_cases hm' : gMs l = true
        · obtain ⟨u1, u2⟩ := m8 hm'
          rw [sA, if_pos hm']
          rw [sA, if_pos hm', List.length_append] at xA
          simp only [List.length_cons, List.length_nil] at xA
          refine ⟨by rw [List.length_append]; exact u1, by rw [List.length_append]; simp only [List.length_cons, List.length_nil]; omega, fun j x hx => ?_⟩
          rw [u2]
          rcases get_ap hx with ⟨rfl, rfl⟩ | ⟨hj, hx⟩
          · exact if_pos rfl
          · exact (if_neg (by omega)).trans (a7.2.2 j x hx)
        · obtain ⟨u1, u2⟩ := m7 (by simpa using hm')
          rw [sA, if_neg hm']
          exact ⟨u1, a7.2.1, fun j x hx => by rw [u2]; exact a7.2.2 j x hx⟩
      have fr1 : uFr v τ τ1 := j3.tr a5 le0
      have fr2 : uFr v τ τ2 := fr1.tr (m3.mo (fun k => Nat.le_trans (le0 k) (le1 k))) (fun _ => Nat.le_refl _)
      obtain ⟨⟨kk2, g2⟩, -⟩ := hR.u fr2
      have rw36 := ((g2.2.2 _ r1).2.1 k1).2
      -- the answer
      have hq1 : (if (nI q : Int32) ≤ 0 then (0 : Int32) else nI q - 1) = nI (q - 1) := by
        rcases Nat.eq_zero_or_pos q with hq0 | hq0
        · rw [hq0, if_pos (by decide)]; rfl
        · rw [if_neg (show ¬ (nI q : Int32) ≤ 0 from nI_ge (a := 0) (b := q) hq0 (by rcases hw with h | h <;> omega)), show (1 : Int32) = nI 1 from rfl]
          obtain ⟨q', rfl⟩ : ∃ q', q = 1 + q' := ⟨q - 1, by omega⟩
          rw [nI_sub, show 1 + q' - 1 = q' by omega]
      obtain ⟨t2, τ3, v3, c1, c2, c3, ⟨c4, c4'⟩, c5, c6, c7, c8, c9⟩ := r_template hT r (g.R (gR g c0)) (mAn m) (w0 + 1) (w + 1) (q - 1) (n + 2) v1 τ2 (hR.u fr2) l2 ρr (by show yR m.2.2.1 = r; rw [hm]; rfl) (by show m.2.2.2.1.tail = _; rw [hns]; cases q with | zero => rfl | succ q => rfl) (by
        rcases hw with hw | ⟨hw1, hw2, hw3⟩
        · exact Or.inl (by omega)
        · by_cases hq1 : q ≤ 1
          · exact Or.inl (by omega)
          · refine Or.inr ⟨by rw [hw1, nI_p1], by omega, fun i hi => ?_⟩
            rw [fr2.n (k := 32) (by unfold uAy; omega) rfl]
            have := hw3 (i + 1) (by omega)
            rw [show w + (i + 1) = w + 1 + i by omega] at this
            exact this) m2 S2 (hQ.u fr2) (by rw [a4', a4, j5, j6 98 (by decide)]; exact o5) (by omega) (fun k hk => by
        unfold tmC
        by_cases k1 : k = 75
        · subst k1; show v1 75 + yNd r ≤ 40000; have := j6 75 (by decide); omega
        rw [if_neg k1]
        by_cases k2 : k = 79
        · subst k2; show v1 79 + yLs r ≤ 24000; have := j6 79 (by decide); omega
        rw [if_neg k2]
        by_cases k3 : k = 98
        · subst k3; show v1 98 + yLs r ≤ 64; have := j6 98 (by decide); omega
        rw [if_neg k3]
        by_cases k4 : k = 99
        · subst k4; show v1 99 + mIs Γ r (mAn m) ≤ 8000; have := j6 99 (by decide); omega
        rw [if_neg k4]
        by_cases k5 : k = 100
        · subst k5; show v1 100 + yFz r (mAn m).2.2.2.1.length ≤ 800; rw [nsA]; omega
        rw [if_neg k5]
        exact (m2 k hk).2) (by omega)
      rw [nsA] at c4'
      have le3 : ∀ k, v1 k ≤ v3 k := fun k => (c3 k).1
      have f75 : v3 75 ≤ v1 75 + yNd r := (c3 75).2
      have f79 : v3 79 ≤ v1 79 + yLs r := (c3 79).2
      have f99 : v3 99 ≤ v1 99 + mIs Γ r (mAn m) := (c3 99).2
      have le03 : ∀ k, v k ≤ v3 k := fun k => Nat.le_trans (Nat.le_trans (le0 k) (le1 k)) (le3 k)
      -- behind it
      obtain ⟨τ4, p1, p2, p3, p4, p5, p6⟩ : ∃ τ4, (if b01 (gMs l) = 0 then j_template_222 T (zF h0 qs ks T (n + 2)) h0 qs ks (nI (Γ.1 (mPn m))) (nI t1) (nI t2) τ3 else zlet (zI τ3 126 (τ3.1 126 - 1)) fun s5 => j_template_222 T (zF h0 qs ks T (n + 2)) h0 qs ks (nI (Γ.1 (mPn m))) (nI t1) (nI t2) s5) = j_template_222 T (zF h0 qs ks T (n + 2)) h0 qs ks (nI (Γ.1 (mPn m))) (nI t1) (nI t2) τ4 ∧ uVn τ4 v3 ∧ uFr v3 τ3 τ4 ∧ uKt τ3 τ4 ∧ τ4.2 = τ3.2 ∧ uSr Γ τ4 m.2.2.2.2 := by
        by_cases hm' : gMs l = true
        · rw [sA, if_pos hm'] at c7
          have c126 : τ3.1 126 - 1 = nI m.2.2.2.2.length := by
            rw [c7.1, List.length_append, show m.2.2.2.2.length + [mPn m].length = 1 + m.2.2.2.2.length from Nat.add_comm _ _, show (1 : Int32) = nI 1 from rfl, nI_sub]
          refine ⟨zI τ3 126 (nI m.2.2.2.2.length), by rw [hm', if_neg (by decide), zlet_at, c126], fun k hk => ?_, ⟨fun k _ _ h => if_neg h, fun _ _ => rfl, fun _ _ _ _ => rfl, fun _ _ _ => rfl⟩, ⟨fun _ _ => rfl, rfl, rfl⟩, rfl, rfl, hS.2.1, fun j x hx => ?_⟩
          · have : k ≠ 126 := fun e => by subst e; exact absurd hk (by decide)
            show (if k = 126 then _ else τ3.1 k) = _ ∧ _
            rw [if_neg this]; exact c2 k hk
          · exact c7.2.2 j x (by rw [List.getElem?_append_left (List.getElem?_eq_some_iff.mp hx).1]; exact hx)
        · rw [sA, if_neg hm'] at c7
          have hm'' : gMs l = false := by simpa using hm'
          exact ⟨τ3, by rw [hm'', if_pos (by decide)], c2, uFr.rf _ _, uKt.rf _, rfl, c7⟩
      obtain ⟨τ5, d1, d2, d3, ⟨d4, d5, d6, d7, d8⟩, d9⟩ := r_rich (h0 := h0) (qs := qs) (ks := ks) (T := T) (n := n + 1) (x1 := 4) (x2 := -1) (x3 := nI (Γ.1 (mPn m))) (x4 := nI t1) (x5 := nI t2) p2 (by have := j6 75 (by decide); omega)
      have k5 : uKe τ4 τ5 := ⟨d9.1, d9.2.1, d9.2.2.1, d9.2.2.2⟩
      have fr25 : uFr v1 τ2 τ5 := (c5.tr p3 le3).tr (d3.mo le3) (fun _ => Nat.le_refl _)
      have fr5 : uFr v τ τ5 := fr2.tr (fr25.mo (fun k => Nat.le_trans (le0 k) (le1 k))) (fun _ => Nat.le_refl _)
      have k35 : ∀ x, uNm Γ x → uIs Γ τ3 x → uIs Γ τ5 x := fun x hx hs => k5.ik.2 x hx (by unfold uIs at hs ⊢; rw [p5]; exact hs)
      rw [if_neg (show ¬ rKd (yK (.inner 0 () () l r : tY)) = 2 by show ¬ (4 : Int32) = 2; decide), if_pos (show rKd (yK (.inner 0 () () l r : tY)) = 4 from rfl), nm, j1]
      refine ⟨v3 75, τ5, uUp v3 75, ?_, d2, fun k => ?_, ⟨?_, ?_⟩, fr5, ((((j4.t.tr a6).tr m4).tr c6).tr p4).tr k5.t, ⟨by rw [k5.2.1]; exact p6.1, p6.2.1, fun j x hx => by rw [k5.1 85 (by unfold uAy; omega)]; exact p6.2.2 j x hx⟩, ⟨((((j4.ik).tr a8.1).tr i1).tr c8.1).tr ⟨k5.ik (Γ := Γ) |>.1 |>.trans (by rw [p5]), k35⟩, fun x hx h1 h2 => ?_⟩, ?_⟩
      · unfold j_template_70
        rw [zgd_at zg, cg, rw35.1]
        have a1 : zF h0 qs ks T (n + 2) 76 [.ref h0, .int (nI (g.L (gR g c0))), .int (-1), .int 0] τ0 = _ := a1
        rw [a1, zci_at]
        refine Eq.trans m1 ?_
        unfold j_template_180
        rw [zgd_at zg, cg, rw36]
        have e202 : ∀ x : Int32, x = nI (q - 1) → j_template_202 T (zF h0 qs ks T (n + 2)) h0 qs ks (nI (Γ.1 (mPn m))) (nI t1) (b01 (gMs l)) (nI (g.R (gR g c0))) (w0 + 1) x τ2 = some (some (.int (nI (v3 75))), τ5) := fun x hx => by
          unfold j_template_202
          rw [hx, c1, zci_at]
          refine Eq.trans p1 ?_
          unfold j_template_222
          rw [d1, zci_at]
        by_cases zq : (nI q : Int32) ≤ 0
        · rw [if_pos zq]
          rw [if_pos zq] at hq1
          exact e202 0 hq1
        · rw [if_neg zq]
          rw [if_neg zq] at hq1
          exact e202 _ hq1
      · have w1 := a3 k
        have w2 := c3 k
        have w0' := le0 k
        have hj : k ≠ 100 → v0 k = v k := j6 k
        unfold tmC uUp at *
        rw [eN, eL, eI, eZ]
        rw [nsA] at w2
        rw [← hql]
        by_cases k1 : k = 75
        · subst k1; simp at w1 w2 hj ⊢; omega
        by_cases k2 : k = 79
        · subst k2; simp at w1 w2 hj ⊢; omega
        by_cases k3 : k = 98
        · subst k3; simp at w1 w2 hj ⊢; omega
        by_cases k4 : k = 99
        · subst k4; simp at w1 w2 hj ⊢; omega
        by_cases k5 : k = 100
        · subst k5; simp at w1 w2 ⊢; omega
        simp only [if_neg k1, if_neg k2, if_neg k3, if_neg k4, if_neg k5] at w1 w2 ⊢
        have := hj k5
        omega
      · rw [uUp_ne v3 (by decide), c4, a4, j6 98 (by decide), eL]; omega
      · rw [uUp_ne v3 (by decide), c4', a4', j5, eZ, ← hql]; omega
      · have h2 : Γ.1 x < 700 + v3 100 := h2
        by_cases w0' : Γ.1 x < 700 + v0 100
        · have hq0 : q = 0 := by
            rw [j5] at w0'
            split at w0'
            · assumption
            · omega
          have ns0 : m.2.2.2.1 = [] := by rw [hns, hq0]; rfl
          rw [j5, if_pos hq0] at w0'
          have en : Γ.1 x = Γ.1 (mPn m) := by rw [o3 ns0]; omega
          have ex : x = mPn m := by
            have := hx.2
            rw [en, o1.2] at this
            exact this.symm
          rw [ex]
          exact k35 _ o1 (c8.1.2 _ o1 i2)
        · by_cases w1' : Γ.1 x < 700 + v1 100
          · exact k35 x hx (c8.1.2 x hx (i1.2 x hx (a8.2 x hx (by omega) w1')))
          · exact k35 x hx (c8.2 x hx (by omega) h2)
      · refine ⟨by rw [uUp_at]; omega, hm, ?_⟩
        rw [if_pos rfl]
        have le5 : ∀ k, v3 k ≤ uUp v3 75 k := uUp_le v3 75
        refine ⟨d4, ⟨m, rfl⟩, ⟨d6, o1, o2⟩, t1, t2, d7, d8, ?_, ?_⟩
        · exact uTy.up (fun k => Nat.le_trans (le3 k) (le5 k)) ((m3.tr fr25 (fun _ => Nat.le_refl _))) l t1 _ a9
        · exact uTy.up le5 (p3.tr d3 (fun _ => Nat.le_refl _)) r t2 _ c9
    · have hkk : k ≤ 4 := by
        rcases h3.at h2 hc with ⟨-, e, -⟩ | ⟨k1, e⟩
        · rw [hρ] at e
          injection e with e
          exact absurd e z
        · rw [hρ] at e
          injection e with e
          have := ((h1.2.2 _ r1).1).1
          omega
      have eK : yK (.inner k () () l r : tY) = k + 1 := rfl
      by_cases z2 : k = 2
      · subst z2
        have b75 : v 75 + 1 ≤ 40000 := hL 75 (by decide)
        obtain ⟨τ1, d1, d2, d3, ⟨d4, d5, d6, d7, d8⟩, d9⟩ := r_rich (h0 := h0) (qs := qs) (ks := ks) (T := T) (n := n) (x1 := 2) (x2 := -1) (x3 := -1) (x4 := -1) (x5 := -1) hV (by omega)
        have k1 : uKe τ τ1 := ⟨d9.1, d9.2.1, d9.2.2.1, d9.2.2.2⟩
        refine ⟨v 75, τ1, uUp v 75, ?_, d2, fun k => ?_, ⟨by rw [uUp_ne v (by decide)]; rfl, by rw [uUp_ne v (by decide)]; rfl⟩, d3, k1.t, ⟨by rw [k1.2.1]; exact hS.1, hS.2.1, fun j x hx => by rw [k1.1 85 (by unfold uAy; omega)]; exact hS.2.2 j x hx⟩, ⟨k1.ik, fun x _ h1 h2 => by have h2 : Γ.1 x < 700 + v 100 := h2; omega⟩, by rw [uUp_at]; omega, hm, ?_⟩
        · rw [if_pos (show rKd (yK (.inner 2 () () l r : tY)) = 2 from rfl)]
          rw [zE_plainType]
          unfold b_plainType j_plainType_20
          rw [r_isSaid, zci_at, if_pos (by decide), d1, zci_at, zci_at]
        · have := (uGe.up v 75) k
          refine ⟨this.1, Nat.le_trans this.2 (Nat.add_le_add_left ?_ _)⟩
          unfold uUp tmC
          by_cases w : k = 75
          · subst w; rw [if_pos rfl, if_pos rfl]; exact Nat.le_refl 1
          · rw [if_neg w]; exact Nat.zero_le _
        · rw [if_neg (by decide)]
          exact ⟨by decide, d4, fun w => absurd rfl w⟩
      · have k3 : k = 1 ∨ k = 3 ∨ k = 4 := by omega
        have eS : rKd (yK (.inner k () () l r : tY)) = nI (uK k) := by rcases k3 with rfl | rfl | rfl <;> rfl
        have eL : yLs (.inner k () () l r : tY) = 1 := by show (if k = 0 then _ else if k = 2 then 0 else 1) = 1; rw [if_neg z, if_neg z2]
        have eN : yNd (.inner k () () l r : tY) = 1 := if_neg z
        have eI : mIs Γ (.inner k () () l r) m = (gIn Γ.2.2.1 Γ.2.2.2.1 m.2.2.1 m.2.2.2.2).length := by show (if k = 0 then _ else if k = 2 then 0 else _) = _; rw [if_neg z, if_neg z2]
        have eZ : yFz (.inner k () () l r : tY) m.2.2.2.1.length = 0 := if_neg z
        have b75 : v 75 + yNd (.inner k () () l r : tY) ≤ 40000 := hL 75 (by decide)
        have b79 : v 79 + yLs (.inner k () () l r : tY) ≤ 24000 := hL 79 (by decide)
        have b98 : v 98 + yLs (.inner k () () l r : tY) ≤ 64 := hL 98 (by decide)
        have b99 : v 99 + mIs Γ (.inner k () () l r) m ≤ 8000 := hL 99 (by decide)
        rw [eN] at b75
        rw [eL] at b79 b98
        rw [eI] at b99
        have hO' : Γ.2.1 (m.1, m.2.1) = v 98 := by
          have : if k = 0 then _ else (k ≠ 2 → Γ.2.1 (m.1, m.2.1) = v 98) := hO
          rw [if_neg z] at this
          exact this z2
        rw [eS, if_neg (by rcases k3 with rfl | rfl | rfl <;> decide), if_neg (by rcases k3 with rfl | rfl | rfl <;> decide)]
        obtain ⟨τ1, a1, a2, a3, a4, a5⟩ := r_tleaf (h0 := h0) (qs := qs) (ks := ks) (T := T) (n := n + 1) (m := m) (by omega) k3 hm hO' hV hS hQ (by omega) b99 (by omega) (by omega)
        refine ⟨v 75, τ1, _, a1, a2, fun k' => ⟨uLf_le v _ k', ?_⟩, ⟨?_, ?_⟩, a3, a4.t, ⟨by rw [a4.2.1]; exact hS.1, hS.2.1, fun j x hx => by rw [a4.1 85 (by unfold uAy; omega)]; exact hS.2.2 j x hx⟩, ⟨a4.ik, fun x _ h1 h2 => by have h2 : Γ.1 x < 700 + v 100 := h2; omega⟩, by
          have h := a5
          generalize (gIn Γ.2.2.1 Γ.2.2.2.1 m.2.2.1 m.2.2.2.2).length = gl at h ⊢
          rw [hm] at h
          exact h⟩
        · unfold uLf tmC
          rw [eN, eL, eI]
          repeat' split
          all_goals omega
        · rw [eL]; rfl
        · rw [eZ]; rfl
end RTP
