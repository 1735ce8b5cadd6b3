/-! the reference: ofName(), isSum(), types of an S -/
/-- numbers of NAMES are what the reference counts -/
def uNu (Γ : uGm) (V : zSt) (L : List Nat) : Prop := ∀ u, u ∈ L → Γ.1 (.inl u) = nuO (V.2.2.1 32) u ∧ Γ.1 (.inl u) < 700
section USU
variable {ks : Nat → Nat} {qs : List Nat} {T n h0 len cnt S P : Nat} {L env : List Nat} {kk pp ee f : Nat → Int32} {Γ : uGm} {v : Nat → Nat} {V τ : zSt}
theorem uTy.ms {y : tY} {t : Nat} {A : gTy} (h : uTy Γ v τ y t A) : t < v 75 ∧ (τ.2.2.1 42 t == 1 || τ.2.2.1 42 t == 3 || τ.2.2.1 42 t == 5) = gMs y ∧ gSy A = y := by
  match y, h with
  | .leaf, h => exact False.elim h
  | .inner k _ _ l r, h =>
    obtain ⟨a1, a2, a3⟩ := h.k
    refine ⟨a1, ?_, h.2.1⟩
    rw [a2]
    have k5 : k = 0 ∨ k = 1 ∨ k = 2 ∨ k = 3 ∨ k = 4 := by omega
    rcases k5 with rfl | rfl | rfl | rfl | rfl <;> rfl
theorem gMs_k {k : Nat} {l r : tY} (h : gMs (.inner k () () l r) = true) : k = 1 ∨ k = 3 ∨ k = 4 := by
  have h : (k + 1 == 2 || k + 1 == 4 || k + 1 == 5) = true := h
  simp only [Bool.or_eq_true, beq_iff_eq] at h
  omega
/-- ofName() -/
theorem r_ofName {u t : Nat} {y : tY} {X : gTy} (hV : uVn τ v) (hu : Γ.1 (.inl u) < 700) (h74 : τ.2.2.1 74 (Γ.1 (.inl u)) = nI t) (hX : uTy Γ v τ y t X) (h75 : v 75 < 40000) (h79 : v 79 < 24000) (h85 : v 85 < 12000) : ∃ t' τ' c, zF h0 qs ks T (n + 2) 80 [.ref h0, .int (nI (Γ.1 (.inl u)))] τ = some (some (.int (nI t')), τ') ∧ c ≤ 1 ∧ uVn τ' (uAd v c c c 0) ∧ uFr v τ τ' ∧ uKe τ τ' ∧ uTy Γ (uAd v c c c 0) τ' y t' (if gMs (gSy X) = true then gEq (gSy X) (some (.inl u, 1), 0) else X) := by
  obtain ⟨m1, m2, m3⟩ := hX.ms
  have tl : t < 40000 := by have := (hV 75 (by decide)).2; show t < 40000; have e : uLm 75 = 40000 := rfl; omega
  have zt : zin (nI t) 40000 = true := zin_n tl (by decide)
  have ct : (nI t).toNatClampNeg = t := nI_clamp (by omega)
  rw [zE_ofName]
  unfold b_ofName
  rw [zgd_at (zin_n hu (by decide)), nI_clamp (by omega), h74, zgd_at zt, ct, r_isSaid, zci_at, m2, m3]
  by_cases c : gMs y = true
  · match y, hX, c with
    | .leaf, hX, _ => exact False.elim hX
    | .inner k _ _ l r, hX, c =>
      have hk := gMs_k c
      obtain ⟨a1, a2, a3⟩ := hX.k
      rw [c, if_neg (show ¬ b01 true = 0 by decide), zgd_at zt, a2, if_neg (by omega), if_pos rfl]
      obtain ⟨τ1, τ2, τ3, b1, b2, b3, b4, b5, b6, b7⟩ := r_eq1 (h0 := h0) (qs := qs) (ks := ks) (T := T) (n := n) (Γ := Γ) (te := (some (.inl u, 1), 0)) (l := l) (r := r) hk hV h75 h79 h85
      have b1 : zF h0 qs ks T (n + 1) 69 [.ref h0, .int 0, .int (nI (Γ.1 (.inl u))), .int 1, .long 0, .int (-1)] τ = _ := b1
      rw [b1, zci_at, b2, zci_at, b3, zci_at]
      exact ⟨v 75, τ3, 1, rfl, Nat.le_refl _, b4, b5, b6, b7⟩
  · have c' : gMs y = false := by simpa using c
    rw [c', if_pos (show b01 false = 0 from rfl), if_neg (by simp)]
    exact ⟨t, τ, 0, rfl, Nat.zero_le _, by rw [uAd_0]; exact hV, uFr.rf _ _, uKe.rf _, by rw [uAd_0]; exact hX⟩
/-- the term of an S, as its line says it -/
theorem uTe_of {ps : List tP} {M : List (Nat × Int32)} (hM : M = sL (nFind f pp ee env) ps) (hΓ : ∀ q, q ∈ M → Γ.1 (.inl q.1) = nuO (V.2.2.1 32) q.1) (h : rLn τ (rMp (nuO (V.2.2.1 32)) M)) (h64 : τ.2.1 64 = sPl T f pp ee ps) : (M = [] → τ.1 63 = 0 ∧ uTe Γ (gOf T f pp ee env ps) = (-1, 0, τ.2.1 64)) ∧ (M ≠ [] → M.length < 2 ^ 31 → ¬ τ.1 63 = 0 ∧ uTe Γ (gOf T f pp ee env ps) = (τ.2.2.1 40 0, τ.2.2.1 41 0, τ.2.1 64)) := by
  subst hM
  unfold gOf uTe
  rw [h64, ← Int64.ofInt_toInt (sPl T f pp ee ps)]
  refine ⟨fun e => ?_, fun e hl => ?_⟩
  · rw [e] at h ⊢
    exact ⟨h.1, by simp⟩
  · generalize sL (nFind f pp ee env) ps = M at *
    match M, e, hl, h, hΓ with
    | [], e, _, _, _ => exact absurd rfl e
    | q :: M', e, hl, h, hΓ =>
      obtain ⟨h1, h2⟩ := h
      obtain ⟨a1, a2⟩ := h2 0 (nuO (V.2.2.1 32) q.1, q.2) (by rw [rMp_at]; rfl)
      refine ⟨fun z => ?_, ?_⟩
      · rw [h1, rMp_len] at z
        have := nI_inj' (b := 0) hl (by decide) z
        simp at this
      · rw [a1, a2, ← hΓ q (List.mem_cons_self ..)]
        simp
/-- what of the class's an S is needed -/
def uSg (T cnt : Nat) (f pp ee : Nat → Int32) (R : Nat → Int32) (L env : List Nat) (ps : List tP) : Prop := pOk cnt ps ∧ sGd cnt ps ∧ rWs f pp ee R L env (sEv ps) ∧ sNw T f pp ee ps
theorem sL_env {ps : List tP} : (∀ q, q ∈ sL (nFind f pp ee env) ps → q.1 ∈ env) ∧ (env.length ≤ 12 → (sL (nFind f pp ee env) ps).length ≤ 12) := by
  have h1 : sNi (sL (nFind f pp ee env) ps) := by rw [sL_eq]; exact sLs.ni _ _ sNi.nil
  have h2 : rIn (· ∈ env) (sL (nFind f pp ee env) ps) := by
    rw [sL_eq]
    exact sLs.in (fun w u e => by
      obtain ⟨j, -, ej⟩ := nFind_mem e
      exact List.mem_of_getElem? ej) _ _ (fun q hq => by cases hq)
  exact ⟨fun q hq => h2 q hq, fun he => by have := h1.len h2; omega⟩
set_option maxHeartbeats 1000000 in
/-- isSum(), said(), rich(): int, array or list with v = S, if S is a term -/
theorem r_su1 {x k : Nat} {t : tS} {l r : tY} (H : rLh T len cnt S P L env V kk pp ee f) (fm : uTf V τ) (hΓ : uNu Γ V L) (hg : uSg T cnt f pp ee (V.2.2.1 32) L env t.2) (hs : rSm pp V S P x t) (hk : k = 1 ∨ k = 3 ∨ k = 4) (hV : uVn τ v) (h75 : v 75 < 40000) (h79 : v 79 < 24000) (h85 : v 85 < 12000) : ∃ τ1 r1 τ2 τ3 c, zF h0 qs ks T (n + 4) 70 [.ref h0, .int (nI x)] τ = some (some (.int r1), τ1) ∧ zF h0 qs ks T (n + 4) 68 [.ref h0, .int (-1), .int r1, .int (-1)] τ1 = some (some (.int (nI (v 79))), τ2) ∧ zF h0 qs ks T (n + 4) 67 [.ref h0, .int (nI (uK k)), .int (nI (v 79)), .int (-1), .int (-1), .int (-1)] τ2 = some (some (.int (nI (v 75))), τ3) ∧ c ≤ 1 ∧ uVn τ3 (uAd v 1 1 c 0) ∧ uFr v τ τ3 ∧ uKr Γ τ τ3 ∧ uTy Γ (uAd v 1 1 c 0) τ3 (.inner k () () l r) (v 75) (if gTs f pp ee env t.2 = true then gEq (.inner k () () l r) (gOf T f pp ee env t.2) else gPl (.inner k () () l r)) := by
  obtain ⟨g1, g2, g3, g4⟩ := hg
  have e32 : τ.2.2.1 32 = V.2.2.1 32 := fm.2.2 32 (by decide)
  obtain ⟨τ0, a1, a2, a3, a4⟩ := r_isTerm (h0 := h0) (qs := qs) (ks := ks) (n := n) (H.ku fm) (gFm.rf τ) g1 g2 (by rw [e32]; exact g3) (fm.sm hs)
  rw [e32] at a2
  rw [nLs_s g4] at a4
  have V0 := a3.vn hV
  have he := H.2.2.2.2
  obtain ⟨w1, w2⟩ := uTe_of (Γ := Γ) (T := T) (f := f) (pp := pp) (ee := ee) (env := env) (ps := t.2) (V := V) (τ := τ0) rfl (fun q hq => (hΓ _ (H.2.2.2.1 _ (sL_env.1 q hq))).1) a2 a4
  have w3 := sL_env (f := f) (pp := pp) (ee := ee) (env := env) (ps := t.2).2 he
  by_cases c : gTs f pp ee env t.2 = true
  · have c' : sTe (sL (nFind f pp ee env) t.2) = true := c
    rw [c'] at a1
    obtain ⟨τ1, τ2, τ3, b1, b2, b3, b4, b5, b6, b7⟩ := r_eq1 (h0 := h0) (qs := qs) (ks := ks) (T := T) (n := n + 3) (Γ := Γ) (te := gOf T f pp ee env t.2) (l := l) (r := r) hk V0 h75 h79 h85
    obtain ⟨τ1', -, -, b1', -⟩ := r_eq1 (h0 := h0) (qs := qs) (ks := ks) (T := T) (n := n + 2) (Γ := Γ) (te := gOf T f pp ee env t.2) (l := l) (r := r) hk V0 h75 h79 h85
    have b1z : zF h0 qs ks T (n + 3) 69 [.ref h0, .int 0, .int (uTe Γ (gOf T f pp ee env t.2)).1, .int (uTe Γ (gOf T f pp ee env t.2)).2.1, .long (uTe Γ (gOf T f pp ee env t.2)).2.2, .int (-1)] τ0 = some (some (.int (nI (v 85))), τ1) := by
      rw [← b1]
      show zF h0 qs ks T (n + 2 + 1) 69 _ τ0 = zF h0 qs ks T (n + 3 + 1) 69 _ τ0
      rw [zE_fact, zE_fact]
      rfl
    refine ⟨τ1, nI (v 85), τ2, τ3, 1, ?_, b2, b3, Nat.le_refl _, b4, (a3.fr v).tr b5 (fun _ => Nat.le_refl _), a3.kr.tr b6.kr, by rw [if_pos c]; exact b7⟩
    rw [show n + 4 = (n + 3) + 1 from rfl, zE_isSum]
    unfold b_isSum
    rw [a1, zci_at, if_neg (show ¬ b01 true = 0 by decide)]
    by_cases e : sL (nFind f pp ee env) t.2 = []
    · obtain ⟨x1, x2⟩ := w1 e
      rw [x2] at b1z
      rw [if_pos x1, b1z, zci_at]
    · obtain ⟨x1, x2⟩ := w2 e (by omega)
      rw [x2] at b1z
      rw [if_neg x1, zgd_at (by decide), zgd_at (by decide), show ((0 : Int32)).toNatClampNeg = 0 from rfl, b1z, zci_at]
  · have c' : sTe (sL (nFind f pp ee env) t.2) = false := by
      have : gTs f pp ee env t.2 = false := by simpa using c
      exact this
    rw [c'] at a1
    obtain ⟨τ2, τ3, b2, b3, b4, b5, b6, b7⟩ := r_pl1 (h0 := h0) (qs := qs) (ks := ks) (T := T) (n := n + 3) (Γ := Γ) (l := l) (r := r) hk V0 h75 h79
    refine ⟨τ0, -1, τ2, τ3, 0, ?_, b2, b3, Nat.zero_le _, b4, (a3.fr v).tr b5 (fun _ => Nat.le_refl _), a3.kr.tr b6.kr, by rw [if_neg c]; exact b7⟩
    rw [show n + 4 = (n + 3) + 1 from rfl, zE_isSum]
    unfold b_isSum
    rw [a1, zci_at, if_pos (show b01 false = 0 from rfl)]
end USU
