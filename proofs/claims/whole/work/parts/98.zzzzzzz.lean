/-! the reference's types found: sort, leaves, wants -/
/-- the reference's types, found: ρ the type of each cell -/
def rTf (V : zSt) (g : gG) (ρ : Nat → tY) : Prop := (∃ k, rG V g k) ∧ gK g ∧ gCo g ρ ∧ ∀ x, x < g.n → yH (ρ x) ≤ 1601
/-- CASES so far, and the least place -/
def fQ (τ : zSt) (q : Nat × Int32) : Prop := τ.1 65 = nI q.1 ∧ τ.1 52 = q.2 ∧ q.1 ≤ 61
section RTFS
variable {ks : Nat → Nat} {qs : List Nat} {T h0 : Nat} {V τ : zSt} {g : gG} {ρ : Nat → tY}
theorem rG.f {k : Nat} (h : rG V g k) (fm : fFm V τ) : rG τ g k := by
  obtain ⟨⟨h1, h2⟩, ⟨h3, h4⟩, h5⟩ := h
  have e : ∀ k, 34 ≤ k → k ≤ 38 → τ.2.2.1 k = V.2.2.1 k := fun k a b => fm.2.2.1 k (by omega) (by omega)
  refine ⟨⟨(fm.1 59 (by decide) (by decide) (by decide)).trans h1, h2⟩, ⟨(fm.1 60 (by decide) (by decide) (by decide)).trans h3, h4⟩, fun t ht => ?_⟩
  rw [e 34 (by decide) (by decide), e 35 (by decide) (by decide), e 36 (by decide) (by decide), e 37 (by decide) (by decide), e 38 (by decide) (by decide)]
  exact h5 t ht
theorem rTf.f (h : rTf V g ρ) (fm : fFm V τ) : rTf τ g ρ := by
  obtain ⟨⟨k, h1⟩, h2⟩ := h
  exact ⟨⟨k, h1.f fm⟩, h2⟩
theorem gCo.rt (hK : gK g) (h : gCo g ρ) {c : Nat} (hc : c < g.n) : gR g c < g.n ∧ ρ (gR g c) = ρ c ∧ gR g (gR g c) = gR g c := by
  have h1 := gR_lt hK.1 hc
  refine ⟨h1, gR_eq hK.1 hc h.1, ?_⟩
  have h2 := gR_root hK.1 hc
  have e : ∀ k, gRt g.S k (gR g c) = gR g c := fun k => by
    cases k with
    | zero => rfl
    | succ k => show (if g.S (gR g c) = gR g c then gR g c else _) = _; rw [if_pos h2]
  exact e g.n
theorem r_sort {n c : Nat} (hT : 9010 ≤ T) (h : rTf τ g ρ) (hc : c < g.n) : zF h0 qs ks T (n + 2) 52 [.ref h0, .int (nI c)] τ = some (some (.int (rKd (yK (ρ c)))), τ) := by
  obtain ⟨⟨k, h1⟩, h2, h3, -⟩ := h
  have hg := h1.1.2
  obtain ⟨r1, r2, -⟩ := h3.rt h2 hc
  rw [show n + 2 = (n + 1) + 1 from rfl, zE_sort]
  unfold b_sort
  rw [r_real hT h1 h2.1 hc]
  obtain ⟨⟨k5, e⟩, -⟩ := h1.2.2 _ r1
  rw [h3.k h2 hc]
  simp only [zci_at, zgd, zin_n (show gR g c < 9000 by omega) (by decide), if_true, nI_clamp (show gR g c < 2 ^ 31 by omega), e]
  have d : ∀ a, a ≤ 5 → (if rKd a = 0 then some (some (Value.int 1), τ) else some (some (Value.int (rKd a)), τ) : zRs) = some (some (.int (rKd (if a = 0 then 2 else a))), τ) := fun a ha => by
    by_cases c0 : a = 0
    · subst c0; rfl
    · rw [if_neg c0, if_neg (fun z => c0 (rKd_inj ha (Nat.zero_le 5) (z.trans (rfl : (0 : Int32) = rKd 0))))]
  exact d _ k5
theorem r_leaves (hT : 9010 ≤ T) (h : rTf τ g ρ) : ∀ (H n c q : Nat), c < g.n → yH (ρ c) ≤ H → q ≤ 61 → zF h0 qs ks T (n + 3 + H) 61 [.ref h0, .int (nI c), .int (nI q)] τ = some (some (.int (nI (min 61 (q + yLv (ρ c))))), τ) := fun H => by
  have ⟨⟨k, h1⟩, h2, h3, _⟩ := h
  have hg := h1.1.2
  induction H with
  | zero => 
    intro n c q hc hH hq
    rcases h3.at h2 hc with ⟨-, e, -⟩ | ⟨-, e⟩ <;> rw [e] at hH <;> (have := Nat.le_trans yH_pos hH; omega)
  | succ H ih =>
    intro n c q hc hH hq
    rw [show n + 3 + (H + 1) = (n + 3 + H) + 1 from rfl, zE_leaves]
    unfold b_leaves
    by_cases c6 : q ≤ 60
    · rw [if_pos (show nI q ≤ 60 from nI_le (b := 60) c6 (by decide)), show n + 3 + H = (n + 1 + H) + 2 by omega, show n + 1 + H + 2 = (n + 1 + H + 1) + 1 from rfl, r_real hT h1 h2.1 hc, zci_at]
      obtain ⟨r1, r2, r3⟩ := h3.rt h2 hc
      rw [show n + 1 + H + 1 + 1 = (n + 1 + H) + 2 from rfl, r_sort hT h r1, zci_at, r2]
      have hk := h3.k h2 hc
      rcases h3.at h2 hc with ⟨k1, e, l1, l2⟩ | ⟨k1, e⟩
      · rw [e, if_pos (by rw [show yK (yA (ρ (g.L (gR g c))) (ρ (g.R (gR g c)))) = 1 from rfl]; rfl)]
        obtain ⟨-, e35, -⟩ := h1.2.2 _ r1
        obtain ⟨e35, e36⟩ := e35 k1
        rw [e] at hH
        have hl : yH (ρ (g.L (gR g c))) ≤ H ∧ yH (ρ (g.R (gR g c))) ≤ H := by
          have : max (yH (ρ (g.L (gR g c)))) (yH (ρ (g.R (gR g c)))) + 1 ≤ H + 1 := hH
          omega
        have q1 := ih n _ q l1 hl.1 hq
        have q2 := ih n _ (min 61 (q + yLv (ρ (g.L (gR g c))))) l2 hl.2 (by omega)
        rw [show n + 3 + H = (n + 1 + H) + 2 by omega] at q1 q2
        simp only [zgd, zin_n (show gR g c < 9000 by omega) (by decide), if_true, nI_clamp (show gR g c < 2 ^ 31 by omega), e35, e36, q1, zci_at, q2]
        rw [yLv_A, show min 61 (min 61 (q + yLv (ρ (g.L (gR g c)))) + yLv (ρ (g.R (gR g c)))) = min 61 (q + (yLv (ρ (g.L (gR g c))) + yLv (ρ (g.R (gR g c))))) by omega]
      · rw [e] at hk ⊢
        have k5 := (h1.2.2 _ r1).1.1
        have hne : ¬ rKd (yK (yB (g.K (gR g c) - 2))) = 4 := by
          rw [hk]
          intro z
          have := rKd_inj (k := 1) (by split <;> omega) (by decide) (z.trans (show (4 : Int32) = rKd 1 from rfl))
          split at this <;> omega
        rw [if_neg hne, yLv_B, show nI q + 1 = nI (q + 1) from (nI_add q 1 ▸ rfl), Nat.min_eq_right (by omega)]
    · rw [if_neg (show ¬ nI q ≤ 60 from nI_ge (a := 60) (by omega) (by omega)), Nat.min_eq_left (by omega), show q = 61 by omega]
theorem r_wants {n c : Nat} {pl : Int32} {q : Nat × Int32} (hT : 9010 ≤ T) (h : rTf V g ρ) (fm : fFm V τ) (hc : c < g.n) (hp : 0 ≤ pl) (hq : fQ τ q) (hn : 1605 ≤ n) : ∃ τ', zF h0 qs ks T n 62 [.ref h0, .int (nI c), .int pl] τ = some (none, τ') ∧ fFm V τ' ∧ fQ τ' (fW (ρ c) pl q) := by
  obtain ⟨q1, q2, q3⟩ := hq
  obtain ⟨n, rfl⟩ : ∃ m, n = m + 1605 := ⟨n - 1605, by omega⟩
  rw [show n + 1605 = (n + 1604) + 1 from rfl, zE_wants]
  unfold b_wants fW
  rw [q1]
  by_cases c6 : q.1 ≤ 60
  · rw [if_pos (show nI q.1 ≤ 60 from nI_le (b := 60) c6 (by decide)), if_pos c6, show n + 1604 = n + 3 + 1601 from rfl, r_leaves hT (h.f fm) 1601 n c q.1 hc (h.2.2.2 c hc) q3, zci_at]
    simp only [zlet]
    have e65 : (zI τ 65 (nI (min 61 (q.1 + yLv (ρ c))))).1 65 = nI (min 61 (q.1 + yLv (ρ c))) := zIe _ _ _
    have f1 : fFm V (zI τ 65 (nI (min 61 (q.1 + yLv (ρ c))))) := fm.tr ⟨fun k a b c => zIn _ _ c, fun _ _ => rfl, fun _ _ _ => rfl, rfl⟩
    rw [e65]
    by_cases c7 : q.1 + yLv (ρ c) ≤ 60
    · rw [if_pos (show nI (min 61 (q.1 + yLv (ρ c))) ≤ 60 from nI_le (b := 60) (by omega) (by decide)), if_pos c7]
      refine ⟨_, rfl, f1, ?_, ?_, ?_⟩
      · rw [e65, Nat.min_eq_right (by omega)]
      · exact (zIn _ _ (by decide)).trans q2
      · show q.1 + yLv (ρ c) ≤ 61
        omega
    · have em : min 61 (q.1 + yLv (ρ c)) = 61 := by omega
      rw [em] at f1 ⊢
      rw [if_neg (by decide), if_neg c7, show n + 3 + 1601 = (n + 1603) + 1 by omega, r_wrong5 hp, zcv_at]
      refine ⟨_, rfl, f1.tr ⟨fun k a b c => zIn _ _ a, fun _ _ => rfl, fun _ _ _ => rfl, rfl⟩, (zIn _ _ (by decide)).trans (zIe _ _ _), ?_, Nat.le_refl 61⟩
      rw [zIe, zIn _ _ (by decide), q2]
  · rw [if_neg (show ¬ nI q.1 ≤ 60 from nI_ge (a := 60) (by omega) (by omega)), if_neg c6]
    exact ⟨τ, rfl, fm, q1, q2, q3⟩
end RTFS
