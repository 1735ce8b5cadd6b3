/-! compile() of the reference up to its types -/
/-- the reference holds the PROGRAM; L the words told, x the node of its E -/
def rPo (T len cnt : Nat) (kk pp ee f : Nat → Int32) (xs : List tQ) (is : List (Nat × Nat)) (e : tT) (N S P A x : Nat) (τ : zSt) : Prop := rW τ T len cnt kk pp ee f ∧ (τ.1 39 = nI xs.length ∧ τ.1 42 = nI is.length ∧ τ.1 43 = nI x ∧ τ.1 45 = 0 ∧ τ.1 50 = nI (is.map Prod.fst ++ tW e).length) ∧ (∀ a q, xs[a]? = some q → qR T f pp ee τ a q) ∧ (∀ b y, is[b]? = some y → iR τ b y) ∧ (N ≤ cnt ∧ S ≤ cnt ∧ P ≤ cnt ∧ A ≤ cnt) ∧ rTr pp τ 0 N S P A e 0 0 x ∧ (rWo f pp ee (τ.2.2.1 32) (is.map Prod.fst ++ tW e) e (is.map Prod.fst) ∧ (∀ k y, is[k]? = some y → τ.2.2.1 32 y.1 = nI k) ∧ ∀ i w, (is.map Prod.fst ++ tW e)[i]? = some w → τ.2.2.1 30 i = nI w)
theorem rPo.keep {T len cnt : Nat} {kk pp ee f : Nat → Int32} {xs : List tQ} {is : List (Nat × Nat)} {e : tT} {N S P A x : Nat} {τ τ' : zSt} (h : rPo T len cnt kk pp ee f xs is e N S P A x τ) (h1 : ∀ k, k = 39 ∨ k = 42 ∨ k = 43 ∨ k = 45 ∨ k = 50 → τ'.1 k = τ.1 k) (h2 : ∀ k, k ≤ 32 → k ≠ 31 → k ≠ 0 → k ≠ 2 → τ'.2.2.1 k = τ.2.2.1 k) : rPo T len cnt kk pp ee f xs is e N S P A x τ' := by
  obtain ⟨a, ⟨b1, b2, b3, b4, b5⟩, c, d, e1, g, h3, h4, h5⟩ := h
  have r : ∀ k j, k ≤ 32 → k ≠ 31 → k ≠ 0 → k ≠ 2 → τ'.2.2.1 k j = τ.2.2.1 k j := fun k j a b c d => congrFun (h2 k a b c d) j
  refine ⟨a.keep (h2 1 (by decide) (by decide) (by decide) (by decide)) (h2 3 (by decide) (by decide) (by decide) (by decide)) (h2 4 (by decide) (by decide) (by decide) (by decide)) (h2 5 (by decide) (by decide) (by decide) (by decide)), ⟨(h1 39 (by decide)).trans b1, (h1 42 (by decide)).trans b2, (h1 43 (by decide)).trans b3, (h1 45 (by decide)).trans b4, (h1 50 (by decide)).trans b5⟩, fun a q ea => ?_, fun b y eb => ?_, e1, ?_, ?_, fun k y ek => ?_, fun i w ei => ?_⟩
  · obtain ⟨q1, q2, q3, q4, q5⟩ := c a q ea
    exact ⟨(r 22 a (by decide) (by decide) (by decide) (by decide)).trans q1, (r 23 a (by decide) (by decide) (by decide) (by decide)).trans q2, (r 24 a (by decide) (by decide) (by decide) (by decide)).trans q3, (r 25 a (by decide) (by decide) (by decide) (by decide)).trans q4, (r 26 a (by decide) (by decide) (by decide) (by decide)).trans q5⟩
  · obtain ⟨q1, q2⟩ := d b y eb
    exact ⟨(r 27 b (by decide) (by decide) (by decide) (by decide)).trans q1, (r 28 b (by decide) (by decide) (by decide) (by decide)).trans q2⟩
  · refine rTr.keep (τ := τ) ⟨fun m _ _ => funext fun k => ?_, fun k j a b _ => r k j (by omega) (by omega) (by omega) (by omega), fun k j a b _ => r k j (by omega) (by omega) (by omega) (by omega), fun m _ => funext fun k => ?_⟩ (Nat.le_refl _) (Nat.le_refl _) (Nat.le_refl _) (Nat.le_refl _) (Nat.le_refl _) e 0 0 x g
    · exact congrFun (h2 _ (by omega) (by omega) (by omega) (by omega)) m
    · exact congrFun (h2 _ (by omega) (by omega) (by omega) (by omega)) m
  · rw [h2 32 (by decide) (by decide) (by decide) (by decide)]
    exact h3
  · exact (r 32 _ (by decide) (by decide) (by decide) (by decide)).trans (h4 k y ek)
  · exact (r 30 _ (by decide) (by decide) (by decide) (by decide)).trans (h5 i w ei)
theorem nE_keep {V V' : zSt} (h : ∀ k, k = 10 ∨ k = 11 ∨ k = 12 ∨ k = 20 → V'.2.2.1 k = V.2.2.1 k) : ∀ (t : tT) (m0 m : Nat), nE V' t m0 m = nE V t m0 m
  | .leaf, _, _ => rfl
  | .inner g d _ a b, m0, m => by
    unfold nE
    simp only [h 10 (by decide), h 11 (by decide), h 12 (by decide), h 20 (by decide), nE_keep h a, nE_keep h b]
theorem tW_sub : ∀ t : tT, (tW t).Sublist (tEv t)
  | .leaf => List.Sublist.refl _
  | .inner g d _ a b => by
    have Ia := tW_sub a
    have Ib := tW_sub b
    unfold tW tEv
    have rt : ∀ (l : List Nat) {m m' : List Nat}, m.Sublist m' → m.Sublist (l ++ m') := fun l _ _ h => h.trans (List.sublist_append_right l _)
    by_cases c1 : g = 1
    · rw [if_pos c1, if_pos c1]
      exact (Ia.append Ib).cons_cons _
    rw [if_neg c1, if_neg c1]
    by_cases c2 : g = 2
    · rw [if_pos c2, if_pos c2]
      rw [List.append_assoc]
      exact ((List.Sublist.refl _).append (Ia.append Ib)).cons_cons _
    rw [if_neg c2, if_neg c2]
    by_cases c3 : g = 3
    · rw [if_pos c3, if_pos c3]
      exact Ia.cons_cons _
    rw [if_neg c3, if_neg c3]
    by_cases c4 : g = 4 ∨ g = 5
    · rw [if_pos c4, if_pos c4]
      exact rt _ Ib
    rw [if_neg c4, if_neg c4]
    by_cases c6 : g = 6
    · rw [if_pos (Or.inl c6), if_pos c6]
      exact rt _ (rt _ (rt _ Ia))
    by_cases c15 : g = 15
    · rw [if_pos (Or.inr c15), if_neg c6, if_neg (show ¬ g = 14 by omega), if_pos c15]
      exact rt _ Ia
    rw [if_neg (show ¬ (g = 6 ∨ g = 15) by omega), if_neg c6]
    by_cases c14 : g = 14 ∨ g = 18
    · rw [if_pos c14]
      exact List.nil_sublist _
    rw [if_neg c14, if_neg (show ¬ g = 14 by omega), if_neg c15, if_neg (show ¬ g = 18 by omega)]
    by_cases c19 : g = 19
    · rw [if_pos c19, if_pos c19]
      exact rt _ (Ia.append ((List.Sublist.refl _).append Ib))
    rw [if_neg c19, if_neg c19]
    exact rt _ (rt _ (Ia.append Ib))
section RUT
variable {κ : oKv} {ks : Nat → Nat} {qs : List Nat} {T n h0 len sz : Nat} {τ : zSt}
/-- compile() up to its tree, with what it leaves -/
theorem r_pre2 (hf : lFacts κ ks sz) (hT : 2010 ≤ T) (h3 : τ.1 3 = nI len) (hlen : len ≤ 2000) (h45 : τ.1 45 = 0) {R : wRes} (hR : wLex T len (fun j => (rT τ len).2.2.1 1 j &&& 255) T 0 (fun _ => 0) (fun _ => 0) (fun _ => 0) 0 = R) (hok : R.2.2.2.2 = -1) : ∃ τ', zF h0 qs ks T (n + 135) 65 [.ref h0] τ = j_compile_81 T (zF h0 qs ks T (n + 134)) h0 qs ks τ' ∧ ((τ'.1 3 = 0 ∧ τ'.1 5 = τ.1 5 ∧ τ'.1 163 = 0 ∧ τ'.1 165 = τ.1 165 ∧ τ'.1 66 = 0 ∧ τ'.1 67 = 0 ∧ τ'.1 69 = -1) ∧ τ'.1 60 = τ.1 60 ∧ τ'.2.1 = τ.2.1 ∧ (∀ j, τ'.2.2.1 2 j = τ.2.2.1 2 j) ∧ τ'.2.2.2 = τ.2.2.2) ∧ (∀ j, aPr R.1 T R.2.2.2.1 = .inl j → τ'.1 11 = 2 ∧ τ'.1 12 = upd R.2.1 R.2.2.2.1 (nI len) j ∧ τ'.1 45 = 0) ∧ (∀ xs is e j, aPr R.1 T R.2.2.2.1 = .inr ((xs, is, e), j) → τ'.1 39 = nI xs.length ∧ τ'.1 42 = nI is.length ∧ (∀ a x, xs[a]? = some x → qR T ((rT τ len).2.2.1 1) (upd R.2.1 R.2.2.2.1 (nI len)) (upd R.2.2.1 R.2.2.2.1 (nI len)) τ' a x) ∧ (∀ b y, is[b]? = some y → iR τ' b y) ∧ ∃ N S P A x, rR T len R.2.2.2.1 R.1 (upd R.2.1 R.2.2.2.1 (nI len)) (upd R.2.2.1 R.2.2.2.1 (nI len)) ((rT τ len).2.2.1 1) 0 τ' N S P A 0 (.inr R.2.2.2.1) ∧ (N ≤ R.2.2.2.1 ∧ S ≤ R.2.2.2.1 ∧ P ≤ R.2.2.2.1 ∧ A ≤ R.2.2.2.1) ∧ τ'.1 43 = nI x ∧ rTr (upd R.2.1 R.2.2.2.1 (nI len)) τ' 0 N S P A e 0 0 x) := by
  obtain ⟨σ, h1, h2⟩ := r_words (h0 := h0) (qs := qs) (ks := ks) (T := T) (n := n + 132) (τ := rT τ len) (len := len) (f := (rT τ len).2.2.1 1) (kk := fun _ => 0) (pp := fun _ => 0) (ee := fun _ => 0) rfl rfl rfl hlen hT rT_sB
  rw [hR] at h2
  have h2' := h2
  rw [← hR] at h2'
  obtain ⟨W, w10, w11⟩ := rFin_rW rfl rT_sB hlen (by rw [hR]; exact hok) h2'
  rw [hR] at W
  have hk : ∀ k, k ≠ 3 → k ≠ 4 → k ≠ 66 → k ≠ 67 → k ≠ 69 → k ≠ 163 → k ≠ 11 → k ≠ 9 → k ≠ 12 → k ≠ 10 → σ.1 k = τ.1 k := fun k a1 a2 a3 a4 a5 a6 a7 a8 a9 a10 => by
    obtain ⟨K, P, E, c, rfl, -⟩ := h2
    unfold rSt rT
    simp only [zIn _ _ a10, zIn _ _ a9, zIn _ _ a7, zIn _ _ a8, zA1, zIn _ _ a6, zIn _ _ a5, zIn _ _ a4, zIn _ _ a3, zIn _ _ a1, zIn _ _ a2]
  have hs : σ.1 3 = 0 ∧ σ.1 163 = 0 ∧ σ.1 66 = 0 ∧ σ.1 67 = 0 ∧ σ.1 69 = -1 ∧ σ.2.1 = τ.2.1 ∧ σ.2.2.1 2 = τ.2.2.1 2 ∧ σ.2.2.2 = τ.2.2.2 := by
    obtain ⟨K, P, E, c, rfl, -⟩ := h2
    exact ⟨rfl, rfl, rfl, rfl, rfl, rfl, rfl, rfl⟩
  obtain ⟨τ', p1, p2, p3, p4⟩ := q_program (κ := κ) (ks := ks) (qs := qs) (h0 := h0) (sz := sz) (m := n + 134) (τ := σ) hf hT (by omega) W w11 w10 ((hk 45 (by decide) (by decide) (by decide) (by decide) (by decide) (by decide) (by decide) (by decide) (by decide) (by decide)).trans h45)
  have pk : ∀ k, k ≠ 10 → k ≠ 11 → k ≠ 12 → k ≠ 20 → k ≠ 24 → k ≠ 28 → k ≠ 32 → k ≠ 33 → k ≠ 45 → k ≠ 39 → k ≠ 42 → k ≠ 43 → τ'.1 k = σ.1 k := p2.2.2.1
  refine ⟨τ', ?_, ⟨⟨?_, ?_, ?_, ?_, ?_, ?_, ?_⟩, ?_, p2.1.trans hs.2.2.2.2.2.1, fun j => ?_, p2.2.1.trans hs.2.2.2.2.2.2.2⟩, p3, p4⟩
  · rw [show n + 135 = (n + 134) + 1 from rfl, r_compile h3 hlen hT]
    unfold rC
    simp only [zlet]
    have h1' := h1
    unfold rT at h1'
    rw [h1', zcv_at, if_pos w11, p1, zcv_at]
  · rw [pk 3 (by decide) (by decide) (by decide) (by decide) (by decide) (by decide) (by decide) (by decide) (by decide) (by decide) (by decide) (by decide)]; exact hs.1
  · rw [pk 5 (by decide) (by decide) (by decide) (by decide) (by decide) (by decide) (by decide) (by decide) (by decide) (by decide) (by decide) (by decide)]; exact hk 5 (by decide) (by decide) (by decide) (by decide) (by decide) (by decide) (by decide) (by decide) (by decide) (by decide)
  · rw [pk 163 (by decide) (by decide) (by decide) (by decide) (by decide) (by decide) (by decide) (by decide) (by decide) (by decide) (by decide) (by decide)]; exact hs.2.1
  · rw [pk 165 (by decide) (by decide) (by decide) (by decide) (by decide) (by decide) (by decide) (by decide) (by decide) (by decide) (by decide) (by decide)]; exact hk 165 (by decide) (by decide) (by decide) (by decide) (by decide) (by decide) (by decide) (by decide) (by decide) (by decide)
  · rw [pk 66 (by decide) (by decide) (by decide) (by decide) (by decide) (by decide) (by decide) (by decide) (by decide) (by decide) (by decide) (by decide)]; exact hs.2.2.1
  · rw [pk 67 (by decide) (by decide) (by decide) (by decide) (by decide) (by decide) (by decide) (by decide) (by decide) (by decide) (by decide) (by decide)]; exact hs.2.2.2.1
  · rw [pk 69 (by decide) (by decide) (by decide) (by decide) (by decide) (by decide) (by decide) (by decide) (by decide) (by decide) (by decide) (by decide)]; exact hs.2.2.2.2.1
  · rw [pk 60 (by decide) (by decide) (by decide) (by decide) (by decide) (by decide) (by decide) (by decide) (by decide) (by decide) (by decide) (by decide)]; exact hk 60 (by decide) (by decide) (by decide) (by decide) (by decide) (by decide) (by decide) (by decide) (by decide) (by decide)
  · rw [p2.2.2.2 2 j (Or.inl (by decide)) (by decide) (fun a b => by omega) (fun a b => by omega), hs.2.2.2.2.2.2.1]
/-- what is known of the words that were read -/
def wFx (len : Nat) (R : wRes) : Prop := R.2.2.2.1 ≤ len ∧ oW (upd R.2.1 R.2.2.2.1 (nI len)) (upd R.2.2.1 R.2.2.2.1 (nI len)) R.2.2.2.1 ∧ (∀ i, R.2.2.2.1 ≤ i → R.1 i = 0) ∧ (∀ w, (upd R.2.2.1 R.2.2.2.1 (nI len) w).toNatClampNeg ≤ len) ∧ (∀ u v, u < v → v < R.2.2.2.1 → upd R.2.1 R.2.2.2.1 (nI len) u < upd R.2.1 R.2.2.2.1 (nI len) v)
theorem wFx.of (hT : 2010 ≤ T) {g f : Nat → Int32} (hlen : len ≤ 2000) {R : wRes} (eR : wLex T len g T 0 (fun _ => 0) (fun _ => 0) (fun _ => 0) 0 = R) (hw : rW τ T len R.2.2.2.1 R.1 (upd R.2.1 R.2.2.2.1 (nI len)) (upd R.2.2.1 R.2.2.2.1 (nI len)) f) : wFx len R := by
  obtain ⟨o1, hz⟩ := lex_ord hlen eR
  have hc := (lex_facts hT hlen eR).1
  refine ⟨hc, o1, hz, fun w => ?_, pp_up hw o1⟩
  by_cases c3 : w = R.2.2.2.1
  · rw [c3, upd_at, nI_clamp (by omega)]
    exact Nat.le_refl _
  · rw [upd_ne _ _ c3, ← eR]
    exact wLex_ee T len _ hlen T 0 _ _ _ 0 (fun w => Nat.zero_le _) w
theorem wFx.inj {R : wRes} (h : wFx len R) : ∀ u v, u < R.2.2.2.1 → v < R.2.2.2.1 → upd R.2.1 R.2.2.2.1 (nI len) u = upd R.2.1 R.2.2.2.1 (nI len) v → u = v := fun u v hu hv e => by
  rcases Nat.lt_trichotomy u v with c | c | c
  · have := h.2.2.2.2 u v c hv
    rw [e, Int32.lt_iff_toInt_lt] at this
    omega
  · exact c
  · have := h.2.2.2.2 v u c hu
    rw [e, Int32.lt_iff_toInt_lt] at this
    omega
set_option maxHeartbeats 2000000 in
/-- compile() of the reference up to its types -/
theorem r_upT {k0 : Nat} (hf : lFacts κ ks sz) (hT : 9010 ≤ T) (h3 : τ.1 3 = nI len) (hlen : len ≤ 2000) (h45 : τ.1 45 = 0) (h60 : τ.1 60 = nI k0) (hk0 : k0 + 9002 < 2 ^ 30) {R : wRes} (eR : wLex T len (fun j => (rT τ len).2.2.1 1 j &&& 255) T 0 (fun _ => 0) (fun _ => 0) (fun _ => 0) 0 = R) (hok : R.2.2.2.2 = -1) (hn : 1640 ≤ n) {xs : List tQ} {is : List (Nat × Nat)} {e : tT} {j : Nat} (hP : aPr R.1 T R.2.2.2.1 = .inr ((xs, is, e), j)) (hN : (nT ((rT τ len).2.2.1 1) (upd R.2.1 R.2.2.2.1 (nI len)) (upd R.2.2.1 R.2.2.2.1 (nI len)) e (nIn ((rT τ len).2.2.1 1) (upd R.2.1 R.2.2.2.1 (nI len)) (upd R.2.2.1 R.2.2.2.1 (nI len)) is ([], [], none))).2.2 = none) : ∃ τ' N S P A x, zF h0 qs ks T (n + 135) 65 [.ref h0] τ = zcv (if (τ'.1 11) = 0 then rK3 (zF h0 qs ks T (n + 133)) h0 τ' else some (none, τ')) (fun s => j_compile_92 T (zF h0 qs ks T (n + 134)) h0 qs ks s) ∧ ((τ'.1 3 = 0 ∧ τ'.1 5 = τ.1 5 ∧ τ'.1 163 = 0 ∧ τ'.1 165 = τ.1 165 ∧ τ'.1 66 = 0 ∧ τ'.1 67 = 0 ∧ τ'.1 69 = -1 ∧ τ'.1 52 = -1) ∧ τ'.2.1 = τ.2.1 ∧ (∀ j, τ'.2.2.1 2 j = τ.2.2.1 2 j) ∧ τ'.2.2.2 = τ.2.2.2) ∧ wFx len R ∧ pG R.1 (upd R.2.1 R.2.2.2.1 (nI len)) R.2.2.2.1 is e ∧ rPo T len R.2.2.2.1 R.1 (upd R.2.1 R.2.2.2.1 (nI len)) (upd R.2.2.1 R.2.2.2.1 (nI len)) ((rT τ len).2.2.1 1) xs is e N S P A x τ' ∧ (∃ k, τ'.1 60 = nI k ∧ k ≤ k0 + 9001) ∧ ((mSat (mEnd ((rT τ len).2.2.1 1) (upd R.2.1 R.2.2.2.1 (nI len)) (upd R.2.2.1 R.2.2.2.1 (nI len)) is e).1 ∧ τ'.1 11 = 0 ∧ ∃ g Tt k, rG τ' g k ∧ gK g ∧ gC g ∧ gT g Tt (mEnd ((rT τ len).2.2.1 1) (upd R.2.1 R.2.2.2.1 (nI len)) (upd R.2.2.1 R.2.2.2.1 (nI len)) is e) ∧ xN g.n (fun y => decide (g.K y = 1)) ≤ 1600 ∧ (∀ u, u ∈ is.map Prod.fst ++ tW e → dY (is.map Prod.fst ++ tW e) τ' g Tt (mEnd ((rT τ len).2.2.1 1) (upd R.2.1 R.2.2.2.1 (nI len)) (upd R.2.2.1 R.2.2.2.1 (nI len)) is e) u) ∧ ∀ p, p ∈ nE τ' e 0 x → ndY τ' g Tt (mEnd ((rT τ len).2.2.1 1) (upd R.2.1 R.2.2.2.1 (nI len)) (upd R.2.2.1 R.2.2.2.1 (nI len)) is e) p) ∨ ∃ pl, mFt (mEnd ((rT τ len).2.2.1 1) (upd R.2.1 R.2.2.2.1 (nI len)) (upd R.2.2.1 R.2.2.2.1 (nI len)) is e).1 pl ∧ τ'.1 11 = 4 ∧ τ'.1 12 = pl) := by
  obtain ⟨τ1, d1, ⟨⟨d2, d3, d4, d5, d6, d7, d8⟩, d60, d9, d10, d11⟩, -, d12⟩ := r_pre2 (h0 := h0) (qs := qs) (n := n) hf (by omega) h3 hlen h45 eR hok
  obtain ⟨d13, d14, d15, d16, N, S, P, A, x, d17, ⟨d18, d19, d20, d21⟩, d22, d23⟩ := d12 xs is e j hP
  have hw := d17.1
  have W := wFx.of (by omega) hlen eR hw
  obtain ⟨hc, o1, hz, hee, hup⟩ := id W
  generalize hf1 : (rT τ len).2.2.1 1 = f at *
  generalize hpp : upd R.2.1 R.2.2.2.1 (nI len) = pp at *
  generalize hep : upd R.2.2.1 R.2.2.2.1 (nI len) = ee at *
  generalize hcn : R.2.2.2.1 = cnt at *
  generalize hkk : R.1 = kk at *
  have G := pG.of (pp := pp) hz (gW_of (by omega) hw o1 hz) (fun a b h1 h2 h => by have := hup a b h1 h2; rw [h, Int32.lt_iff_toInt_lt] at this; omega) hP (by omega)
  obtain ⟨p1, p2, ⟨p3, p4⟩, p5, p6, p7, p8⟩ := aPr_rd hz (gW_of (by omega) hw o1 hz) hP
  have p7' := p7 1000 (by omega)
  have p8' : 3 * (tW e).length + 1 ≤ len := by
    have e : gL pp cnt len cnt = len := if_neg (by omega)
    rw [e] at p8
    exact p8
  obtain ⟨υ, k1, k2, k3, k4⟩ := r_chk (h0 := h0) (qs := qs) (ks := ks) (n := n + 128) (lo := 0) (N := N) (S := S) (P := P) (A := A) (by omega) (by omega) (by omega) (by omega) (by omega) hw d14 d22 p3 d16 p4 p5 p6 (by omega) (by omega) d23
  have ns := nm_same (fc := f) (r := τ1.2.2.1 32) (by omega) hw o1 hz hee (fun _ _ => rfl) hP
  have h52 : υ.1 52 = -1 := k2.2.2.2.trans (ns.1 hN)
  have nd := G.2.2.2.2.2.1
  obtain ⟨nI', nE', nIE⟩ := List.nodup_append.mp nd
  -- NAMES
  obtain ⟨n1, n2⟩ := nIn_3 (f := f) (pp := pp) (ee := ee) is ([], [], none)
  have cl : inW (cFd f pp ee) is [] ++ tWr (cFd f pp ee) e (is.map Prod.fst) = [] := by
    rw [nT_3, n1, n2, nHd_ap] at hN
    have hN : (inW (cFd f pp ee) is [] ++ tWr (cFd f pp ee) e ([] ++ is.map Prod.fst)).head? = none := hN
    rw [List.nil_append] at hN
    exact List.head?_eq_none_iff.mp hN
  obtain ⟨cl1, cl2⟩ := List.append_eq_nil_iff.mp cl
  have hF : ∀ (env : List Nat) w, env.length ≤ 12 → cFd f pp ee env w = kFd f pp ee env w := fun env w h => (kFd_c h).symm
  have kl1 : inW (kFd f pp ee) is [] = [] := by rw [← inW_hd hF is [] (by show 0 + is.length ≤ 12; omega)]; exact cl1
  have kl2 : tWr (kFd f pp ee) e (is.map Prod.fst) = [] := by
    have := tWr_hd hF e (is.map Prod.fst) (by rw [List.length_map]; omega)
    rw [cl2] at this
    exact List.head?_eq_none_iff.mp this.symm
  have eD0 : eD f pp ee [] := ⟨Nat.zero_le _, fun u hu => by cases hu⟩
  have eDi := eD_in is [] eD0 kl1
  rw [List.nil_append] at eDi
  have k0' : kK (([], [], τ1.2.2.1 32, -1) : kSt) := fun d hd => by cases hd
  obtain ⟨-, a2, a3⟩ := kIn_4 (f := f) (ee := ee) o1.2 is ([], [], τ1.2.2.1 32, -1) [] k0' (Or.inl ⟨rfl, fun w hw => by cases hw⟩)
  have e0 : kEnv (([], [], τ1.2.2.1 32, -1) : kSt) = [] := rfl
  rw [e0, List.nil_append] at a2
  have tl : (kT f pp ee e (kIn f pp ee is ([], [], τ1.2.2.1 32, -1))).2.1 = is.map Prod.fst ++ tW e := by
    rw [(kT_12 e _).2, (kIn_12 is _).2]
    rfl
  have wo := kT_wo (f := f) (pp := pp) (ee := ee) (R := υ.2.2.1 32) (L := is.map Prod.fst ++ tW e) e (kIn f pp ee is ([], [], τ1.2.2.1 32, -1)) a3 (by rw [a2]; exact eDi) (by rw [a2]; exact kl2) nE' (fun w _ => by rw [k2.2.2.1]) ⟨[], by rw [tl, List.append_nil]⟩
  rw [a2] at wo
  have num : ∀ (k : Nat) (y : Nat × Nat), is[k]? = some y → υ.2.2.1 32 y.1 = nI k := fun k y ek => by
    have hm : y.1 ∈ is.map Prod.fst := List.mem_map_of_mem (List.mem_of_getElem? ek)
    rw [k2.2.2.1, kT_3 e _ (fun z => nIE _ hm _ z rfl), kIn_num is _ nI' k y ek]
    show nI (0 + k) = _
    rw [Nat.zero_add]
  have fk : ∀ k, k ≠ 50 → k ≠ 51 → k ≠ 52 → k ≠ 59 → υ.1 k = τ1.1 k := fun k a b c d => (k4.1 k a b c).trans (zIn _ _ d)
  have fr : ∀ k, k ≠ 30 → k ≠ 32 → k ≠ 33 → υ.2.2.1 k = τ1.2.2.1 k := fun k a b c => k4.2.2.1 k a b c
  have hwυ : rW υ T len cnt kk pp ee f := k4.rw hw
  have Lget : ∀ (k : Nat) (y : Nat × Nat), is[k]? = some y → (is.map Prod.fst ++ tW e)[k]? = some y.1 := fun k y ek => by
    have hk : k < is.length := by
      by_cases z : k < is.length
      · exact z
      · rw [List.getElem?_eq_none (by omega)] at ek; cases ek
    rw [List.getElem?_append_left (by rw [List.length_map]; exact hk), List.getElem?_map, ek]
    rfl
  have L7 : (is.map Prod.fst ++ tW e).length ≤ 700 := by rw [List.length_append, List.length_map]; omega
  have Lnd : (is.map Prod.fst ++ tW e).Nodup := List.nodup_append.mpr ⟨nI', by
    exact nE'.sublist (tW_sub e), fun u hu w hw z => nIE u hu w (tW_ev e w hw) z⟩
  have P0 : rPo T len cnt kk pp ee f xs is e N S P A x υ := by
    refine ⟨hwυ, ⟨(fk 39 (by decide) (by decide) (by decide) (by decide)).trans d13, (fk 42 (by decide) (by decide) (by decide) (by decide)).trans d14, (fk 43 (by decide) (by decide) (by decide) (by decide)).trans d22, (fk 45 (by decide) (by decide) (by decide) (by decide)).trans d17.2.1.2.2.2.2.2, by rw [k2.1.1, tl]⟩, fun a q ea => ?_, fun b y eb => ?_, ⟨d18, d19, d20, d21⟩, ?_, wo, num, fun i w ei => ?_⟩
    · obtain ⟨q1, q2, q3, q4, q5⟩ := d15 a q ea
      exact ⟨(congrFun (fr 22 (by decide) (by decide) (by decide)) a).trans q1, (congrFun (fr 23 (by decide) (by decide) (by decide)) a).trans q2, (congrFun (fr 24 (by decide) (by decide) (by decide)) a).trans q3, (congrFun (fr 25 (by decide) (by decide) (by decide)) a).trans q4, (congrFun (fr 26 (by decide) (by decide) (by decide)) a).trans q5⟩
    · obtain ⟨q1, q2⟩ := d16 b y eb
      exact ⟨(congrFun (fr 27 (by decide) (by decide) (by decide)) b).trans q1, (congrFun (fr 28 (by decide) (by decide) (by decide)) b).trans q2⟩
    · exact rTr.keep (τ := τ1) ⟨fun m _ _ => funext fun k => congrFun (fr _ (by omega) (by omega) (by omega)) m, fun k j a b _ => congrFun (fr k (by omega) (by omega) (by omega)) j, fun k j a b _ => congrFun (fr k (by omega) (by omega) (by omega)) j, fun m _ => funext fun k => congrFun (fr _ (by omega) (by omega) (by omega)) m⟩ (Nat.le_refl _) (Nat.le_refl _) (Nat.le_refl _) (Nat.le_refl _) (Nat.le_refl _) e 0 0 x d23
    · exact k2.1.2 i w (by rw [tl]; exact ei)
  have H : rH T len cnt 0 N S P A (is.map Prod.fst ++ tW e) υ kk pp ee f := ⟨⟨hT, by omega, by omega, by omega, by omega⟩, hwυ, L7, Lnd⟩
  have hppi : ∀ u v, u < cnt → v < cnt → pp u = pp v → u = v := fun u v hu hv e => by
    rcases Nat.lt_trichotomy u v with c | c | c
    · have := hup u v c hv
      rw [e, Int32.lt_iff_toInt_lt] at this
      omega
    · exact c
    · have := hup v u c hu
      rw [e, Int32.lt_iff_toInt_lt] at this
      omega
  have e11 : υ.1 11 = 0 := (fk 11 (by decide) (by decide) (by decide) (by decide)).trans d17.2.2.1
  obtain ⟨τ2, t1, t2, t3, t4, t5⟩ := r_types (h0 := h0) (qs := qs) (ks := ks) (k0 := k0) (n := n + 128) H G (by omega) hppi e11 ((k4.1 59 (by decide) (by decide) (by decide)).trans (zIe _ _ _)) ((fk 60 (by decide) (by decide) (by decide) (by decide)).trans (d60.trans h60)) hk0 P0.2.1.2.1 P0.2.1.2.2.1 P0.2.2.2.1 (fun k y ek => ⟨num k y ek, Lget k y ek⟩) P0.2.2.2.2.2.1 wo (by omega)
  have tf : ∀ k, k ≠ 11 → k ≠ 12 → k ≠ 59 → k ≠ 60 → k ≠ 50 → k ≠ 51 → k ≠ 52 → τ2.1 k = τ1.1 k := fun k a b c d e f g => (t2.1 k a b c d).trans (fk k e f g c)
  have nEe : nE υ e 0 x = nE τ2 e 0 x := (nE_keep (fun k hk => t2.2.2.1 k (by omega)) e 0 x).symm
  refine ⟨τ2, N, S, P, A, x, ?_, ⟨⟨?_, ?_, ?_, ?_, ?_, ?_, ?_, ?_⟩, t2.2.1.trans (k4.2.1.trans d9), fun j => ?_, t2.2.2.2.1.trans (k4.2.2.2.trans d11)⟩, W, G, P0.keep (fun k hk => t2.1 k (by omega) (by omega) (by omega) (by omega)) (fun k a b c d => t2.2.2.1 k (by omega)), t4, ?_⟩
  · rw [d1]
    unfold j_compile_81
    rw [if_pos d17.2.2.1, show n + 134 = n + 128 + 6 from rfl, k1]
    unfold rK
    rw [h52, if_pos (by decide), t1]
  · exact (tf 3 (by decide) (by decide) (by decide) (by decide) (by decide) (by decide) (by decide)).trans d2
  · exact (tf 5 (by decide) (by decide) (by decide) (by decide) (by decide) (by decide) (by decide)).trans d3
  · exact (tf 163 (by decide) (by decide) (by decide) (by decide) (by decide) (by decide) (by decide)).trans d4
  · exact (tf 165 (by decide) (by decide) (by decide) (by decide) (by decide) (by decide) (by decide)).trans d5
  · exact (tf 66 (by decide) (by decide) (by decide) (by decide) (by decide) (by decide) (by decide)).trans d6
  · exact (tf 67 (by decide) (by decide) (by decide) (by decide) (by decide) (by decide) (by decide)).trans d7
  · exact (tf 69 (by decide) (by decide) (by decide) (by decide) (by decide) (by decide) (by decide)).trans d8
  · exact (t2.1 52 (by decide) (by decide) (by decide) (by decide)).trans h52
  · exact (t2.r (by omega) j).trans ((congrFun (fr 2 (by decide) (by decide) (by decide)) j).trans (d10 j))
  · rcases t5 with ⟨s1, s2, g, Tt, k, s3, s4, s5, s6, s7, s8, s9⟩ | z
    · exact Or.inl ⟨s1, s2, g, Tt, k, s3, s4, s5, s6, s7, s8, fun p hp => s9 p (by rw [nEe]; exact hp)⟩
    · exact Or.inr z
end RUT
