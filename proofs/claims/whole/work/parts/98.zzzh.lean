/-! words' facts; compile() of the reference where the grammar is broken -/
theorem wEnd_10 {len a : Nat} {g : Nat → Int32} : wEnd len g a - a ≤ 10 := by
  unfold wEnd
  split
  · split
    · assumption
    · omega
  · split
    · split
      · omega
      · omega
    · split
      · split <;> omega
      · omega
theorem wKind_nz {T len a : Nat} {g : Nat → Int32} (hT : 2010 ≤ T) (h : a < wEnd len g a) : ¬ wKind T len g a (wEnd len g a) = 0 := by
  rcases w_cases (T := T) h with ⟨-, e⟩ | ⟨-, -, e⟩ | ⟨-, -, -, hs, -, e⟩ | ⟨-, -, hd, -, e⟩
  · rw [e]
    rcases kKind_val (g := g) (a := a) (l := wEnd len g a - a) hT with k | ⟨j, hj, k⟩
    · rw [k]; decide
    · rw [k]
      intro z
      have := nI_inj' (b := 0) (by omega) (by decide) z
      omega
  · rw [e]; decide
  · rw [e]
    obtain ⟨k, h1, h2, h3⟩ := bS_val hs
    rw [h3]
    intro z
    have := nI_inj' (b := 0) (by omega) (by decide) z
    omega
  · rw [e]; exact hd
/-- what the lexer's rows say -/
theorem lex_facts {T len : Nat} {g : Nat → Int32} (hT : 2010 ≤ T) (hlen : len ≤ 2000) {R : wRes} (hR : wLex T len g T 0 (fun _ => 0) (fun _ => 0) (fun _ => 0) 0 = R) : R.2.2.2.1 ≤ len ∧ ((∀ j, j < R.2.2.2.1 → ∃ a e, upd R.2.1 R.2.2.2.1 (nI len) j = nI a ∧ upd R.2.2.1 R.2.2.2.1 (nI len) j = nI e ∧ a < e ∧ e ≤ len) ∧ R.1 R.2.2.2.1 = 0 ∧ upd R.2.1 R.2.2.2.1 (nI len) R.2.2.2.1 = nI len) ∧ (∀ j, j < R.2.2.2.1 → wL (upd R.2.1 R.2.2.2.1 (nI len)) (upd R.2.2.1 R.2.2.2.1 (nI len)) j ≤ 10) ∧ (∀ i, i < R.2.2.2.1 → ¬ R.1 i = 0) := by
  obtain ⟨w1, w2⟩ := wLex_words T len g (fun _ => 0) (fun _ => 0) (fun _ => 0)
  have w3 := (wLex_out T len g T 0 (fun _ => 0) (fun _ => 0) (fun _ => 0) 0).2 R.2.2.2.1
  rw [hR] at w1 w2 w3
  refine ⟨w2, ⟨fun j hj => ?_, w3 (Nat.le_refl _), upd_at _ _ _⟩, fun j hj => ?_, fun i hi => ?_⟩
  · obtain ⟨a, b1, b2, b3, b4, b5, b6⟩ := w1 j hj
    exact ⟨a, wEnd len g a, by rw [upd_ne _ _ (by omega)]; exact b4, by rw [upd_ne _ _ (by omega)]; exact b5, b2, b3⟩
  · obtain ⟨a, b1, b2, b3, b4, b5, b6⟩ := w1 j hj
    unfold wL
    rw [upd_ne _ _ (by omega), upd_ne _ _ (by omega), b4, b5, nI_clamp (by omega), nI_clamp (by omega)]
    exact wEnd_10
  · obtain ⟨a, b1, b2, b3, b4, b5, b6⟩ := w1 i hi
    rw [b6]
    exact wKind_nz hT b2
section RGR
variable {κ : oKv} {ks : Nat → Nat} {qs : List Nat} {T n h0 len sz : Nat} {τ : zSt}
/-- compile() up to its tree -/
theorem r_pre (hf : lFacts κ ks sz) (hT : 2010 ≤ T) (h3 : τ.1 3 = nI len) (hlen : len ≤ 2000) (h45 : τ.1 45 = 0) {R : wRes} (hR : wLex T len (fun j => (rT τ len).2.2.1 1 j &&& 255) T 0 (fun _ => 0) (fun _ => 0) (fun _ => 0) 0 = R) (hok : R.2.2.2.2 = -1) : ∃ τ', zF h0 qs ks T (n + 135) 65 [.ref h0] τ = j_compile_81 T (zF h0 qs ks T (n + 134)) h0 qs ks τ' ∧ ((τ'.1 3 = 0 ∧ τ'.1 5 = τ.1 5 ∧ τ'.1 163 = 0 ∧ τ'.1 165 = τ.1 165 ∧ τ'.1 66 = 0 ∧ τ'.1 67 = 0 ∧ τ'.1 69 = -1) ∧ τ'.2.1 = τ.2.1 ∧ (∀ j, τ'.2.2.1 2 j = τ.2.2.1 2 j) ∧ τ'.2.2.2 = τ.2.2.2) ∧ (∀ j, aPr R.1 T R.2.2.2.1 = .inl j → τ'.1 11 = 2 ∧ τ'.1 12 = upd R.2.1 R.2.2.2.1 (nI len) j ∧ τ'.1 45 = 0) ∧ (∀ xs is e j, aPr R.1 T R.2.2.2.1 = .inr ((xs, is, e), j) → τ'.1 39 = nI xs.length ∧ τ'.1 42 = nI is.length ∧ (∀ a x, xs[a]? = some x → qR T ((rT τ len).2.2.1 1) (upd R.2.1 R.2.2.2.1 (nI len)) (upd R.2.2.1 R.2.2.2.1 (nI len)) τ' a x) ∧ (∀ b y, is[b]? = some y → iR τ' b y) ∧ ∃ N S P A x, rR T len R.2.2.2.1 R.1 (upd R.2.1 R.2.2.2.1 (nI len)) (upd R.2.2.1 R.2.2.2.1 (nI len)) ((rT τ len).2.2.1 1) 0 τ' N S P A 0 (.inr R.2.2.2.1) ∧ (N ≤ R.2.2.2.1 ∧ S ≤ R.2.2.2.1 ∧ P ≤ R.2.2.2.1 ∧ A ≤ R.2.2.2.1) ∧ τ'.1 43 = nI x ∧ rTr (upd R.2.1 R.2.2.2.1 (nI len)) τ' 0 N S P A e 0 0 x) := by
  obtain ⟨σ, h1, h2⟩ := r_words (h0 := h0) (qs := qs) (ks := ks) (T := T) (n := n + 132) (τ := rT τ len) (len := len) (f := (rT τ len).2.2.1 1) (kk := fun _ => 0) (pp := fun _ => 0) (ee := fun _ => 0) rfl rfl rfl hlen hT rT_sB
  rw [hR] at h2
  have h2' := h2
  rw [← hR] at h2'
  obtain ⟨W, w10, w11⟩ := rFin_rW rfl rT_sB hlen (by rw [hR]; exact hok) h2'
  rw [hR] at W
  have hk : ∀ k, k ≠ 3 → k ≠ 4 → k ≠ 66 → k ≠ 67 → k ≠ 69 → k ≠ 163 → k ≠ 11 → k ≠ 9 → k ≠ 12 → k ≠ 10 → σ.1 k = τ.1 k := fun k a1 a2 a3 a4 a5 a6 a7 a8 a9 a10 => by
    obtain ⟨K, P, E, c, rfl, -⟩ := h2
    unfold rSt rT
    simp only [zIn _ _ a10, zIn _ _ a9, zIn _ _ a7, zIn _ _ a8, zA1, zIn _ _ a6, zIn _ _ a5, zIn _ _ a4, zIn _ _ a3, zIn _ _ a1, zIn _ _ a2]
  have hs : σ.1 3 = 0 ∧ σ.1 163 = 0 ∧ σ.1 66 = 0 ∧ σ.1 67 = 0 ∧ σ.1 69 = -1 ∧ σ.2.1 = τ.2.1 ∧ σ.2.2.1 2 = τ.2.2.1 2 ∧ σ.2.2.2 = τ.2.2.2 := by
    obtain ⟨K, P, E, c, rfl, -⟩ := h2
    exact ⟨rfl, rfl, rfl, rfl, rfl, rfl, rfl, rfl⟩
  obtain ⟨τ', p1, p2, p3, p4⟩ := q_program (κ := κ) (ks := ks) (qs := qs) (h0 := h0) (sz := sz) (m := n + 134) (τ := σ) hf hT (by omega) W w11 w10 ((hk 45 (by decide) (by decide) (by decide) (by decide) (by decide) (by decide) (by decide) (by decide) (by decide) (by decide)).trans h45)
  have pk : ∀ k, k ≠ 10 → k ≠ 11 → k ≠ 12 → k ≠ 20 → k ≠ 24 → k ≠ 28 → k ≠ 32 → k ≠ 33 → k ≠ 45 → k ≠ 39 → k ≠ 42 → k ≠ 43 → τ'.1 k = σ.1 k := p2.2.2.1
  refine ⟨τ', ?_, ⟨⟨?_, ?_, ?_, ?_, ?_, ?_, ?_⟩, p2.1.trans hs.2.2.2.2.2.1, fun j => ?_, p2.2.1.trans hs.2.2.2.2.2.2.2⟩, p3, p4⟩
  · rw [show n + 135 = (n + 134) + 1 from rfl, r_compile h3 hlen hT]
    unfold rC
    simp only [zlet]
    have h1' := h1
    unfold rT at h1'
    rw [h1', zcv_at, if_pos w11, p1, zcv_at]
  · rw [pk 3 (by decide) (by decide) (by decide) (by decide) (by decide) (by decide) (by decide) (by decide) (by decide) (by decide) (by decide) (by decide)]; exact hs.1
  · rw [pk 5 (by decide) (by decide) (by decide) (by decide) (by decide) (by decide) (by decide) (by decide) (by decide) (by decide) (by decide) (by decide)]; exact hk 5 (by decide) (by decide) (by decide) (by decide) (by decide) (by decide) (by decide) (by decide) (by decide) (by decide)
  · rw [pk 163 (by decide) (by decide) (by decide) (by decide) (by decide) (by decide) (by decide) (by decide) (by decide) (by decide) (by decide) (by decide)]; exact hs.2.1
  · rw [pk 165 (by decide) (by decide) (by decide) (by decide) (by decide) (by decide) (by decide) (by decide) (by decide) (by decide) (by decide) (by decide)]; exact hk 165 (by decide) (by decide) (by decide) (by decide) (by decide) (by decide) (by decide) (by decide) (by decide) (by decide)
  · rw [pk 66 (by decide) (by decide) (by decide) (by decide) (by decide) (by decide) (by decide) (by decide) (by decide) (by decide) (by decide) (by decide)]; exact hs.2.2.1
  · rw [pk 67 (by decide) (by decide) (by decide) (by decide) (by decide) (by decide) (by decide) (by decide) (by decide) (by decide) (by decide) (by decide)]; exact hs.2.2.2.1
  · rw [pk 69 (by decide) (by decide) (by decide) (by decide) (by decide) (by decide) (by decide) (by decide) (by decide) (by decide) (by decide) (by decide)]; exact hs.2.2.2.2.1
  · rw [p2.2.2.2 2 j (Or.inl (by decide)) (by decide) (fun a b => by omega) (fun a b => by omega), hs.2.2.2.2.2.2.1]
/-- compile() where the grammar is broken: 2, and the place -/
theorem r_gram {τ' : zSt} {call : zCl} {j : Int32} (h11 : τ'.1 11 = 2) (h12 : τ'.1 12 = j) : j_compile_81 T call h0 qs ks τ' = some (some (.int 2), zI τ' 69 j) := by
  unfold j_compile_81 j_compile_92
  rw [if_neg (by rw [h11]; decide), if_neg (by rw [h11]; decide), h12]
  simp only [zlet]
  rw [zIn _ _ (by decide), h11]
end RGR
