/-! the reference: single and condition, by levels -/
section RSL
variable {κ : oKv} {ks : Nat → Nat} {qs : List Nat} {T m h0 len cnt sz d N S P A C z : Nat} {τ : zSt} {s : Sum Nat Nat} {kk pp ee f : Nat → Int32}
theorem rPc.cg {F F' : Nat → aR tT} {v : Int32} {τ' : zSt} {i : Nat} (h : rPc T len cnt kk pp ee f d A C τ N S P (.inr i) F z v τ') (e : F' i = F i) : rPc T len cnt kk pp ee f d A C τ N S P (.inr i) F' z v τ' := by
  obtain ⟨N', S', P', x, h1, h2, h3, h4, h5, h6, h7⟩ := h
  have e2 : aTo (.inr i) F' = aTo (.inr i) F := by rw [aTo_ok, aTo_ok, e]
  refine ⟨N', S', P', x, ?_⟩
  rw [e2]
  refine ⟨h1, h2, h3, h4, h5, h6, fun i' t j a b => ?_⟩
  cases a
  rw [e] at b
  exact h7 i t j rfl b
set_option maxHeartbeats 1000000 in
theorem q_single (hf : lFacts κ ks sz) (hT : 2010 ≤ T) : ∀ (k d m : Nat), d + k = 30 → 9 + 3 * k ≤ m → ∀ (s : Sum Nat Nat) (τ : zSt) (N S P : Nat), rR T len cnt kk pp ee f d τ N S P A C s → rEn N S P s → ∃ v τ', zF h0 qs ks T m 24 [.ref h0] τ = some (some (.int v), τ') ∧ rPc T len cnt kk pp ee f d A C τ N S P s (aSi kk T (k + 1)) (1 + k) v τ' := by
  intro k
  induction k using Nat.strongRecOn with
  | ind k IH =>
    intro d m hd hm s τ N S P h hE
    cases s with
    | inl j => exact ⟨0, τ, q_singleB (h0 := h0) (qs := qs) (ks := ks) h (by omega), rPc.b h⟩
    | inr i =>
      obtain ⟨n, rfl⟩ : ∃ n, m = n + 1 := ⟨m - 1, by omega⟩
      have hcn := h.1.cn
      have hi := h.2.2.2.2
      have w10 : τ.1 10 = nI i := h.2.2.2.1
      have w4 := h.1.pl hi
      obtain ⟨b1, g1, q1⟩ := q_here (h0 := h0) (qs := qs) (ks := ks) (m := n) hf hT h (show (622, "not", 217) ∈ zKp by decide) (by omega)
      obtain ⟨b2, g2, q2⟩ := q_here (h0 := h0) (qs := qs) (ks := ks) (m := n) hf hT h (show (582, "(", 40) ∈ zKp by decide) (by omega)
      obtain ⟨b3, g3, q3⟩ := q_here (h0 := h0) (qs := qs) (ks := ks) (m := n) hf hT h (show (578, "true", 223) ∈ zKp by decide) (by omega)
      obtain ⟨b4, g4, q4⟩ := q_here (h0 := h0) (qs := qs) (ks := ks) (m := n) hf hT h (show (580, "false", 205) ∈ zKp by decide) (by omega)
      have q1' : b1 = aIs kk 217 i := q1
      have q2' : b2 = aIs kk 40 i := q2
      have q3' : b3 = aIs kk 223 i := q3
      have q4' : b4 = aIs kk 205 i := q4
      have S39 : (aIs kk 217 i = true ∨ (aIs kk 217 i = false ∧ aIs kk 40 i = true)) → _ := fun c => q_s39 (h0 := h0) (qs := qs) (ks := ks) (m := n) (k := k) hf hT (by omega) hd h hE c (fun k' e s τ N S P m hm a b => IH k' (by omega) (d + 1) m (by omega) hm s τ N S P a b)
      rw [zE_single]
      unfold b_single
      rw [if_pos h.2.2.1, w10]
      simp only [zgd, zin_n (show i < 2010 by omega) (show 2010 < 2 ^ 31 by decide), if_true, nI_clamp (show i < 2 ^ 31 by omega), w4, g1]
      simp only [zci]
      cases b1 with
      | true =>
        rw [if_neg (show ¬ b01 true = 0 by decide)]
        obtain ⟨v, τ', e1, e2⟩ := S39 (Or.inl q1'.symm)
        exact ⟨v, τ', e1, e2.cg (by rw [aSi]; simp only [← q1', if_true])⟩
      | false =>
        rw [if_pos (show b01 false = 0 from rfl), g2]
        simp only
        cases b2 with
        | true =>
          rw [if_neg (show ¬ b01 true = 0 by decide)]
          obtain ⟨v, τ', e1, e2⟩ := S39 (Or.inr ⟨q1'.symm, q2'.symm⟩)
          exact ⟨v, τ', e1, e2.cg (by rw [aSi]; simp only [← q1', ← q2', if_true])⟩
        | false =>
          rw [if_pos (show b01 false = 0 from rfl), g3]
          simp only
          cases b3 with
          | true =>
            rw [if_neg (show ¬ b01 true = 0 by decide)]
            obtain ⟨v, τ', e1, e2⟩ := q_s171 (h0 := h0) (qs := qs) (ks := ks) (m := n) (z := 1 + k) hf hT (by omega) h hE (Or.inl q3'.symm)
            exact ⟨v, τ', e1, e2.cg (by rw [aSi]; simp only [← q1', ← q2', ← q3']; rfl)⟩
          | false =>
            rw [if_pos (show b01 false = 0 from rfl), g4]
            simp only
            cases b4 with
            | true =>
              rw [if_neg (show ¬ b01 true = 0 by decide)]
              obtain ⟨v, τ', e1, e2⟩ := q_s171 (h0 := h0) (qs := qs) (ks := ks) (m := n) (z := 1 + k) hf hT (by omega) h hE (Or.inr ⟨q3'.symm, q4'.symm⟩)
              exact ⟨v, τ', e1, e2.cg (by rw [aSi]; simp only [← q1', ← q2', ← q3', ← q4']; rfl)⟩
            | false =>
              rw [if_pos (show b01 false = 0 from rfl)]
              obtain ⟨v, τ', e1, e2⟩ := q_comp (h0 := h0) (qs := qs) (ks := ks) (m := n) (z := k) hf hT (by omega) h hE
              refine ⟨v, τ', ?_, e2.cg (by rw [aSi]; simp only [← q1', ← q2', ← q3', ← q4']; rfl)⟩
              rw [← e1]
              simp only [zci, zgd]
/-- condition() -/
theorem q_cond (hf : lFacts κ ks sz) (hT : 2010 ≤ T) {k : Nat} (hd : d + k = 30) (hm : 11 + 3 * k ≤ m) (h : rR T len cnt kk pp ee f d τ N S P A C s) (hE : rEn N S P s) : ∃ v τ', zF h0 qs ks T m 23 [.ref h0] τ = some (some (.int v), τ') ∧ rPc T len cnt kk pp ee f d A C τ N S P s (aEi kk T (aSi kk T (k + 1))) (1 + k) v τ' :=
  q_condition (h0 := h0) (qs := qs) (ks := ks) (m := m) (G := aLp kk T 302 21 (aSi kk T (k + 1))) (z := 1 + k) hf hT (by omega) (fun s τ N S P a b => q_both (h0 := h0) (qs := qs) (ks := ks) (m := m - 1) (G := aSi kk T (k + 1)) (z := 1 + k) hf hT (by omega) (fun s τ N S P a b => q_single hf hT k d (m - 1 - 1) hd (by omega) s τ N S P a b) a b) h hE
end RSL
