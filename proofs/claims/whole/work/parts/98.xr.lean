/-! the reference stands at a word: here, skip, must, by the class's codes -/
/-- the reference's rows hold the words that the class has: cnt words of a text of len letters -/
def rW (τ : zSt) (T len cnt : Nat) (kk pp ee f : Nat → Int32) : Prop := τ.2.2.1 1 = f ∧ (∀ j, j < len → sB (f j)) ∧ rRow (τ.2.2.1 3) (τ.2.2.1 4) (τ.2.2.1 5) kk pp ee cnt ∧ (τ.2.2.1 3 cnt = 0 ∧ τ.2.2.1 4 cnt = nI len ∧ τ.2.2.1 5 cnt = nI len) ∧ wWell T len (fun j => f j &&& 255) kk pp ee cnt ∧ (kk cnt = 0 ∧ pp cnt = nI len) ∧ cnt ≤ len ∧ len ≤ 2000
theorem zKp_pos : zKp.all (fun p => decide (0 < p.2.2 ∧ p.2.2 < 400)) = true := by decide +kernel
/-- rows 1, 3, 4, 5 are all that it speaks of -/
theorem rW.keep {τ τ' : zSt} {T len cnt : Nat} {kk pp ee f : Nat → Int32} (h : rW τ T len cnt kk pp ee f) (h1 : τ'.2.2.1 1 = τ.2.2.1 1) (h3 : τ'.2.2.1 3 = τ.2.2.1 3) (h4 : τ'.2.2.1 4 = τ.2.2.1 4) (h5 : τ'.2.2.1 5 = τ.2.2.1 5) : rW τ' T len cnt kk pp ee f := by
  unfold rW
  rw [h1, h3, h4, h5]
  exact h
section ORW
variable {κ : oKv} {ks : Nat → Nat} {qs : List Nat} {T n h0 len cnt sz i : Nat} {τ : zSt} {kk pp ee f : Nat → Int32} {p : Nat × String × Nat}
theorem rW.pl (h : rW τ T len cnt kk pp ee f) (hi : i ≤ cnt) : τ.2.2.1 4 i = pp i := by
  obtain ⟨-, -, h3, h4, -, h6, -, -⟩ := h
  by_cases c : i < cnt
  · exact (h3 i c).2.1
  · have e : i = cnt := by omega
    rw [e, h4.2.1, h6.2]
theorem rW.kd (h : rW τ T len cnt kk pp ee f) (hi : i ≤ cnt) : τ.2.2.1 3 i = if i < cnt then kMap (kk i) else 0 := by
  obtain ⟨-, -, h3, h4, -, h6, -, -⟩ := h
  by_cases c : i < cnt
  · rw [if_pos c]
    exact (h3 i c).1
  · have e : i = cnt := by omega
    rw [if_neg c, e, h4.1]
/-- where word i begins and ends, and that it is a text iff its kind is its code -/
theorem rW.ae (h : rW τ T len cnt kk pp ee f) (hi : i ≤ cnt) (hT : 2010 ≤ T) (hp : p ∈ zKp) : ∃ a e, τ.2.2.1 4 i = nI a ∧ τ.2.2.1 5 i = nI e ∧ a ≤ e ∧ e ≤ 2000 ∧ pp i = nI a ∧ isT p.2.1 f (τ.2.2.1 3 i) a e = decide (kk i = nI p.2.2) := by
  have hpl := h.pl hi
  have hkd := h.kd hi
  obtain ⟨h1, h2, h3, h4, h5, h6, h7, h8⟩ := h
  by_cases c : i < cnt
  · obtain ⟨a, b1, b2, b3, b4, b5, b6⟩ := h5 i c
    refine ⟨a, _, (hpl.trans b4), ((h3 i c).2.2.trans b5), by omega, by omega, b4, ?_⟩
    rw [hkd, if_pos c, b6]
    exact isT_code hp hT h2 b1 b2 b3
  · have e : i = cnt := by omega
    subst e
    refine ⟨len, len, h4.2.1, h4.2.2, Nat.le_refl _, h8, h6.2, ?_⟩
    have hpos := of_decide_eq_true (List.all_eq_true.mp zKp_pos p hp)
    have hne : ¬ kk i = nI p.2.2 := fun h => by
      rw [h6.1] at h
      have := nI_inj' (a := 0) (by omega) (by omega) h
      omega
    rw [h4.1, decide_eq_false hne]
    unfold isT
    rw [decide_eq_false (fun h => h rfl)]
    rfl
theorem j_here (hf : lFacts κ ks sz) (hp : p ∈ zKp) (h : rW τ T len cnt kk pp ee f) (hi : i ≤ cnt) (h10 : τ.1 10 = nI i) (hT : 2010 ≤ T) : zF h0 qs ks T (n + 2) 11 [.ref h0, .ref (ks p.1)] τ = some (some (.int (b01 (decide (τ.1 11 = 0) && decide (kk i = nI p.2.2)))), τ) := by
  obtain ⟨a, e, a1, a2, a3, a4, a5, a6⟩ := h.ae hi hT hp
  rw [← a6]
  exact r_here (tx := (p.1, p.2.1)) hf (zKp_m hp) (by have := h.2.2.2.2.2.2; omega) h10 h.1 a1 a2 a3 a4 hT
theorem j_skip (hf : lFacts κ ks sz) (hp : p ∈ zKp) (h : rW τ T len cnt kk pp ee f) (hi : i ≤ cnt) (h10 : τ.1 10 = nI i) (hT : 2010 ≤ T) : zF h0 qs ks T (n + 3) 12 [.ref h0, .ref (ks p.1)] τ = some (some (.int (b01 (decide (τ.1 11 = 0) && decide (kk i = nI p.2.2)))), if (decide (τ.1 11 = 0) && decide (kk i = nI p.2.2)) = true then zI τ 10 (nI (i + 1)) else τ) := by
  obtain ⟨a, e, a1, a2, a3, a4, a5, a6⟩ := h.ae hi hT hp
  rw [← a6]
  exact r_skip (tx := (p.1, p.2.1)) hf (zKp_m hp) (by have := h.2.2.2.2.2.2; omega) h10 h.1 a1 a2 a3 a4 hT
theorem j_must (hf : lFacts κ ks sz) (hp : p ∈ zKp) (h : rW τ T len cnt kk pp ee f) (hi : i ≤ cnt) (h10 : τ.1 10 = nI i) (hT : 2010 ≤ T) : zF h0 qs ks T (n + 4) 14 [.ref h0, .ref (ks p.1)] τ = some (none, if (decide (τ.1 11 = 0) && decide (kk i = nI p.2.2)) = true then zI τ 10 (nI (i + 1)) else rFl τ 2 (pp i)) := by
  obtain ⟨a, e, a1, a2, a3, a4, a5, a6⟩ := h.ae hi hT hp
  rw [← a6, a5]
  exact r_must (tx := (p.1, p.2.1)) hf (zKp_m hp) (by have := h.2.2.2.2.2.2; omega) h10 h.1 a1 a2 a3 a4 hT
theorem j_form (h : rW τ T len cnt kk pp ee f) (hi : i ≤ cnt) (h10 : τ.1 10 = nI i) : zF h0 qs ks T (n + 2) 13 [.ref h0] τ = some (none, rFl τ 2 (pp i)) := by
  rw [← h.pl hi]
  exact r_form (by have := h.2.2.2.2.2.2; omega) h10
end ORW
