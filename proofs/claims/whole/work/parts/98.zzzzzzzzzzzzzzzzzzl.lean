/-! NAMES of lines are measured and in scope -/
section LNM
variable {T : Nat} {f pp ee : Nat → Int32} {tN : Nat → tY} {env : List Nat} {B : Int}
theorem sLs_inE {ns : Nat → Option Nat} {s0 : Int32} {E : Nat → Prop} : ∀ (ps : List tP) (M : List (Nat × Int32)), (∀ p, p ∈ ps → p.1 ≠ 0 → ∀ u, ns p.2.2 = some u → E u) → rIn E M → rIn E (sLs ns s0 ps M)
  | [], _, _, h => h
  | p :: ps, M, hE, h => by
    rw [sLs_cons]
    refine sLs_inE ps _ (fun x hx => hE x (List.mem_cons_of_mem _ hx)) ?_
    split
    · exact h
    · rename_i z
      split
      · rename_i e
        exact sAdd_in (hE p (List.mem_cons_self ..) z _ e) h _
      · exact h
theorem yB_ms (k : Nat) : gMs (yB (mPk k)) = true := by
  unfold mPk
  by_cases c : k = 2
  · rw [if_pos c]; rfl
  · rw [if_neg c]
    by_cases d : k = 3
    · rw [if_pos d]; rfl
    · rw [if_neg d]; rfl
theorem gSo.me {ps : List tP} (h : gSo f pp ee tN env ps) : ∀ p, p ∈ ps → p.1 ≠ 0 → ∀ u, nFind f pp ee env p.2.2 = some u → Sum.inl u ∈ gSv tN env := fun p hp h0 u e => by
  obtain ⟨k, _, ek⟩ := nFind_mem e
  refine gSv_me.mpr ⟨u, List.mem_of_getElem? ek, ?_, rfl⟩
  have := h p hp h0
  unfold gNu at this
  rw [e] at this
  have this : tN u = yB (mPk p.1) := this
  rw [this]
  exact yB_ms _
theorem ln_1 {p1 : List tP} (h1 : gSo f pp ee tN env p1) : rIn (fun u => Sum.inl u ∈ gSv tN env) (sLs (nFind f pp ee env) 1 p1 []) := sLs_inE p1 [] h1.me (fun q hq => by cases hq)
theorem ln_2 {p1 p2 : List tP} (h1 : gSo f pp ee tN env p1) (h2 : gSo f pp ee tN env p2) : rIn (fun u => Sum.inl u ∈ gSv tN env) (sLs (nFind f pp ee env) (-1) p2 (sLs (nFind f pp ee env) 1 p1 [])) := sLs_inE p2 _ h2.me (ln_1 h1)
/-- numbers and forms of a C's comparisons -/
def dNu (T : Nat) (f pp ee : Nat → Int32) (env : List Nat) (B : Int) : tT → Prop
  | .leaf => True
  | .inner g d _ a b => (g = 25 → sFa (sDf (sL (nFind f pp ee env) d.2.2.2.1.2) (sL (nFind f pp ee env) d.2.2.2.2.2)) = true ∧ d.2.2.1 ≤ 5 ∧ (-1125899906842624 ≤ dPl T f pp ee d.2.2.2.1.2 d.2.2.2.2.2 ∧ dPl T f pp ee d.2.2.2.1.2 d.2.2.2.2.2 ≤ 1125899906842624) ∧ -B ≤ 2 * dPl T f pp ee d.2.2.2.1.2 d.2.2.2.2.2 - 2 ∧ 2 * dPl T f pp ee d.2.2.2.1.2 d.2.2.2.2.2 + 2 ≤ B) ∧ (g = 24 ∨ g = 25 → a = .leaf ∧ b = .leaf) ∧ dNu T f pp ee env B a ∧ dNu T f pp ee env B b
theorem dFo_of : ∀ (t : tT), gCk f pp ee tN env t → dNu T f pp ee env B t → dFo T f pp ee env (fun u => Sum.inl u ∈ gSv tN env) B t
  | .leaf, _, _ => trivial
  | .inner g d z a b, hc, ⟨h1, h2, h3, h4⟩ => by
    unfold gCk at hc
    by_cases c4 : g = 24
    · obtain ⟨ea, eb⟩ := h2 (Or.inl c4)
      subst ea eb
      exact ⟨fun e => by omega, trivial, trivial⟩
    rw [if_neg c4] at hc
    by_cases c5 : g = 25
    · obtain ⟨ea, eb⟩ := h2 (Or.inr c5)
      subst ea eb
      rw [if_pos c5] at hc
      obtain ⟨a1, a2, a3, a4⟩ := h1 c5
      exact ⟨fun _ => ⟨a1, a2, ⟨a3, a4⟩, ln_2 hc.1 hc.2⟩, trivial, trivial⟩
    rw [if_neg c5] at hc
    exact ⟨fun e => absurd e c5, dFo_of a hc.1 h3, dFo_of b hc.2 h4⟩
/-- NAMES of what must be SO -/
theorem nLi_me {kd u : Nat} {ps : List tP} (h : gSo f pp ee tN env ps) (hu : kd = 3 → u ∈ env ∧ tN u = yB 2) : ∀ q, q ∈ nLi (nFind f pp ee env) kd u ps → Sum.inl q.1 ∈ gSv tN env := by
  unfold nLi
  by_cases c : kd = 3
  · rw [if_pos c]
    obtain ⟨h1, h2⟩ := hu c
    exact sAdd_in (E := fun u => Sum.inl u ∈ gSv tN env) (gSv_me.mpr ⟨u, h1, by rw [h2]; rfl, rfl⟩) (ln_1 h) _
  · rw [if_neg c]
    exact ln_1 h
end LNM
