/-! C's as they are read -/
/-- truths, relations, NUMBERS of a C -/
def cRq (kk : Nat → Int32) : tT → Prop
  | .leaf => True
  | .inner g d _ a b => (g = 23 → d.2.1 ≤ 1) ∧ (g = 25 → (sKn kk d.2.2.2.1.2 ∧ sKn kk d.2.2.2.2.2) ∧ d.2.2.1 ≤ 5) ∧ (g = 23 ∨ g = 24 ∨ g = 25 → a = .leaf ∧ b = .leaf) ∧ cRq kk a ∧ cRq kk b
/-- C's of an E -/
def tCq (kk : Nat → Int32) : tT → Prop
  | .leaf => True
  | .inner g _ _ a b => (if g = 4 ∨ g = 5 then cRq kk a ∧ kD a ≤ 1200 ∧ dNh a ≤ 32 ∧ cDp a ≤ 100 else tCq kk a) ∧ tCq kk b
section CRQ
variable {kk pp ee f : Nat → Int32} {T len cnt : Nat} {V : zSt} {env : List Nat} {B : Int}
theorem aC_rq (k i : Nat) (t : tT) (j : Nat) (h : aEi kk T (aSi kk T k) i = .inr (t, j)) : cRq kk t := by
  refine (aC_ind (P := fun i t j => cRq kk t) (R := fun i t j => cRq kk t) ?_ ?_ ?_ ?_ ?_ ?_ ?_ ?_ k).2 i t j h
  · exact fun i c j _ h => ⟨fun e => absurd e (by decide), fun e => absurd e (by decide), fun e => absurd e (by decide), h, trivial⟩
  · exact fun i c j _ h _ => h
  · exact fun i v h => ⟨fun _ => (by show v ≤ 1; omega), fun e => absurd e (by decide), fun _ => ⟨rfl, rfl⟩, trivial, trivial⟩
  · exact fun i S j h1 _ => ⟨fun e => absurd e (by decide), fun e => absurd e (by decide), fun _ => ⟨rfl, rfl⟩, trivial, trivial⟩
  · exact fun i S l S' j hr h1 h2 => ⟨fun e => absurd e (by decide), fun _ => ⟨⟨aSm_kn h1, aSm_kn h2⟩, (by show aRl kk l ≤ 5; omega)⟩, fun _ => ⟨rfl, rfl⟩, trivial, trivial⟩
  · exact fun i => trivial
  · exact fun g i c l cs j _ _ h1 h2 => ⟨fun e => absurd e (by decide), fun e => absurd e (by decide), fun e => absurd e (by decide), h1, h2⟩
  · exact fun g i c l cs j hg h1 h2 => by
      cases cs with
      | leaf => exact h1
      | inner => exact ⟨fun e => (by omega), fun e => (by omega), fun e => (by omega), h1, h2⟩
theorem cRq.dk : ∀ (t : tT), cRq kk t → dOk t = true
  | .leaf, _ => rfl
  | .inner g d z a b, ⟨h1, _, _, ha, hb⟩ => by
    show ((!decide (g = 23) || decide (d.2.1 ≤ 1)) && (dOk a && dOk b)) = true
    rw [cRq.dk a ha, cRq.dk b hb, Bool.and_true, Bool.and_true]
    by_cases c : g = 23
    · rw [decide_eq_true (h1 c), Bool.or_true]
    · rw [decide_eq_false c]; rfl
theorem cRq.nh : ∀ (t : tT), cRq kk t → dNh t ≤ kH t
  | .leaf, _ => Nat.le_refl _
  | .inner g d z a b, ⟨_, _, h3, ha, hb⟩ => by
    have A := cRq.nh a ha
    have Bq := cRq.nh b hb
    unfold dNh kH
    by_cases c : g = 24 ∨ g = 25 ∨ g = 23
    · obtain ⟨ea, eb⟩ := h3 (by omega)
      subst ea eb
      rw [if_neg (show ¬ g = 22 by omega)]
      exact Nat.zero_le _
    · rw [if_neg c]
      by_cases c2 : g = 22
      · rw [if_pos c2, if_pos c2]; omega
      · rw [if_neg c2, if_neg c2]; omega
theorem aE_cq (hz : ∀ i, cnt ≤ i → kk i = 0) (hc : cnt ≤ 2000) (k i : Nat) (t : tT) (j : Nat) (h : aE kk T k i = .inr (t, j)) (hk : k ≤ 31) : tCq kk t := by
  have C : ∀ {k i l : Nat} {c : tT}, k + 1 ≤ 31 → aEi kk T (aSi kk T (k + 1)) (i + 1) = .inr (c, l) → cRq kk c ∧ kD c ≤ 1200 ∧ dNh c ≤ 32 ∧ cDp c ≤ 100 := fun hk h => by
    have q := aC_rq _ _ _ _ h
    obtain ⟨r1, r2, r3, r4, r5⟩ := aEi_rd (aSi_rd hz _) _ _ _ h
    have := r2.lt hz r1
    have := q.nh
    have dp := aEi_dp (aSi_dp _) _ _ _ h
    exact ⟨q, by unfold kD; omega, by omega, by omega⟩
  revert hk
  refine aE_ind (P := fun k i t j => k ≤ 31 → tCq kk t) (Q := fun k q i t j => k ≤ 31 → tCq kk t) ?_ ?_ ?_ ?_ ?_ ?_ ?_ ?_ ?_ ?_ ?_ ?_ ?_ ?_ ?_ ?_ ?_ ?_ ?_ ?_ k i t j h
  · intro k i a l b j _ _ Pa _ Pb hk
    exact ⟨Pa (by omega), Pb (by omega)⟩
  · intro k i q a l b j _ _ _ _ _ _ Pa _ Pb hk
    exact ⟨Pa (by omega), Pb (by omega)⟩
  · intro k i a j _ _ _ Pa hk
    exact ⟨Pa (by omega), trivial⟩
  · intro k i c l a m b j _ h1 _ Pa _ Pb hk
    exact ⟨C hk h1, Pa (by omega), Pb (by omega)⟩
  · intro k i c l a j _ h1 _ Pa hk
    exact ⟨C hk h1, Pa (by omega)⟩
  · intro k i S l S' m a j _ _ _ h1 _ _ h2 _ Pa hk
    exact ⟨Pa (by omega), trivial⟩
  · intro k i S j _ h1 hk
    exact ⟨trivial, trivial⟩
  · intro k i g hg hk
    rcases hg with ⟨_, rfl⟩ | ⟨_, rfl⟩ | ⟨_, rfl⟩ <;> exact ⟨trivial, trivial⟩
  · intro k i S j _ h1 hk
    exact ⟨trivial, trivial⟩
  · intro k i g S l S' j hg h1 h2 hk
    rcases hg with ⟨_, rfl⟩ | ⟨_, rfl⟩ | ⟨_, rfl⟩ <;> exact ⟨trivial, trivial⟩
  · intro k i S l _ _ h1 _ hk
    exact ⟨trivial, trivial⟩
  · intro k i as j _ _ Qa hk
    exact ⟨Qa (by omega), trivial⟩
  · intro k i a l _ Pa _ hk
    exact ⟨Pa (by omega), trivial⟩
  · intro k i S l _ h1 _ hk
    exact ⟨trivial, trivial⟩
  · intro k i a l b j _ _ Pa _ _ _ _ Pb hk
    exact ⟨Pa (by omega), Pb (by omega)⟩
  · intro k q i _ hk
    exact trivial
  · intro k q i b j _ _ _ Qb hk
    exact ⟨trivial, Qb hk⟩
  · intro k q i S l b j _ _ h1 _ Qb hk
    exact ⟨trivial, Qb hk⟩
  · intro k q i e l b j _ _ Pe _ Qb hk
    exact ⟨Pe hk, Qb hk⟩
  · intro k q i v b j _ Qb hk
    exact ⟨trivial, Qb hk⟩
/-- numbers and forms of a C -/
theorem dNu_of (hT : 2010 ≤ T) (hw : rW V T len cnt kk pp ee f) (hB : 40040002 ≤ B) : ∀ (t : tT), tGd kk cnt t → cRq kk t → cRtF (nFind f pp ee env) t → dNu T f pp ee env B t
  | .leaf, _, _, _ => trivial
  | .inner g d z a b, ⟨g1, _, ⟨g3, _⟩, ga, gb⟩, ⟨_, h2, h3, ha, hb⟩, hf => by
    unfold cRtF at hf
    refine ⟨fun e => ?_, fun e => g3 e, ?_, ?_⟩
    · rw [if_pos e] at hf
      obtain ⟨⟨k1, k2⟩, k3⟩ := h2 e
      obtain ⟨b1, b2⟩ := dPl_sm hT hw g1.1 k1 g1.2 k2
      exact ⟨hf, k3, ⟨by omega, by omega⟩, by omega, by omega⟩
    · by_cases e : g = 25
      · rw [(g3 (Or.inr e)).1]; trivial
      · rw [if_neg e] at hf
        exact dNu_of hT hw hB a ga ha hf.1
    · by_cases e : g = 25
      · rw [(g3 (Or.inr e)).2]; trivial
      · rw [if_neg e] at hf
        exact dNu_of hT hw hB b gb hb hf.2
end CRQ
