/-! ROOM: the calls of a text, and what they ask for -/
section CVC
variable (f pp ee : Nat → Int32) (tE tN : Nat → tY)
/-- calls: the type of what is called, the number of ARGS -/
def cvC : tT → List Nat → List (tY × Nat)
  | .leaf, _ => []
  | .inner g d _ a b, env =>
    if g = 1 then cvC a env ++ cvC b (env ++ [d.1 + 1])
    else if g = 2 then cvC a (env ++ ([d.1 + 2] ++ List.range' (d.1 + 3) d.2.1)) ++ cvC b (env ++ [d.1 + 2])
    else if g = 3 then cvC a (env ++ [d.1 + 1])
    else if g = 4 ∨ g = 5 then cvC b env
    else if g = 6 ∨ g = 16 then cvC a env
    else if g = 15 then (tN (gNu f pp ee env d.1), tQn a) :: cvC a env
    else if g = 19 then cvC a env ++ cvC b (env ++ [d.2.1, d.2.1 + 1])
    else if g = 31 ∨ g = 34 then cvC a env ++ cvC b env
    else if g = 33 ∨ g = 35 then cvC b env
    else []
/-- arrows that let rec and fun have of their own: the unit, how far -/
def cvO : tT → List (tY × Nat)
  | .leaf => []
  | .inner g d _ a b =>
    if g = 1 then cvO a ++ cvO b
    else if g = 2 then (tN (d.1 + 2), d.2.1) :: (cvO a ++ cvO b)
    else if g = 3 then (tE d.1, 1) :: cvO a
    else if g = 4 ∨ g = 5 then cvO b
    else if g = 6 ∨ g = 16 then cvO a
    else if g = 15 then cvO a
    else if g = 19 then cvO a ++ cvO b
    else if g = 31 ∨ g = 34 then cvO a ++ cvO b
    else if g = 33 ∨ g = 35 then cvO b
    else []
end CVC
/-- an arrow that is asked for by one of these -/
def cvQ (L : List (tY × Nat)) (z : tY) : Prop := ∃ c, c ∈ L ∧ ∃ i, i < c.2 ∧ z = yRs i c.1
noncomputable def cvA (L : List (tY × Nat)) (z : tY) : Bool := @decide (cvQ L z) (Classical.propDecidable _)
theorem cvA_of {L : List (tY × Nat)} {z : tY} (h : cvQ L z) : cvA L z = true := @decide_eq_true _ (Classical.propDecidable _) h
theorem cvA_to {L : List (tY × Nat)} {z : tY} (h : cvA L z = true) : cvQ L z := @of_decide_eq_true _ (Classical.propDecidable _) h
section CVT
variable {f pp ee : Nat → Int32} {tE tN : Nat → tY} {L : List (tY × Nat)}
set_option maxHeartbeats 1000000 in
theorem cv_a : ∀ (t : tT) (env : List Nat), (∀ c, c ∈ cvC f pp ee tN t env → c ∈ L) → (∀ c, c ∈ cvO tE tN t → c ∈ L) → gAa f pp ee tE tN (cvA L) t env
  | .leaf, _, _, _ => trivial
  | .inner g d u a b, env, hC, hO => by
    unfold cvC at hC
    unfold cvO at hO
    unfold gAa
    by_cases c1 : g = 1
    · rw [if_pos c1] at hC hO ⊢
      exact ⟨cv_a a _ (fun c h => hC c (List.mem_append_left _ h)) (fun c h => hO c (List.mem_append_left _ h)), cv_a b _ (fun c h => hC c (List.mem_append_right _ h)) (fun c h => hO c (List.mem_append_right _ h))⟩
    rw [if_neg c1] at hC hO ⊢
    by_cases c2 : g = 2
    · rw [if_pos c2] at hC hO ⊢
      exact ⟨fun i hi => cvA_of ⟨_, hO _ (List.mem_cons_self ..), i, hi, rfl⟩, cv_a a _ (fun c h => hC c (List.mem_append_left _ h)) (fun c h => hO c (List.mem_cons_of_mem _ (List.mem_append_left _ h))), cv_a b _ (fun c h => hC c (List.mem_append_right _ h)) (fun c h => hO c (List.mem_cons_of_mem _ (List.mem_append_right _ h)))⟩
    rw [if_neg c2] at hC hO ⊢
    by_cases c3 : g = 3
    · rw [if_pos c3] at hC hO ⊢
      exact ⟨cvA_of ⟨_, hO _ (List.mem_cons_self ..), 0, Nat.zero_lt_one, rfl⟩, cv_a a _ hC (fun c h => hO c (List.mem_cons_of_mem _ h))⟩
    rw [if_neg c3] at hC hO ⊢
    by_cases c4 : g = 4 ∨ g = 5
    · rw [if_pos c4] at hC hO ⊢
      exact cv_a b _ hC hO
    rw [if_neg c4] at hC hO ⊢
    by_cases c6 : g = 6 ∨ g = 16
    · rw [if_pos c6] at hC hO ⊢
      exact cv_a a _ hC hO
    rw [if_neg c6] at hC hO ⊢
    by_cases c15 : g = 15
    · rw [if_pos c15] at hC hO ⊢
      exact ⟨fun i hi => cvA_of ⟨_, hC _ (List.mem_cons_self ..), i, hi, rfl⟩, cv_a a _ (fun c h => hC c (List.mem_cons_of_mem _ h)) hO⟩
    rw [if_neg c15] at hC hO ⊢
    by_cases c19 : g = 19
    · rw [if_pos c19] at hC hO ⊢
      exact ⟨cv_a a _ (fun c h => hC c (List.mem_append_left _ h)) (fun c h => hO c (List.mem_append_left _ h)), cv_a b _ (fun c h => hC c (List.mem_append_right _ h)) (fun c h => hO c (List.mem_append_right _ h))⟩
    rw [if_neg c19] at hC hO ⊢
    by_cases c31 : g = 31 ∨ g = 34
    · rw [if_pos c31] at hC hO ⊢
      exact ⟨cv_a a _ (fun c h => hC c (List.mem_append_left _ h)) (fun c h => hO c (List.mem_append_left _ h)), cv_a b _ (fun c h => hC c (List.mem_append_right _ h)) (fun c h => hO c (List.mem_append_right _ h))⟩
    rw [if_neg c31] at hC hO ⊢
    by_cases c33 : g = 33 ∨ g = 35
    · rw [if_pos c33] at hC hO ⊢
      exact cv_a b _ hC hO
    rw [if_neg c33]
    trivial
end CVT
section TXV
variable {T len cnt j N S P Q x0 : Nat} {kk pp ee f fc : Nat → Int32} {xs : List tQ} {is : List (Nat × Nat)} {e : tT} {α : Nat → tY} {τ : zSt}
/-- **every arrow of a PROGRAM's types is asked for by a call, a let rec or a fun** -/
theorem tx_cv (hT : 2010 ≤ T) (hp : pgT T len cnt j kk pp ee f fc xs is e α) (hr : rPo T len cnt kk pp ee f xs is e N S P Q x0 τ) : (∀ u, u ∈ tTg e → ∀ z, yIn z (pTE f pp ee is e α u) → cvQ (cvC f pp ee (pTN f pp ee is e α) e (is.map Prod.fst)) z ∨ cvQ (cvO (pTE f pp ee is e α) (pTN f pp ee is e α) e) z) ∧ ∀ u, u ∈ is.map Prod.fst ++ tW e → ∀ z, yIn z (pTN f pp ee is e α u) → cvQ (cvC f pp ee (pTN f pp ee is e α) e (is.map Prod.fst)) z ∨ cvQ (cvO (pTE f pp ee is e α) (pTN f pp ee is e α) e) z := by
  have h := tx_ar (A := cvA (cvC f pp ee (pTN f pp ee is e α) e (is.map Prod.fst) ++ cvO (pTE f pp ee is e α) (pTN f pp ee is e α) e)) hT hp hr (cv_a e _ (fun c h => List.mem_append_left _ h) (fun c h => List.mem_append_right _ h))
  have sp : ∀ z, cvA (cvC f pp ee (pTN f pp ee is e α) e (is.map Prod.fst) ++ cvO (pTE f pp ee is e α) (pTN f pp ee is e α) e) z = true → cvQ (cvC f pp ee (pTN f pp ee is e α) e (is.map Prod.fst)) z ∨ cvQ (cvO (pTE f pp ee is e α) (pTN f pp ee is e α) e) z := fun z hz => by
    obtain ⟨c, h1, h2⟩ := cvA_to hz
    rcases List.mem_append.mp h1 with h1 | h1
    · exact Or.inl ⟨c, h1, h2⟩
    · exact Or.inr ⟨c, h1, h2⟩
  exact ⟨fun u hu z hz => sp z (h.1 u hu z hz), fun u hu z hz => sp z (h.2 u hu z hz)⟩
end TXV
