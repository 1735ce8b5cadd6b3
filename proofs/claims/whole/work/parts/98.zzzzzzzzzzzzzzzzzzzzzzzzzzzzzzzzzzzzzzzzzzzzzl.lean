/-! ROOM: the calls of a PROGRAM -/
section CE4
variable {f pp ee : Nat → Int32} {tN : Nat → tY}
/-- a call has at most 4 ARGS -/
theorem cvE_4 {wt : Nat} : ∀ (t : tT), tA3 pp t → ∀ (env : List Nat) (rk : Nat → Nat) (c : tY × Nat × Nat × Nat), c ∈ cvE f pp ee wt tN t env rk → c.2.1 ≤ 4
  | .leaf, _, _, _, _, h => by cases h
  | .inner g d z a b, hA, env, rk, c, h => by
    obtain ⟨-, q4, hA1, hA2⟩ := hA
    have Ib := fun env' rk' h' => cvE_4 (wt := wt) b hA2 env' rk' c h'
    rw [cvE] at h
    by_cases c4 : g = 4 ∨ g = 5
    · rw [if_neg (by omega), if_neg (by omega), if_neg (by omega), if_pos c4] at h
      exact Ib _ _ h
    rw [if_neg c4] at hA1
    have Ia := fun env' rk' h' => cvE_4 (wt := wt) a hA1 env' rk' c h'
    by_cases c1 : g = 1
    · rw [if_pos c1] at h
      exact (List.mem_append.mp h).elim (Ia _ _) (Ib _ _)
    rw [if_neg c1] at h
    by_cases c2 : g = 2
    · rw [if_pos c2] at h
      exact (List.mem_append.mp h).elim (Ia _ _) (Ib _ _)
    rw [if_neg c2] at h
    by_cases c3 : g = 3
    · rw [if_pos c3] at h
      exact Ia _ _ h
    rw [if_neg c3, if_neg c4] at h
    by_cases c6 : g = 6 ∨ g = 16
    · rw [if_pos c6] at h
      exact Ia _ _ h
    rw [if_neg c6] at h
    by_cases c15 : g = 15
    · rw [if_pos c15] at h
      rcases List.mem_cons.mp h with e | e
      · rw [e]; exact q4 c15
      · exact Ia _ _ e
    rw [if_neg c15] at h
    by_cases c19 : g = 19
    · rw [if_pos c19] at h
      exact (List.mem_append.mp h).elim (Ia _ _) (Ib _ _)
    rw [if_neg c19] at h
    by_cases c31 : g = 31 ∨ g = 34
    · rw [if_pos c31] at h
      exact (List.mem_append.mp h).elim (Ia _ _) (Ib _ _)
    rw [if_neg c31] at h
    by_cases c33 : g = 33 ∨ g = 35
    · rw [if_pos c33] at h
      exact Ib _ _ h
    rw [if_neg c33] at h
    cases h
end CE4
section TCH
variable {T len cnt j N S P A x0 : Nat} {kk pp ee f fc : Nat → Int32} {xs : List tQ} {is : List (Nat × Nat)} {e : tT} {α : Nat → tY} {τ : zSt}
/-- **the calls of a PROGRAM lie side by side** -/
theorem tx_ch {wt : Nat} (hT : 2010 ≤ T) (hp : pgT T len cnt j kk pp ee f fc xs is e α) (hr : rPo T len cnt kk pp ee f xs is e N S P A x0 τ) : (∀ c, c ∈ cvE f pp ee wt (pTN f pp ee is e α) e (is.map Prod.fst) (fun _ => 0) → 0 < c.2.1 → yK c.1 = 1 ∧ chE (pTE f pp ee is e α) (pTN f pp ee is e α) (gUi e) (cvE f pp ee wt (pTN f pp ee is e α) e (is.map Prod.fst) (fun _ => 0)) c.1 c.2.2.1) ∧ (∀ c, c ∈ cvE f pp ee wt (pTN f pp ee is e α) e (is.map Prod.fst) (fun _ => 0) → c.2.1 ≤ 4) ∧ ∀ R : tY → Nat, (∀ y r, chE (pTE f pp ee is e α) (pTN f pp ee is e α) (gUi e) (cvE f pp ee wt (pTN f pp ee is e α) e (is.map Prod.fst) (fun _ => 0)) y r → yK y = 1 → r ≤ R y) → ∀ c, c ∈ cvE f pp ee wt (pTN f pp ee is e α) e (is.map Prod.fst) (fun _ => 0) → c.2.2.2 ≤ kB wt R c.2.1 c.1 c.2.2.1 := by
  obtain ⟨⟨-, -, -, -, -, f3, -⟩, -, -, w0, nd, gok⟩ := tx_1 hT hp hr
  obtain ⟨i1, -⟩ := pTN_in (f := f) (pp := pp) (ee := ee) (α := α) nd
  obtain ⟨-, -, -, -, -, ⟨⟨g1, g2, ⟨i0, g3⟩, ⟨-, -, g4''⟩, -, g6, -⟩, -, -, p6'''⟩, -⟩ := hp
  have h0 : yK (pTN f pp ee is e α 0) ≠ 1 := by
    have e1 : (mEnd f pp ee is e).2.2.1 0 = mB 0 := by
      show (mE f pp ee e (is.map Prod.fst) (mIn is mI0)).1.2.2.1 0 = _
      rw [(mLe.e e _ _).2.2 0 (fun z => w0 (List.mem_append_right _ z)), mIn_0 is mI0 (fun z => w0 (List.mem_append_left _ z))]
      rfl
    show yK ((mEnd f pp ee is e).2.2.1 0 α) ≠ 1
    rw [e1]
    show yK (yB 0) ≠ 1
    decide
  have hE : ∀ u, u ∈ is.map Prod.fst → yK (pTN f pp ee is e α u) = 1 → chE (pTE f pp ee is e α) (pTN f pp ee is e α) (gUi e) (cvE f pp ee wt (pTN f pp ee is e α) e (is.map Prod.fst) (fun _ => 0)) (pTN f pp ee is e α u) 0 := fun u hu hk => by
    obtain ⟨y, hy, rfl⟩ := List.mem_map.mp hu
    rw [i1 y hy] at hk
    have hk : y.2 + 1 + 1 = 1 := hk
    omega
  exact ⟨(cv_chE h0 e 0 g2 (is.map Prod.fst) (fun _ => 0) _ gok hE (fun x h => h) (fun c h => h)).1, fun c h => cvE_4 (wt := wt) e g4'' _ _ c h, fun R HP => (cv_kE h0 HP e f3 0 g2 (is.map Prod.fst) (fun _ => 0) _ gok hE (fun x h => h) (fun c h => h)).1⟩
end TCH
