/-! CAPACITIES: arrows of a PROGRAM's types have roots -/
section TXR
variable {T len cnt j N S P Q x0 : Nat} {kk pp ee f fc : Nat → Int32} {xs : List tQ} {is : List (Nat × Nat)} {e : tT} {α : Nat → tY} {τ : zSt}
theorem mIn_0 {u : Nat} : ∀ (is : List (Nat × Nat)) (s : mS), u ∉ is.map Prod.fst → (mIn is s).2.2.1 u = s.2.2.1 u
  | [], _, _ => rfl
  | x :: xs, s, h => by
    have h : u ∉ x.1 :: xs.map Prod.fst := h
    show (mIn xs (mNt x.1 (mB x.2) s)).2.2.1 u = _
    rw [mIn_0 xs _ (fun z => h (List.mem_cons_of_mem _ z))]
    exact mUp_ne _ _ (fun z => h (by rw [z]; exact List.mem_cons_self ..))
/-- **roots of all arrows** -/
theorem tx_rp (hT : 2010 ≤ T) (hp : pgT T len cnt j kk pp ee f fc xs is e α) (hr : rPo T len cnt kk pp ee f xs is e N S P Q x0 τ) : (∀ u, u ∈ tTg e → ∀ z, yIn z (pTE f pp ee is e α u) → uRp (pTE f pp ee is e α) (pTN f pp ee is e α) (gUn (pTN f pp ee is e α) e (is.map Prod.fst)) (gLt e) z) ∧ ∀ u, u ∈ is.map Prod.fst ++ tW e → ∀ z, yIn z (pTN f pp ee is e α u) → uRp (pTE f pp ee is e α) (pTN f pp ee is e α) (gUn (pTN f pp ee is e α) e (is.map Prod.fst)) (gLt e) z := by
  obtain ⟨⟨-, -, -, -, -, f3, -⟩, -, -, w0, nd, gok⟩ := tx_1 hT hp hr
  have hp' := hp
  obtain ⟨-, -, -, -, -, ⟨⟨g1, g2, ⟨i0, g3⟩, ⟨-, -, g4''⟩, -, g6, -⟩, -, -, p6'''⟩, -⟩ := hp
  have h0 : yK (pTN f pp ee is e α 0) ≠ 1 := by
    have e1 : (mEnd f pp ee is e).2.2.1 0 = mB 0 := by
      show (mE f pp ee e (is.map Prod.fst) (mIn is mI0)).1.2.2.1 0 = _
      rw [(mLe.e e _ _).2.2 0 (fun z => w0 (List.mem_append_right _ z)), mIn_0 is mI0 (fun z => w0 (List.mem_append_left _ z))]
      rfl
    show yK ((mEnd f pp ee is e).2.2.1 0 α) ≠ 1
    rw [e1]
    show yK (yB 0) ≠ 1
    decide
  have hin : ∀ (i : Nat) (y : Nat × Nat), is[i]? = some y → (mEnd f pp ee is e).2.2.1 y.1 α = mB y.2 α := fun i y hy => congrFun (in_ty g6 hy) α
  have hE : uEn (pTE f pp ee is e α) (pTN f pp ee is e α) (gUn (pTN f pp ee is e α) e (is.map Prod.fst)) (gLt e) i0 [] [] (is.map Prod.fst) := ⟨fun c hc => (by cases hc), fun c hc => (by cases hc), fun i u hi hk => by
    rw [List.getElem?_map] at hi
    cases ei : is[i]? with
    | none => rw [ei] at hi; cases hi
    | some y =>
      rw [ei] at hi
      injection hi with hi
      have hk : yK ((mEnd f pp ee is e).2.2.1 u α) = 1 := hk
      rw [← hi, hin i y ei] at hk
      have hk : y.2 + 2 = 1 := hk
      omega⟩
  have hA := ((gRp (L := is.map Prod.fst ++ tW e) (kk := kk) (cnt := cnt) h0 e).1 0 (by decide) g2 (is.map Prod.fst) _ i0 cnt [] [] gok g3 hE (fun _ h => h) (fun _ h => h) p6''' g4'' f3).1
  obtain ⟨a1, a2⟩ := tx_ar hT hp' hr hA
  exact ⟨fun u hu z hz => uAA_to (a1 u hu z hz), fun u hu z hz => uAA_to (a2 u hu z hz)⟩
end TXR
