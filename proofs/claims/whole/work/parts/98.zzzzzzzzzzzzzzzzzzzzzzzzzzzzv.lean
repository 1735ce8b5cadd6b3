/-! accepted(): the PROGRAM goes on, what the facade and the reference know of it -/
section LA4
variable {kk pp ee f : Nat → Int32} {T len cnt N S P A x0 x p y pa ph ta th : Nat} {xs : List tQ} {is : List (Nat × Nat)} {e : tT} {α : Nat → tY} {g' : gG} {ρ' : Nat → tY} {σ u : oSt} {τ v : zSt} {fs : List Value} {w : Value} {kd : Int32}
theorem pgX.ac (h : pgX x p y kd σ) (hx : σ.1 x = some (.inr (14, fs))) (hP : acP pa ph ta th σ u) (ux : u.1 x = some (.inr (14, (fs.set 4 w).set 5 (.int (v.1 69))))) : pgX x p y kd u := by
  obtain ⟨gs, fm, ma, h1, h2, h3, h4, h5, h6, h7, h8, h9⟩ := h
  rw [hx] at h1
  injection h1 with h1; injection h1 with h1; injection h1 with _ h1
  subst h1
  have st : ∀ k, k ≠ 4 → k ≠ 5 → ((fs.set 4 w).set 5 (.int (v.1 69)))[k]? = fs[k]? := fun k h4 h5 => by
    rw [List.getElem?_set_ne (fun z => h5 z.symm), List.getElem?_set_ne (fun z => h4 z.symm)]
  exact ⟨_, fm, ma, ux, by rw [List.length_set, List.length_set]; exact h2, by rw [st 2 (by decide) (by decide)]; exact h3, by rw [st 3 (by decide) (by decide)]; exact h4, by rw [st 12 (by decide) (by decide)]; exact h5, hP.1 ma 5 fm h6 (by decide), h7, h8, h9⟩
theorem pgR.ac (h : pgR T len cnt kk pp ee f xs is e α N S P A x0 g' ρ' τ) (hv : acR τ v) : pgR T len cnt kk pp ee f xs is e α N S P A x0 g' ρ' v := by
  obtain ⟨h1, h2, ⟨⟨k, ⟨a1, a2⟩, ⟨b1, b2⟩, c⟩, h3⟩, h4, h5⟩ := h
  obtain ⟨-, -, r, -, s⟩ := hv
  refine ⟨by rw [s 66 (by decide) (by decide) (by decide) (by decide)]; exact h1, h2.keep (fun k hk => by rcases hk with rfl | rfl | rfl | rfl | rfl <;> exact s _ (by decide) (by decide) (by decide) (by decide)) (fun k hk _ _ _ => r k (by omega)), ⟨⟨k, ⟨by rw [s 59 (by decide) (by decide) (by decide) (by decide)]; exact a1, a2⟩, ⟨by rw [s 60 (by decide) (by decide) (by decide) (by decide)]; exact b1, b2⟩, fun t ht => by rw [r 34 (by decide), r 35 (by decide), r 36 (by decide), r 37 (by decide), r 38 (by decide)]; exact c t ht⟩, h3⟩, fun p hp ht => ?_, fun j u hu => by rw [r 31 (by decide)]; exact h5 j u hu⟩
  rw [nE_keep (fun k hk => r k (by omega))] at hp
  obtain ⟨c, c1, c2⟩ := h4 p hp ht
  exact ⟨c, by rw [r 39 (by decide)]; exact c1, c2⟩
end LA4
