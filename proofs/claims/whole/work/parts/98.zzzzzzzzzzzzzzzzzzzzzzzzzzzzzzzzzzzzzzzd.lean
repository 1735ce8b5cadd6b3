/-! CAPACITIES: arrows of a PROGRAM's types are asked for by its text -/
section TXA
variable {T len cnt j N S P Q x0 : Nat} {kk pp ee f fc : Nat → Int32} {xs : List tQ} {is : List (Nat × Nat)} {e : tT} {α : Nat → tY} {τ : zSt} {A : tY → Bool}
theorem tx_mg (hT : 2010 ≤ T) (hp : pgT T len cnt j kk pp ee f fc xs is e α) (hr : rPo T len cnt kk pp ee f xs is e N S P Q x0 τ) : ∃ i0, mG f pp ee (pTE f pp ee is e α) (pTN f pp ee is e α) α e (is.map Prod.fst) (mIn is mI0) i0 cnt := by
  obtain ⟨-, -, -, w0, nd, -⟩ := tx_1 hT hp hr
  obtain ⟨-, -, -, p4, -, ⟨⟨-, -, ⟨i0, g3⟩, -⟩, -⟩, -⟩ := hp
  obtain ⟨n1, n2, n3⟩ := List.nodup_append.mp nd
  refine ⟨i0, g3, p4, fun u hu => ?_, fun u _ => rfl, fun u _ _ => rfl, fun u hu z => ?_, n2⟩
  · show (mE f pp ee e (is.map Prod.fst) (mIn is mI0)).1.2.2.1 u α = _
    rw [(mLe.e e _ _).2.2 u (fun z => ?_)]
    rcases hu with hu | hu
    · rw [hu] at z
      exact w0 (List.mem_append_right _ z)
    · exact n3 u hu u z rfl
  · rcases hu with hu | hu
    · rw [hu] at z
      exact w0 (List.mem_append_right _ z)
    · exact n3 u hu u z rfl
/-- **every arrow is asked for** -/
theorem tx_ar (hT : 2010 ≤ T) (hp : pgT T len cnt j kk pp ee f fc xs is e α) (hr : rPo T len cnt kk pp ee f xs is e N S P Q x0 τ) (hg : gAa f pp ee (pTE f pp ee is e α) (pTN f pp ee is e α) A e (is.map Prod.fst)) : (∀ u, u ∈ tTg e → ∀ z, yIn z (pTE f pp ee is e α u) → A z = true) ∧ ∀ u, u ∈ is.map Prod.fst ++ tW e → ∀ z, yIn z (pTN f pp ee is e α u) → A z = true := by
  obtain ⟨i0, G⟩ := tx_mg hT hp hr
  obtain ⟨-, -, -, -, -, ⟨⟨-, wf, -⟩, -⟩, -, -, -, -, ca, -⟩ := hp
  obtain ⟨M, -⟩ := (mE_cm (A := A) (kk := kk) (cnt := cnt) e).1 0 (by decide) wf _ _ _ _ G (mIv.in is _ mIv.i0) hg
  refine ⟨fun u hu z hz => ?_, fun u hu z hz => ?_⟩
  · have h := ca.2.1 u hu _ M.2.2.2
    have e2 : (mEnd f pp ee is e).2.2.2.1 u (fun i => yC A (α i)) = yC A ((mEnd f pp ee is e).2.2.2.1 u α) := M.2.1 u
    rw [e2] at h
    exact yLe.al _ h hz
  · have h := ca.2.2 u hu _ M.2.2.2
    have e2 : (mEnd f pp ee is e).2.2.1 u (fun i => yC A (α i)) = yC A ((mEnd f pp ee is e).2.2.1 u α) := M.1 u
    rw [e2] at h
    exact yLe.al _ h hz
end TXA
