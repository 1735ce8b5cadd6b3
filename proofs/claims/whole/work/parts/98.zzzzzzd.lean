/-! what is a function by the equations is one in the graph -/
section RFN
variable {s : mS} {g : gG} {T : Nat → mF} {t : mF} {x : Nat}
theorem gT.fn (h : gT g T s) (hK : gK g) (hC : gC g) (hs : mSat s.1) (hy : gY g T s x t) (hi : ∀ α, mAll s.1 α → yIs (t α)) : g.K (gR g x) = 1 ∧ gY g T s (gR g x) t := by
  have hr := gR_lt hK.1 hy.1
  have hrs := gR_root hK.1 hy.1
  have yr : gY g T s (gR g x) t := ⟨hr, fun α hα => (gR_eq hK.1 hy.1 (h.1 α hα)).trans (hy.2 α hα)⟩
  refine ⟨?_, yr⟩
  generalize gR g x = r at hr hrs yr
  have no : ∀ k, ¬ ∃ ρ, gS g ρ ∧ ρ r = yB k := fun k ⟨ρ, p1, p2⟩ => by
    obtain ⟨α, q1, q2⟩ := h.2.1 ρ p1
    have e : t α = yB k := by rw [← yr.2 α q1, ← q2 r hr]; exact p2
    have z : yIs (t α) := hi α q1
    rw [e] at z
    exact yA_ne z.symm
  obtain ⟨α, hα⟩ := hs
  by_cases c1 : g.K r = 1
  · exact c1
  · exfalso
    by_cases c0 : g.K r = 0
    · obtain ⟨ρ, p1, p2, -⟩ := gEx (B := fun y => y = r) (β := fun _ => yB 0) hK hC (h.1 α hα) (fun y _ _ e => ⟨fun z => absurd (e ▸ z) c1, fun k z => by rw [e, c0] at z; omega⟩)
      exact no 0 ⟨ρ, p1, p2 r hr (gR_fix hrs)⟩
    · exact no (g.K r - 2) ⟨_, h.1 α hα, (h.1 α hα r hr).2.2 (g.K r - 2) (by omega)⟩
end RFN
