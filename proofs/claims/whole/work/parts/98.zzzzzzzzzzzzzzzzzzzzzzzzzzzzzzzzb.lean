/-! run(), the class: what stays while the Machine goes -/
section HKE
variable {ma ha0 ha hl ha' hl' : Nat} {σ0 σ σ' : oSt}
/-- all cells but the Machine's, its heap's and (W) its rows' are as they were -/
def hKe (W : Nat → Prop) (ma ha0 : Nat) (σ0 σ : oSt) (ha : Nat) : Prop := (∀ x, x < σ0.2.1 → x ≠ ma → x ≠ ha0 → ¬ W x → σ.1 x = σ0.1 x) ∧ (∀ q, σ.2.1 ≤ q → σ.1 q = none) ∧ σ0.2.1 ≤ σ.2.1 ∧ (ha = ha0 ∨ σ0.2.1 ≤ ha) ∧ ha < σ.2.1 ∧ ha ≠ ma
variable {W : Nat → Prop}
theorem hKe.rf (h1 : ∀ q, σ0.2.1 ≤ q → σ0.1 q = none) (h2 : ha0 < σ0.2.1) (h3 : ha0 ≠ ma) : hKe W ma ha0 σ0 σ0 ha0 := ⟨fun _ _ _ _ _ => rfl, h1, Nat.le_refl _, Or.inl rfl, h2, h3⟩
/-- the heap grows, or is written -/
theorem hKe.gr (k : hKe W ma ha0 σ0 σ ha) (g : hGr ma ha hl σ σ' ha' hl') (h1 : ha' ≠ ma) (h2 : ha' < σ'.2.1) : hKe W ma ha0 σ0 σ' ha' := by
  obtain ⟨k1, k2, k3, k4, k5, k6⟩ := k
  have le := g.le.1
  obtain ⟨g1, g2, g3⟩ := g
  refine ⟨fun x hx q1 q2 q3 => ?_, g2, by omega, ?_, h2, h1⟩
  · have nx : x ≠ ha := fun w => by
      rcases k4 with e | e
      · exact q2 (w.trans e)
      · omega
    rw [g1 x (by omega) q1 nx]
    exact k1 x hx q1 q2 q3
  · rcases g3 with ⟨e, -⟩ | ⟨e, -⟩
    · rw [e]; exact k4
    · exact Or.inr (by omega)
/-- the Machine's cell, its heap's, or one of its rows -/
theorem hKe.pt {x : Nat} {c : oC} (k : hKe W ma ha0 σ0 σ ha) (hx : x = ma ∨ x = ha ∨ W x) (hl : x < σ.2.1) : hKe W ma ha0 σ0 (oput σ x c) ha := by
  obtain ⟨k1, k2, k3, k4, k5, k6⟩ := k
  refine ⟨fun y hy q1 q2 q3 => ?_, fun q hq => ?_, k3, k4, k5, k6⟩
  · have ny : y ≠ x := fun w => by
      rcases hx with e | e | e
      · exact q1 (w.trans e)
      · rcases k4 with e' | e'
        · exact q2 ((w.trans e).trans e')
        · omega
      · exact q3 (by rw [w]; exact e)
    rw [oput_ne ny]
    exact k1 y hy q1 q2 q3
  · have hq : σ.2.1 ≤ q := hq
    rw [oput_ne (by omega)]
    exact k2 q hq
/-- what the parser laid stays -/
theorem hKe.at {x : Nat} {c : oC} (k : hKe W ma ha0 σ0 σ ha) (hfr : ∀ q, σ0.2.1 ≤ q → σ0.1 q = none) (hm : ∃ fm, σ0.1 ma = some (.inr (5, fm))) (hh : ∃ n g, σ0.1 ha0 = some (.inl (.long, n, g))) (hx : σ0.1 x = some c) (n1 : ∀ fs, c ≠ .inr (5, fs)) (n2 : ∀ n g, c ≠ .inl (.long, n, g)) (n3 : ¬ W x) : σ.1 x = some c := by
  obtain ⟨fm, hm⟩ := hm
  obtain ⟨n, g, hh⟩ := hh
  have lt : x < σ0.2.1 := by
    by_cases w : x < σ0.2.1
    · exact w
    · rw [hfr x (by omega)] at hx; cases hx
  rw [k.1 x lt (fun w => ?_) (fun w => ?_) n3]
  · exact hx
  · rw [w, hm] at hx
    injection hx with hx
    exact n1 fm hx.symm
  · rw [w, hh] at hx
    injection hx with hx
    exact n2 n g hx.symm
end HKE
