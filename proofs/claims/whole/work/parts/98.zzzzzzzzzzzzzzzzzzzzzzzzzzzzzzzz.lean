/-! run(), the class: one NAME more; match -/
section HPU
variable {κ : oKv} {T n : Nat} {σ : oSt} {ma ha hl top : Nat} {fm : List Value} {hp hp' : Nat → Int64} {G : hG} {nb : tT → List Nat → Nat → Prop} {h : xmHp} {a : Nat}
theorem hSc.push {l : List xmV} {v : xmV} {x : Int64} (H : hHp nb G top hp h) (hs : hSc G (hAr G.2.1 h.2.1) top hp l a) (hv : hV G v x) (hk : ∀ i, i < top → hp' i = hp i) (h1 : hp' top = x) (h2 : hp' (top + 1) = xmNi a) : hSc G (hAr G.2.1 h.2.1) (top + 2) hp' (v :: l) top := by
  have t4 := H.1.2.2.2.1
  have N : ∀ y, top ≤ y → y < top + 2 → hC (hAr G.2.1 h.2.1) (top + 2) y := fun y q1 q2 => ⟨by omega, q2, fun w => by have := hAr_lt H w; omega⟩
  exact ⟨⟨N _ (Nat.le_refl _) (by omega), N _ (by omega) (by omega)⟩, by rw [h1]; exact hv, a, h2, hs.kp (hGe.rf G) (fun y hy => ⟨⟨hy.1, by have := hy.2.1; omega, hy.2.2⟩, hk y hy.2.1⟩)⟩
theorem hGr.pm {σ' : oSt} {ha' hl' : Nat} {gm : List Value} (g : hGr ma ha hl σ σ' ha' hl') (hml : ma < σ.2.1) : hGr ma ha hl σ (oput σ' ma (.inr (5, gm))) ha' hl' := by
  obtain ⟨g1, g2, g3⟩ := g
  refine ⟨fun x hx q1 q2 => (oput_ne q1).trans (g1 x hx q1 q2), fun q hq => ?_, g3⟩
  have hq : σ'.2.1 ≤ q := hq
  have q1 : q ≠ ma := fun w => by
    rcases g3 with ⟨-, -, e⟩ | ⟨-, -, e⟩
    · rw [e] at hq; omega
    · rw [e] at hq
      have hq : σ.2.1 + 1 ≤ q := hq
      omega
  exact (oput_ne q1).trans (g2 q hq)
/-- a pair, and the scope is it -/
theorem h_push {x : Int64} (M : hMa ma fm ha hl hp top σ) (hk : top + 2 ≤ 332100) (hne : ma ≠ ha) (hml : ma < σ.2.1) (hhl : ha < σ.2.1) (hfr : ∀ q, σ.2.1 ≤ q → σ.1 q = none) : ∃ σ1 σ' ha' hl' hp', oF κ T (n + 3) 79 [va_rf (some ma), .long x, .int (nI a)] σ = some (some (.int (nI top)), σ1) ∧ opf σ1 (some ma) 5 10 (.int (nI top)) = some σ' ∧ hMa ma (((fm.set 4 (.ref ha')).set 5 (.int (nI (top + 2)))).set 10 (.int (nI top))) ha' hl' hp' (top + 2) σ' ∧ ((∀ i, i < top → hp' i = hp i) ∧ hp' top = x ∧ hp' (top + 1) = xmNi a) ∧ hGr ma ha hl σ σ' ha' hl' ∧ ha' ≠ ma ∧ ha' < σ'.2.1 := by
  obtain ⟨σ1, ha', hl', hp', P1, P2, P3, P4, P5, P6⟩ := h_pair (κ := κ) (T := T) (n := n) (x := x) (b := a) M hk hne hml hhl hfr
  obtain ⟨⟨m1, m2⟩, ⟨m3, m4⟩, m5, m6, m7, m8⟩ := P2
  refine ⟨σ1, _, ha', hl', hp', P1, opf_at m1 (by rw [m2]; decide), ⟨⟨oput_eq _ _ _, by rw [List.length_set]; exact m2⟩, ⟨by rw [List.getElem?_set_ne (by decide)]; exact m3, by rw [List.getElem?_set_ne (by decide)]; exact m4⟩, (oput_ne P5).trans m5, m6, m7, m8⟩, P3, P4.pm hml, P5, P6⟩
/-- two growths are one -/
theorem hGr.le {σ' : oSt} {ha' hl' : Nat} (g : hGr ma ha hl σ σ' ha' hl') : σ.2.1 ≤ σ'.2.1 ∧ (σ'.2.2.2 + 2 * hl ≤ σ.2.2.2 + 2 * hl' ∧ 64 * σ'.2.2.1 + hl ≤ 64 * σ.2.2.1 + hl' ∧ (hl' = hl ∨ hl' ≤ 664200)) := by
  obtain ⟨-, -, ⟨-, e2, e⟩ | ⟨-, e2, e⟩⟩ := g
  · rw [e, e2]; exact ⟨Nat.le_refl _, Nat.le_refl _, Nat.le_refl _, Or.inl rfl⟩
  · rw [e]
    refine ⟨Nat.le_succ _, ?_⟩
    show (σ.2.2.2 + hl' + 2 * hl ≤ σ.2.2.2 + 2 * hl' ∧ 64 * (σ.2.2.1 + 1) + hl ≤ 64 * σ.2.2.1 + hl' ∧ (hl' = hl ∨ hl' ≤ 664200))
    omega
end HPU
