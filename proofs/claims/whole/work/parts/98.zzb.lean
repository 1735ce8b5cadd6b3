/-! the class's parser: tools for E -/
/-- 1 at a fault -/
def fl (s : Sum Nat Nat) : Nat := match s with
  | .inl _ => 1
  | .inr _ => 0
theorem fl_le (s : Sum Nat Nat) : fl s ≤ 1 := by cases s with
  | inl j => exact Nat.le_refl _
  | inr j => exact Nat.zero_le _
theorem fl_bad {j : Nat} : fl (.inl j) = 1 := rfl
theorem fl_ok {j : Nat} : fl (.inr j) = 0 := rfl
theorem fl_to {α : Type} (s : Sum Nat Nat) (F : Nat → aR α) : fl s ≤ fl (aTo s F) := by
  cases s with
  | inl j => exact Nat.le_refl _
  | inr i => exact Nat.zero_le _
theorem aTo_inr {α : Type} {s : Sum Nat Nat} {F : Nat → aR α} {j : Nat} (h : aTo s F = .inr j) : ∃ i t, s = .inr i ∧ F i = .inr (t, j) := by
  cases s with
  | inl k => cases h
  | inr i =>
    refine ⟨i, ?_⟩
    rw [aTo_ok] at h
    cases e : F i with
    | inl k => rw [e] at h; cases h
    | inr p => obtain ⟨t, k⟩ := p; rw [e] at h; injection h with h; exact ⟨t, rfl, by rw [← h]⟩
theorem aTo_eq {α : Type} {s : Sum Nat Nat} {F : Nat → aR α} {i j : Nat} {t : α} (hs : s = .inr i) (h : F i = .inr (t, j)) : aTo s F = .inr j := by rw [hs, aTo_ok, h]; rfl
theorem on_inr {α β : Type} {r : aR α} {G : α → Nat → aR β} {x : β} {j : Nat} (h : r.on G = .inr (x, j)) : ∃ t i, r = .inr (t, i) ∧ G t i = .inr (x, j) := by
  cases r with
  | inl k => cases h
  | inr p => obtain ⟨t, i⟩ := p; exact ⟨t, i, rfl, h⟩
theorem on_to {α β γ : Type} (r : aR α) (G : α → Nat → aR β) (H : Nat → aR γ) (h : ∀ t j, r = .inr (t, j) → (G t j).st = (H j).st) : (r.on G).st = aTo r.st H := by
  cases r with
  | inl k => rfl
  | inr p => obtain ⟨t, i⟩ := p; exact h t i rfl
theorem on_end {α β : Type} (r : aR α) (G : α → Nat → aR β) (h : ∀ t j, r = .inr (t, j) → (G t j).st = .inr j) : (r.on G).st = r.st := by
  cases r with
  | inl k => rfl
  | inr p => obtain ⟨t, i⟩ := p; exact h t i rfl
theorem aMs_inr {kk : Nat → Int32} {k i j : Nat} {u : Unit} (h : aMs kk k i = .inr (u, j)) : aIs kk k i = true ∧ j = i + 1 := by
  unfold aMs at h
  split at h
  · injection h with h; injection h with h1 h2; exact ⟨by assumption, h2.symm⟩
  · cases h
/-- kept but for the cell e -/
def cFe (A : Nat → Nat) (e : Nat) (σ : oSt) (D : cDt) (σ' : oSt) (D' : cDt) : Prop := σ.2.1 ≤ σ'.2.1 ∧ (∀ a, a < σ.2.1 → ¬ cMu A D a → a ≠ e → σ'.1 a = σ.1 a) ∧ (D'.1.1 = D.1.1 ∨ σ.2.1 ≤ D'.1.1) ∧ (D'.1.2.1 = D.1.2.1 ∨ σ.2.1 ≤ D'.1.2.1)
theorem cFr.fe {A : Nat → Nat} {σ σ' : oSt} {D D' : cDt} (h : cFr A σ D σ' D') (e : Nat) : cFe A e σ D σ' D' := ⟨h.1, fun a h1 h2 _ => h.2.1 a h1 h2, h.2.2⟩
theorem cFe.fr {A : Nat → Nat} {σ σ' : oSt} {D D' : cDt} {e : Nat} (h : cFe A e σ D σ' D') (he : σ.2.1 ≤ e) : cFr A σ D σ' D' := ⟨h.1, fun a h1 h2 => h.2.1 a h1 h2 (by omega), h.2.2⟩
theorem cFe.put {A : Nat → Nat} {σ : oSt} {D : cDt} {e : Nat} {c : oC} : cFe A e σ D (oput σ e c) D := ⟨Nat.le_refl _, fun a _ _ h => oput_ne h, Or.inl rfl, Or.inl rfl⟩
theorem cFe.k0 {A : Nat → Nat} {σ σ' : oSt} {D : cDt} {e : Nat} (h : ∀ a, a ≠ A 0 → σ'.1 a = σ.1 a) (hn : σ.2.1 ≤ σ'.2.1) : cFe A e σ D σ' D := ⟨hn, fun a _ h2 _ => h a (fun z => h2 (Or.inl z)), Or.inl rfl, Or.inl rfl⟩
theorem cMu.bk {A : Nat → Nat} {σ : oSt} {D D' : cDt} {a : Nat} (h3 : D'.1.1 = D.1.1 ∨ σ.2.1 ≤ D'.1.1) (h4 : D'.1.2.1 = D.1.2.1 ∨ σ.2.1 ≤ D'.1.2.1) (ha : a < σ.2.1) (hm : ¬ cMu A D a) : ¬ cMu A D' a := fun hm' => hm (by
  unfold cMu at hm' ⊢
  rcases hm' with e | e | e | e | e | e
  · exact Or.inl e
  · exact Or.inr (Or.inl e)
  · exact Or.inr (Or.inr (Or.inl e))
  · exact Or.inr (Or.inr (Or.inr (Or.inl e)))
  · rcases h3 with z | z
    · exact Or.inr (Or.inr (Or.inr (Or.inr (Or.inl (e.trans z)))))
    · omega
  · rcases h4 with z | z
    · exact Or.inr (Or.inr (Or.inr (Or.inr (Or.inr (e.trans z)))))
    · omega)
theorem cFe.tr {A : Nat → Nat} {σ σ' σ'' : oSt} {D D' D'' : cDt} {e : Nat} (h : cFe A e σ D σ' D') (h' : cFe A e σ' D' σ'' D'') : cFe A e σ D σ'' D'' := by
  obtain ⟨a1, a2, a3, a4⟩ := h
  obtain ⟨b1, b2, b3, b4⟩ := h'
  refine ⟨by omega, fun a ha hm hne => ?_, ?_, ?_⟩
  · rw [b2 a (by omega) (cMu.bk a3 a4 ha hm) hne]
    exact a2 a ha hm hne
  · rcases b3 with z | z
    · rw [z]; exact a3
    · exact Or.inr (by omega)
  · rcases b4 with z | z
    · rw [z]; exact a4
    · exact Or.inr (by omega)
/-- a fault that the class tells only at the next expect: a 5th ARG -/
def cL (kk pp : Nat → Int32) (cnt at' : Nat) (bd : Int32) (s : Sum Nat Nat) : Prop := cO pp cnt at' bd s ∨ (s = .inl at' ∧ bd = -1 ∧ at' ≤ cnt ∧ aAr kk at' = true)
/-- NAMES as they stand before word i: in order, their objects apart -/
def cQn (pp ee f : Nat → Int32) (σ : oSt) (D : cDt) (nm : Nat → Option Nat) (ν : nSt) (cd : Nat) (nf : Int32) (i : Nat) : Prop := cNm pp ee f σ D nm ν cd nf ∧ nLt ν i ∧ (∀ u ∈ ν.2.1, ∀ v ∈ ν.2.1, nm u = nm v → u = v) ∧ (∀ u ∈ ν.1, u ∈ ν.2.1)
section CQO
variable {κ : oKv} {sz T n m len cnt : Nat} {kk pp ee f : Nat → Int32} {A : Nat → Nat} {nq ni : Int32} {rt : Value} {σ σ' : oSt} {D D' : cDt} {at' cd : Nat} {cn am bd nf ff : Int32} {s : Sum Nat Nat} {nm : Nat → Option Nat} {ν : nSt} {lo lo' e i : Nat}
/-- what is below lo is kept though e changes -/
theorem cKp.fe {fs fs' : List Value} (h : cV κ sz len cnt kk pp ee f A nq ni rt σ D at' cd cn am bd nf ff) (hr : cFe A e σ D σ' D') (he : σ.1 e = some (.inr (7, fs))) (he' : σ'.1 e = some (.inr (7, fs'))) (hlo : e < lo) (hl : lo' ≤ lo) (hlow : σ'.1 κ.2.2.1 = none) : cKp κ A D lo σ D' lo' σ' := by
  have K : ∀ a ci fs, σ.1 a = some (.inr (ci, fs)) → (ci = 6 ∨ ci = 7 ∨ ci = 11) → ∃ fs', σ'.1 a = some (.inr (ci, fs')) := fun a ci gs ea hc => by
    by_cases z : a = e
    · rw [z] at ea ⊢
      rw [he] at ea
      injection ea with ea; injection ea with ea; injection ea with e1 e2
      rw [← e1]; exact ⟨fs', he'⟩
    · exact ⟨gs, by rw [hr.2.1 a (alt h.1.1.1 ea) (cMu.no h ea hc) z]; exact ea⟩
  refine ⟨fun a ha => ⟨hr.2.1 a ha.2.1 ha.2.2 (by have := ha.1; omega), by have := ha.1; omega, by have := ha.2.1; have := hr.1; omega, cMu.bk hr.2.2.1 hr.2.2.2 ha.2.1 ha.2.2⟩, fun a gs ea => K a 6 gs ea (by omega), fun a gs ea => K a 7 gs ea (by omega), hlow⟩
theorem cL.o (h : cL kk pp cnt at' bd (.inr i)) : cO pp cnt at' bd (.inr i) := by
  rcases h with h | ⟨h, -⟩
  · exact h
  · cases h
/-- expect behind an E -/
theorem c_expL {k : Nat} (h : cV κ sz len cnt kk pp ee f A nq ni rt σ D at' cd cn am bd nf ff) (ho : cL kk pp cnt at' bd s) (hk : 0 < k ∧ k < 400) (hk2 : k ≠ 1 ∧ k ≠ 2 ∧ k ≠ 40 ∧ k ≠ 223 ∧ k ≠ 205) (hm : 3 ≤ n) : ∃ σ' at2 bd', oF κ T n 108 [va_rf (some (A 0)), .int (nI k)] σ = some (none, σ') ∧ cV κ sz len cnt kk pp ee f A nq ni rt σ' D at2 cd cn am bd' nf ff ∧ cO pp cnt at2 bd' (aTo s (aMs kk k)) ∧ cFr A σ D σ' D ∧ σ'.2 = σ.2 ∧ (∀ a, a ≠ A 0 → σ'.1 a = σ.1 a) ∧ at' ≤ at2 := by
  rcases ho with ho | ⟨ho, ho2, ho3, ho4⟩
  · exact c_expect h ho hk hm
  · obtain ⟨m, rfl⟩ : ∃ m, n = m + 1 := ⟨n - 1, by omega⟩
    have ho' : cO pp cnt at' bd (.inr at') := ⟨ho2, rfl, ho3⟩
    have nk : ¬ kk at' = nI k := fun z => by
      unfold aAr aIs at ho4
      rw [z] at ho4
      simp only [Bool.or_eq_true, decide_eq_true_eq] at ho4
      rcases ho4 with (((y | y) | y) | y) | y
      · exact hk2.1 (nI_inj' (by omega) (by omega) y)
      · exact hk2.2.1 (nI_inj' (by omega) (by omega) y)
      · exact hk2.2.2.1 (nI_inj' (by omega) (by omega) y)
      · exact hk2.2.2.2.1 (nI_inj' (by omega) (by omega) y)
      · exact hk2.2.2.2.2 (nI_inj' (by omega) (by omega) y)
    obtain ⟨σ1, a1, b1, f1, f2, f3, f4, f5, f6, f7⟩ := c_expect (κ := κ) (T := T) (n := m + 1) h ho' hk hm
    refine ⟨σ1, a1, b1, f1, f2, ?_, f4, f5, f6, f7⟩
    rw [ho]
    rw [aTo_ok] at f3
    unfold aMs aIs at f3
    rw [if_neg (fun z => nk (of_decide_eq_true z))] at f3
    exact f3
theorem cQn.k0 {nf2 : Int32} {ps : List Value} (h : cQn pp ee f σ D nm ν cd nf i) (h0 : σ.1 (A 0) = some (.inr (9, ps))) (hk : ∀ a, a ≠ A 0 → σ'.1 a = σ.1 a) (hnf : nf2 = nf) : cQn pp ee f σ' D nm ν cd nf2 i := ⟨h.1.k0 h0 hk hnf, h.2⟩
theorem cQn.le {i2 : Nat} (h : cQn pp ee f σ D nm ν cd nf i) (hi : i ≤ i2) : cQn pp ee f σ D nm ν cd nf i2 := ⟨h.1, fun x hx => by have := h.2.1 x hx; omega, h.2.2⟩
/-- other NAMES' state over the same NAMES -/
theorem cQn.nn {ν' : nSt} {D2 : cDt} {nf2 : Int32} (h : cQn pp ee f σ D nm ν cd nf i) (hn : cNm pp ee f σ' D2 nm ν' cd nf2) (h1 : ν'.1 = ν.1) (h2 : ν'.2.1 = ν.2.1) : cQn pp ee f σ' D2 nm ν' cd nf2 i := by
  obtain ⟨-, a2, a3, a4⟩ := h
  refine ⟨hn, ?_, ?_, ?_⟩
  · intro x hx; rw [h1, h2] at hx; exact a2 x hx
  · rw [h2]; exact a3
  · rw [h1, h2]; exact a4
/-- a node changed -/
theorem cQn.fl {b : Nat} {fs fs' : List Value} (h : cQn pp ee f σ D nm ν cd nf i) (hb : σ.1 b = some (.inr (7, fs))) : cQn pp ee f (oput σ b (.inr (7, fs'))) D nm ν cd nf i := ⟨h.1.gn (fun a c ea hc => by
  rw [oput_ne (fun z => by
    rw [z, hb] at ea; injection ea with ea; subst ea
    rcases hc with ⟨x, hx⟩ | ⟨x, hx⟩ | ⟨x, hx⟩ <;> cases hx)]
  exact ea), h.2⟩
theorem cQn.ex (h : cQn pp ee f σ D nm ν cd nf i) (hf : ∀ q, σ.2.1 ≤ q → σ.1 q = none) (hk : ∀ a, a < σ.2.1 → σ'.1 a = σ.1 a) : cQn pp ee f σ' D nm ν cd nf i := ⟨h.1.ex hf hk, h.2⟩
end CQO
