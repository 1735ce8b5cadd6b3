/-! the class's state while it finds types -/
/-- V with types in its NAMES and nodes -/
def vR (V σ : oSt) : Prop := (∀ a fs, V.1 a = some (.inr (7, fs)) → ∃ v, σ.1 a = some (.inr (7, fs.set 8 v)) ∧ ((∃ w, fs[8]? = some (.int w)) → ∃ w, v = .int w)) ∧ (∀ a fs, V.1 a = some (.inr (6, fs)) → ∃ v, σ.1 a = some (.inr (6, fs.set 2 v)) ∧ ((∃ w, fs[2]? = some (.int w)) → ∃ w, v = .int w)) ∧ (∀ a, a < V.2.1 → (∀ fs, V.1 a ≠ some (.inr (7, fs))) → (∀ fs, V.1 a ≠ some (.inr (6, fs))) → σ.1 a = V.1 a) ∧ (∀ a, V.2.1 ≤ a → V.1 a = none) ∧ ∀ a, σ.2.1 ≤ a → σ.1 a = none
section VRR
variable {κ : oKv} {T n mo y : Nat} {A : Nat → Nat} {V σ σ' : oSt}
theorem vR.lt (h : vR V σ) {a : Nat} {c : oC} (e : V.1 a = some c) : a < V.2.1 := by
  by_cases z : a < V.2.1
  · exact z
  · rw [h.2.2.2.1 a (by omega)] at e; cases e
/-- a node's field, not its type -/
theorem vR.nd (h : vR V σ) {m k : Nat} {fs : List Value} (e : V.1 m = some (.inr (7, fs))) (hk : k ≠ 8) : ofd σ (some m) 7 k = fs[k]? := by
  obtain ⟨v, e', -⟩ := h.1 m fs e
  rw [ofd_at e', List.getElem?_set_ne (fun z => hk z.symm)]
theorem vR.oc {ci : Nat} (h : vR V σ) {m : Nat} {fs : List Value} (e : V.1 m = some (.inr (ci, fs))) : ∃ fs', σ.1 m = some (.inr (ci, fs')) := by
  by_cases c7 : ci = 7
  · subst c7
    obtain ⟨v, e', -⟩ := h.1 m fs e
    exact ⟨_, e'⟩
  · by_cases c6 : ci = 6
    · subst c6
      obtain ⟨v, e', -⟩ := h.2.1 m fs e
      exact ⟨_, e'⟩
    · refine ⟨fs, (h.2.2.1 m (h.lt e) (fun fs' z => ?_) (fun fs' z => ?_)).trans e⟩
      · rw [e] at z; injection z with z; injection z with z; injection z with z; exact c7 z
      · rw [e] at z; injection z with z; injection z with z; injection z with z; exact c6 z
/-- a list is as it was -/
theorem vR.ls (h : vR V σ) (hκ : κ.2.2.1 < V.2.1) {x d cap len ci : Nat} {mc : Int32} {g : Nat → Option Nat} (e : cLs κ V x d cap len mc g ci) : cLs κ σ x d cap len mc g ci := by
  have e' := e
  obtain ⟨e1, e2, e3⟩ := e'
  refine e.keep (h.2.2.1 x (h.lt e1) (fun fs z => by rw [e1] at z; cases z) (fun fs z => by rw [e1] at z; cases z)) ?_ (fun a fs z => h.oc z)
  rcases e2 with ⟨-, -, z1, z2⟩ | ⟨z, -⟩
  · exact h.2.2.1 d (by rw [z1]; exact hκ) (fun fs z => by rw [z2] at z; cases z) (fun fs z => by rw [z2] at z; cases z)
  · exact h.2.2.1 d (h.lt z) (fun fs w => by rw [z] at w; cases w) (fun fs w => by rw [z] at w; cases w)
theorem cLs.o {x d cap len ci : Nat} {mc : Int32} {g : Nat → Option Nat} (h : cLs κ σ x d cap len mc g ci) (hl : len < 2 ^ 31) : oLs σ (some x) len g := by
  obtain ⟨e1, e2, e3⟩ := h
  refine ⟨x, d, oob_at e1, by rw [ofd_at e1]; rfl, by rw [ofd_at e1]; rfl, hl, fun j hj => ?_⟩
  rcases e2 with ⟨z, -⟩ | ⟨z, z2, -⟩
  · omega
  · unfold oar
    have zi : zin (nI j) cap = true := decide_eq_true ⟨by rw [nI_toInt (by omega)]; omega, by rw [nI_toInt (by omega)]; omega⟩
    simp only [z, zi, if_true, nI_clamp (show j < 2 ^ 31 by omega)]
/-- what the typer does to its own cells -/
theorem vR.yF (h : vR V σ) (hy : V.2.1 ≤ y) (hA : ∀ i, i < 6 → V.2.1 ≤ A i) (g : yF y A σ σ') : vR V σ' := by
  have low : ∀ a, a < V.2.1 → σ'.1 a = σ.1 a := fun a ha => g.1 a (by omega) (fun i hi => by have := hA i hi; omega)
  refine ⟨fun a fs e => ?_, fun a fs e => ?_, fun a ha n7 n6 => (low a ha).trans (h.2.2.1 a ha n7 n6), h.2.2.2.1, fun a ha => g.2.2 a (h.2.2.2.2 a (by rw [← g.2.1]; exact ha))⟩
  · obtain ⟨v, e', e2⟩ := h.1 a fs e
    exact ⟨v, (low a (h.lt e)).trans e', e2⟩
  · obtain ⟨v, e', e2⟩ := h.2.1 a fs e
    exact ⟨v, (low a (h.lt e)).trans e', e2⟩
/-- at the beginning -/
theorem vR.rf (hV : ∀ a, V.2.1 ≤ a → V.1 a = none) (h : ∀ a, a < V.2.1 → σ.1 a = V.1 a) (hf : ∀ a, σ.2.1 ≤ a → σ.1 a = none) : vR V σ := by
  have lt : ∀ a c, V.1 a = some c → a < V.2.1 := fun a c e => by
    by_cases z : a < V.2.1
    · exact z
    · rw [hV a (by omega)] at e; cases e
  have st : ∀ (fs : List Value) (k : Nat), ∃ v, fs.set k v = fs ∧ ∀ w, fs[k]? = some w → v = w := fun fs k => by
    cases e : fs[k]? with
    | none => exact ⟨.null, List.set_eq_of_length_le (List.getElem?_eq_none_iff.mp e), fun w z => by cases z⟩
    | some w =>
      obtain ⟨hk, e⟩ := List.getElem?_eq_some_iff.mp e
      exact ⟨w, by rw [← e]; exact List.set_getElem_self hk, fun w' z => by injection z⟩
  refine ⟨fun a fs e => ?_, fun a fs e => ?_, fun a ha _ _ => h a ha, hV, hf⟩
  · obtain ⟨v, e1, e2⟩ := st fs 8
    exact ⟨v, by rw [e1, h a (lt a _ e)]; exact e, fun ⟨w, ew⟩ => ⟨w, e2 _ ew⟩⟩
  · obtain ⟨v, e1, e2⟩ := st fs 2
    exact ⟨v, by rw [e1, h a (lt a _ e)]; exact e, fun ⟨w, ew⟩ => ⟨w, e2 _ ew⟩⟩
end VRR
