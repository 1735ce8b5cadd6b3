/-! what the methods that are called keep (made by wip/opigen.py) -/
/-- which fields are written -/
def wrlL : List (Nat × Nat) := [(1, 0), (1, 1), (1, 2), (2, 0), (2, 1), (2, 2), (2, 3), (2, 4), (2, 5), (2, 6), (2, 7), (2, 8), (2, 9), (3, 3), (3, 6), (3, 7), (3, 8), (3, 9), (4, 0), (4, 1), (4, 2), (4, 3), (4, 4), (4, 5), (4, 6), (4, 7), (4, 8), (4, 9), (4, 10), (4, 11), (4, 12), (4, 13), (4, 14), (6, 0), (6, 3), (6, 4), (6, 5), (6, 6), (6, 7), (7, 20), (8, 1), (8, 2), (8, 3), (8, 4), (10, 0), (10, 1), (10, 2), (10, 3), (11, 0), (11, 1), (11, 2), (11, 3), (14, 4), (14, 5)]
/-- the row of longs va is as it was, and no Octagon has it -/
def lgP (va : Nat) (fv : Nat × (Nat → Int64)) (σ : oSt) : Prop := va < σ.2.1 ∧ σ.1 va = some (.inl (.long, fv.1, .inr (.inl fv.2))) ∧ ∀ o fs, σ.1 o = some (.inr (8, fs)) → fs[0]? ≠ some (.ref va)
/-- and what is answered is not it -/
def PIq (va : Nat) (fv : Nat × (Nat → Int64)) (r : oRs) : Prop := ∀ w, r = some w → lgP va fv w.2 ∧ w.1 ≠ some (.ref va)
section PIBL
variable {P : oSt → Prop}
theorem PIoL_none : PIo P none := fun w h => by cases h
theorem PIoL_some {x : Option Value} {σ : oSt} (h : P σ) : PIo P (some (x, σ)) := fun w e => by
  injection e with e
  rw [← e]; exact h
theorem PIoL_gd {b : Bool} {r : oRs} (h : PIo P r) : PIo P (ogd b r) := by
  unfold ogd
  split
  · exact h
  · exact PIoL_none
theorem PIoL_ite {c : Prop} [Decidable c] {a b : oRs} (h : PIo P a) (g : PIo P b) : PIo P (if c then a else b) := by
  split
  · exact h
  · exact g
theorem PIoL_bn {α : Type} {x : Option α} {f : α → oRs} (h : ∀ a, PIo P (f a)) : PIo P (obn x f) := by
  unfold obn
  split
  · exact h _
  · exact PIoL_none
theorem PIoL_bs {x : Option oSt} {f : oSt → oRs} (h : ∀ s, x = some s → P s) (g : ∀ s, P s → PIo P (f s)) : PIo P (obn x f) := by
  unfold obn
  split
  · exact g _ (h _ rfl)
  · exact PIoL_none
theorem PIoL_be {α : Type} {x : Option α} {f : α → oRs} (h : ∀ a, x = some a → PIo P (f a)) : PIo P (obn x f) := by
  unfold obn
  split
  · exact h _ rfl
  · exact PIoL_none
end PIBL
section PIB2
variable {va : Nat} {fv : Nat × (Nat → Int64)}
theorem lg_ovr {x : Option Value} {i : Option Nat} (h : ovr x = some i) : x = some (va_rf i) := by
  unfold ovr at h
  split at h
  · cases h; rfl
  · cases h; rfl
  · cases h
theorem lg_ofd {σ : oSt} {r : Option Nat} {ci k : Nat} {x : Value} (h : ofd σ r ci k = some x) : ∃ (a : Nat) (fs : List Value), r = some a ∧ σ.1 a = some (.inr (ci, fs)) ∧ fs[k]? = some x := by
  unfold ofd at h
  cases r with
  | none => cases h
  | some a =>
    dsimp only at h
    split at h
    next o ho =>
      split at h
      next hc => exact ⟨a, o.2, rfl, by rw [ho, ← hc], h⟩
      next => cases h
    next => cases h
theorem lg_opf {σ s1 : oSt} {r : Option Nat} {ci k : Nat} {x : Value} (h : opf σ r ci k x = some s1) : ∃ (a : Nat) (fs : List Value), r = some a ∧ σ.1 a = some (.inr (ci, fs)) ∧ k < fs.length ∧ s1 = oput σ a (.inr (ci, fs.set k x)) := by
  unfold opf at h
  cases r with
  | none => cases h
  | some a =>
    dsimp only at h
    split at h
    next o ho =>
      split at h
      next hc => cases h; exact ⟨a, o.2, rfl, by rw [ho, ← hc.1], hc.2, rfl⟩
      next => cases h
    next => cases h
theorem lg_osi {σ s1 : oSt} {r : Option Nat} {ty : FieldType} {i x : Int32} (h : osi σ r ty i x = some s1) : ∃ a n f y, r = some a ∧ σ.1 a = some (.inl (ty, n, .inl f)) ∧ s1 = oput σ a (.inl y) := by
  unfold osi at h
  cases r with
  | none => cases h
  | some a =>
    dsimp only at h
    split at h
    next t n f ho =>
      split at h
      next hc => cases h; exact ⟨a, n, f, _, rfl, by rw [ho, hc.1], rfl⟩
      next => cases h
    next => cases h
theorem lg_osj {σ s1 : oSt} {r : Option Nat} {i : Int32} {x : Int64} (h : osj σ r i x = some s1) : ∃ a y y', r = some a ∧ σ.1 a = some (.inl y) ∧ s1 = oput σ a (.inl y') := by
  unfold osj at h
  cases r with
  | none => cases h
  | some a =>
    dsimp only at h
    split at h
    next t n f ho =>
      split at h
      next hc => cases h; exact ⟨a, _, _, rfl, ho, rfl⟩
      next => cases h
    next => cases h
theorem lg_osr {σ s1 : oSt} {r : Option Nat} {i : Int32} {y : Option Nat} (h : osr σ r i y = some s1) : ∃ a ct ct', r = some a ∧ σ.1 a = some (.inl ct) ∧ ct.1 ≠ .long ∧ s1 = oput σ a (.inl ct') := by
  unfold osr at h
  repeat' split at h
  all_goals first
    | (cases h; done)
    | (injection h with h; exact ⟨_, _, _, rfl, by assumption, (fun z => by cases z), h.symm⟩)
theorem lgP.rw {σ : oSt} {a : Nat} {y y'} (h : lgP va fv σ) (e : σ.1 a = some (.inl y)) (ha : a ≠ va) : lgP va fv (oput σ a (.inl y')) := by
  obtain ⟨h1, h2, h3⟩ := h
  refine ⟨h1, by rw [oput_ne (fun z => ha z.symm)]; exact h2, fun o fs eo => ?_⟩
  by_cases z : o = a
  · subst z; rw [oput_eq] at eo; cases eo
  · rw [oput_ne z] at eo
    exact h3 o fs eo
theorem lgP.nx {σ : oSt} (h : lgP va fv σ) : (some σ.2.1 : Option Nat) ≠ some va := fun z => by
  have := h.1
  injection z with z
  omega
theorem lgP.fd {σ : oSt} {x r : Option Nat} (h : lgP va fv σ) (e : ovr (ofd σ x 8 0) = some r) : r ≠ some va := fun z => by
  obtain ⟨a, fs, -, e1, e2⟩ := lg_ofd (lg_ovr e)
  rw [z] at e2
  exact h.2.2 a fs e1 e2
theorem PIoL_pf {σ : oSt} {r : Option Nat} {ci k : Nat} {x : Value} {f : oSt → oRs} (h : lgP va fv σ) (hw : (ci, k) ≠ (8, 0)) (g : ∀ s, lgP va fv s → PIo (lgP va fv) (f s)) : PIo (lgP va fv) (obn (opf σ r ci k x) f) := PIoL_bs (fun s e => by
  obtain ⟨a, fs, -, e1, e2, rfl⟩ := lg_opf e
  obtain ⟨h1, h2, h3⟩ := h
  have ha : va ≠ a := fun z => by rw [z, e1] at h2; cases h2
  refine ⟨h1, by rw [oput_ne ha]; exact h2, fun o gs eo => ?_⟩
  by_cases z : o = a
  · subst z
    rw [oput_eq] at eo
    injection eo with eo; injection eo with eo; injection eo with eo1 eo2
    subst eo1 eo2
    by_cases hk : k = 0
    · exact absurd (by rw [hk]) hw
    · rw [List.getElem?_set_ne hk]
      exact h3 o fs e1
  · rw [oput_ne z] at eo
    exact h3 o gs eo) g
theorem PIoL_si {σ : oSt} {r : Option Nat} {ty : FieldType} {i x : Int32} {f : oSt → oRs} (h : lgP va fv σ) (g : ∀ s, lgP va fv s → PIo (lgP va fv) (f s)) : PIo (lgP va fv) (obn (osi σ r ty i x) f) := PIoL_bs (fun s e => by
  obtain ⟨a, n, f, y, -, e1, rfl⟩ := lg_osi e
  exact h.rw e1 (fun z => by rw [z, h.2.1] at e1; cases e1)) g
theorem PIoL_sj {σ : oSt} {r x0 : Option Nat} {i : Int32} {x : Int64} {f : oSt → oRs} (h : lgP va fv σ) (hr : ovr (ofd σ x0 8 0) = some r) (g : ∀ s, lgP va fv s → PIo (lgP va fv) (f s)) : PIo (lgP va fv) (obn (osj σ r i x) f) := PIoL_bs (fun s e => by
  obtain ⟨a, y, y', er, e1, rfl⟩ := lg_osj e
  exact h.rw e1 (fun z => h.fd hr (by rw [er, z]))) g
theorem PIoL_sr {σ : oSt} {r : Option Nat} {i : Int32} {y : Option Nat} {f : oSt → oRs} (h : lgP va fv σ) (g : ∀ s, lgP va fv s → PIo (lgP va fv) (f s)) : PIo (lgP va fv) (obn (osr σ r i y) f) := PIoL_bs (fun s e => by
  obtain ⟨a, ct, ct', -, e1, e2, rfl⟩ := lg_osr e
  exact h.rw e1 (fun z => by rw [z, h.2.1] at e1; injection e1 with e1; injection e1 with e1; rw [← e1] at e2; exact e2 rfl)) g
theorem PIoL_cy {σ : oSt} {r0 r1 : Option Nat} {sp dp n : Int32} {f : oSt → oRs} (h : lgP va fv σ) (hr : (∃ x, ovr (ofd σ x 8 0) = some r1) ∨ ∃ σ0, lgP va fv σ0 ∧ r1 = some σ0.2.1) (g : ∀ s, lgP va fv s → PIo (lgP va fv) (f s)) : PIo (lgP va fv) (obn (ocy σ r0 sp r1 dp n) f) := by
  have hn : r1 ≠ some va := by
    rcases hr with ⟨x, e⟩ | ⟨σ0, h0, e⟩
    · exact h.fd e
    · rw [e]; exact h0.nx
  refine PIoL_bs (fun s e => ?_) g
  unfold ocy at e
  split at e
  · rename_i a0 a
    have ha : a ≠ va := fun z => hn (by rw [z])
    repeat' split at e
    all_goals first
      | (cases e; done)
      | (injection e with e; rw [← e]; exact h.rw (by assumption) ha)
  · cases e
theorem PIoL_na {σ : oSt} {y} {n : Nat} {f : oSt → oRs} (h : lgP va fv σ) (g : ∀ s, lgP va fv s → PIo (lgP va fv) (f s)) : PIo (lgP va fv) (olet (onew σ (.inl y) n) f) := g _ (by
  obtain ⟨h1, h2, h3⟩ := h
  refine ⟨by show va < σ.2.1 + 1; omega, by rw [onew_ne (by omega)]; exact h2, fun o fs eo => ?_⟩
  by_cases z : o = σ.2.1
  · subst z; rw [onew_eq] at eo; cases eo
  · rw [onew_ne z] at eo; exact h3 o fs eo)
theorem PIoL_no {σ : oSt} {k n : Nat} {f : oSt → oRs} (h : lgP va fv σ) (g : ∀ s, lgP va fv s → PIo (lgP va fv) (f s)) : PIo (lgP va fv) (olet (onew σ (.inr (k, odef k)) n) f) := g _ (by
  obtain ⟨h1, h2, h3⟩ := h
  refine ⟨by show va < σ.2.1 + 1; omega, by rw [onew_ne (by omega)]; exact h2, fun o fs eo => ?_⟩
  by_cases z : o = σ.2.1
  · subst z
    rw [onew_eq] at eo
    injection eo with eo; injection eo with eo; injection eo with eo1 eo2
    subst eo1 eo2
    intro q
    have : odef 8 = odef 8 := rfl
    rw [show (odef 8)[0]? = some .null from rfl] at q
    cases q
  · rw [onew_ne z] at eo; exact h3 o fs eo)
end PIB2
section PIB3
variable {P : oSt → Prop}
theorem PIoL_cv {r : oRs} {f : oSt → oRs} (h : PIo P r) (g : ∀ s, P s → PIo P (f s)) : PIo P (ocv r f) := by
  unfold ocv
  split
  · exact g _ (h _ rfl)
  · exact PIoL_none
theorem PIoL_in {r : oRs} {f : Int32 → oSt → oRs} (h : PIo P r) (g : ∀ x s, P s → PIo P (f x s)) : PIo P (oin r f) := by
  unfold oin
  split
  · exact g _ _ (h _ rfl)
  · exact PIoL_none
theorem PIoL_rn {r : oRs} {f : Option Nat → oSt → oRs} (h : PIo P r) (g : ∀ x s, P s → PIo P (f x s)) : PIo P (orn r f) := by
  unfold orn
  split
  · exact g _ _ (h _ rfl)
  · exact g _ _ (h _ rfl)
  · exact PIoL_none
theorem PIoL_ln {r : oRs} {f : Int64 → oSt → oRs} (h : PIo P r) (g : ∀ x s, P s → PIo P (f x s)) : PIo P (oln' r f) := by
  unfold oln'
  split
  · exact g _ _ (h _ rfl)
  · exact PIoL_none
end PIB3
/-- what is called keeps P -/
def cQoL (va : Nat) (fv : Nat × (Nat → Int64)) (call : oCl) : Prop := (∀ (x0 : Option Nat) (x1 : Option Nat) (x2 : Option Nat) (x3 : Option Nat), ∀ σ, lgP va fv σ → PIo (lgP va fv) (call 0 [va_rf x0, va_rf x1, va_rf x2, va_rf x3] σ)) ∧ (∀ (x0 : Option Nat) (x1 : Int32), ∀ σ, lgP va fv σ → PIo (lgP va fv) (call 1 [va_rf x0, .int x1] σ)) ∧ (∀ (x0 : Option Nat) (x1 : Option Nat) (x2 : Option Nat), ∀ σ, lgP va fv σ → PIo (lgP va fv) (call 2 [va_rf x0, va_rf x1, va_rf x2] σ)) ∧ (∀ (x0 : Option Nat) (x1 : Option Nat) (x2 : Option Nat) (x3 : Option Nat), ∀ σ, lgP va fv σ → PIo (lgP va fv) (call 3 [va_rf x0, va_rf x1, va_rf x2, va_rf x3] σ)) ∧ (∀ (x0 : Option Nat) (x1 : Option Nat), ∀ σ, lgP va fv σ → PIo (lgP va fv) (call 4 [va_rf x0, va_rf x1] σ)) ∧ (∀ (x0 : Option Nat), ∀ σ, lgP va fv σ → PIo (lgP va fv) (call 5 [va_rf x0] σ)) ∧ (∀ (x0 : Option Nat), ∀ σ, lgP va fv σ → PIo (lgP va fv) (call 6 [va_rf x0] σ)) ∧ (∀ (x0 : Option Nat) (x1 : Option Nat) (x2 : Int32), ∀ σ, lgP va fv σ → PIo (lgP va fv) (call 7 [va_rf x0, va_rf x1, .int x2] σ)) ∧ (∀ (x0 : Option Nat), ∀ σ, lgP va fv σ → PIo (lgP va fv) (call 8 [va_rf x0] σ)) ∧ (∀ (x0 : Option Nat) (x1 : Option Nat), ∀ σ, lgP va fv σ → PIo (lgP va fv) (call 9 [va_rf x0, va_rf x1] σ)) ∧ (∀ (x0 : Option Nat) (x1 : Option Nat) (x2 : Int32), ∀ σ, lgP va fv σ → PIo (lgP va fv) (call 10 [va_rf x0, va_rf x1, .int x2] σ)) ∧ (∀ (x0 : Option Nat) (x1 : Int32) (x2 : Int64), ∀ σ, lgP va fv σ → PIo (lgP va fv) (call 11 [va_rf x0, .int x1, .long x2] σ)) ∧ (∀ (x0 : Option Nat) (x1 : Option Nat) (x2 : Option Nat) (x3 : Option Nat), ∀ σ, lgP va fv σ → PIo (lgP va fv) (call 12 [va_rf x0, va_rf x1, va_rf x2, va_rf x3] σ)) ∧ (∀ (x0 : Option Nat) (x1 : Option Nat) (x2 : Int32) (x3 : Option Nat), ∀ σ, lgP va fv σ → PIo (lgP va fv) (call 13 [va_rf x0, va_rf x1, .int x2, va_rf x3] σ)) ∧ (∀ (x0 : Option Nat), ∀ σ, lgP va fv σ → PIo (lgP va fv) (call 14 [va_rf x0] σ)) ∧ (∀ (x0 : Option Nat) (x1 : Int32), ∀ σ, lgP va fv σ → PIo (lgP va fv) (call 15 [va_rf x0, .int x1] σ)) ∧ (∀ (x0 : Option Nat) (x1 : Int32) (x2 : Option Nat), ∀ σ, lgP va fv σ → PIo (lgP va fv) (call 16 [va_rf x0, .int x1, va_rf x2] σ)) ∧ (∀ (x0 : Int32) (x1 : Option Nat), ∀ σ, lgP va fv σ → PIo (lgP va fv) (call 17 [.int x0, va_rf x1] σ)) ∧ (∀ (x0 : Option Nat) (x1 : Option Nat), ∀ σ, lgP va fv σ → PIo (lgP va fv) (call 18 [va_rf x0, va_rf x1] σ)) ∧ (∀ (x0 : Option Nat), ∀ σ, lgP va fv σ → PIo (lgP va fv) (call 19 [va_rf x0] σ)) ∧ (∀ (x0 : Option Nat), ∀ σ, lgP va fv σ → PIo (lgP va fv) (call 20 [va_rf x0] σ)) ∧ (∀ (x0 : Option Nat) (x1 : Int32), ∀ σ, lgP va fv σ → PIo (lgP va fv) (call 21 [va_rf x0, .int x1] σ)) ∧ (∀ (x0 : Option Nat) (x1 : Int32), ∀ σ, lgP va fv σ → PIo (lgP va fv) (call 22 [va_rf x0, .int x1] σ)) ∧ (∀ (x0 : Option Nat) (x1 : Int32), ∀ σ, lgP va fv σ → PIo (lgP va fv) (call 23 [va_rf x0, .int x1] σ)) ∧ (∀ (x0 : Option Nat) (x1 : Int32), ∀ σ, lgP va fv σ → PIo (lgP va fv) (call 24 [va_rf x0, .int x1] σ)) ∧ (∀ (x0 : Option Nat) (x1 : Option Nat) (x2 : Int32), ∀ σ, lgP va fv σ → PIo (lgP va fv) (call 25 [va_rf x0, va_rf x1, .int x2] σ)) ∧ (∀ (x0 : Option Nat) (x1 : Option Nat), ∀ σ, lgP va fv σ → PIo (lgP va fv) (call 26 [va_rf x0, va_rf x1] σ)) ∧ (∀ (x0 : Option Nat) (x1 : Int32) (x2 : Option Nat) (x3 : Int32), ∀ σ, lgP va fv σ → PIo (lgP va fv) (call 27 [va_rf x0, .int x1, va_rf x2, .int x3] σ)) ∧ (∀ (x0 : Option Nat) (x1 : Int32) (x2 : Option Nat) (x3 : Option Nat), ∀ σ, lgP va fv σ → PIo (lgP va fv) (call 28 [va_rf x0, .int x1, va_rf x2, va_rf x3] σ)) ∧ (∀ (x0 : Option Nat) (x1 : Option Nat) (x2 : Option Nat) (x3 : Option Nat), ∀ σ, lgP va fv σ → PIo (lgP va fv) (call 29 [va_rf x0, va_rf x1, va_rf x2, va_rf x3] σ)) ∧ (∀ (x0 : Option Nat) (x1 : Option Nat) (x2 : Option Nat), ∀ σ, lgP va fv σ → PIo (lgP va fv) (call 30 [va_rf x0, va_rf x1, va_rf x2] σ)) ∧ (∀ (x0 : Option Nat) (x1 : Option Nat) (x2 : Option Nat), ∀ σ, lgP va fv σ → PIo (lgP va fv) (call 31 [va_rf x0, va_rf x1, va_rf x2] σ)) ∧ (∀ (x0 : Option Nat) (x1 : Option Nat) (x2 : Option Nat), ∀ σ, lgP va fv σ → PIo (lgP va fv) (call 32 [va_rf x0, va_rf x1, va_rf x2] σ)) ∧ (∀ (x0 : Option Nat) (x1 : Option Nat) (x2 : Option Nat), ∀ σ, lgP va fv σ → PIo (lgP va fv) (call 33 [va_rf x0, va_rf x1, va_rf x2] σ)) ∧ (∀ (x0 : Option Nat) (x1 : Option Nat) (x2 : Option Nat), ∀ σ, lgP va fv σ → PIo (lgP va fv) (call 34 [va_rf x0, va_rf x1, va_rf x2] σ)) ∧ (∀ (x0 : Option Nat) (x1 : Option Nat) (x2 : Option Nat), ∀ σ, lgP va fv σ → PIo (lgP va fv) (call 35 [va_rf x0, va_rf x1, va_rf x2] σ)) ∧ (∀ (x0 : Option Nat) (x1 : Option Nat) (x2 : Option Nat), ∀ σ, lgP va fv σ → PIo (lgP va fv) (call 36 [va_rf x0, va_rf x1, va_rf x2] σ)) ∧ (∀ (x0 : Option Nat), ∀ σ, lgP va fv σ → PIo (lgP va fv) (call 37 [va_rf x0] σ)) ∧ (∀ (x0 : Option Nat), ∀ σ, lgP va fv σ → PIo (lgP va fv) (call 38 [va_rf x0] σ)) ∧ (∀ (x0 : Option Nat), ∀ σ, lgP va fv σ → PIo (lgP va fv) (call 39 [va_rf x0] σ)) ∧ (∀ (x0 : Option Nat) (x1 : Int32), ∀ σ, lgP va fv σ → PIo (lgP va fv) (call 40 [va_rf x0, .int x1] σ)) ∧ (∀ (x0 : Option Nat) (x1 : Int32), ∀ σ, lgP va fv σ → PIo (lgP va fv) (call 41 [va_rf x0, .int x1] σ)) ∧ (∀ (x0 : Option Nat) (x1 : Int32) (x2 : Int32) (x3 : Int64), ∀ σ, lgP va fv σ → PIo (lgP va fv) (call 42 [va_rf x0, .int x1, .int x2, .long x3] σ)) ∧ (∀ (x0 : Option Nat), ∀ σ, lgP va fv σ → PIo (lgP va fv) (call 43 [va_rf x0] σ)) ∧ (∀ (x0 : Option Nat) (x1 : Int32) (x2 : Int32) (x3 : Int64), ∀ σ, lgP va fv σ → PIo (lgP va fv) (call 44 [va_rf x0, .int x1, .int x2, .long x3] σ)) ∧ (∀ (x0 : Option Nat) (x1 : Option Nat), ∀ σ, lgP va fv σ → PIo (lgP va fv) (call 45 [va_rf x0, va_rf x1] σ)) ∧ (∀ (x0 : Option Nat) (x1 : Int32), ∀ σ, lgP va fv σ → PIo (lgP va fv) (call 46 [va_rf x0, .int x1] σ)) ∧ (∀ (x0 : Option Nat) (x1 : Int32), ∀ σ, lgP va fv σ → PIo (lgP va fv) (call 47 [va_rf x0, .int x1] σ)) ∧ (∀ (x0 : Option Nat) (x1 : Int32) (x2 : Int32) (x3 : Int64), ∀ σ, lgP va fv σ → PIo (lgP va fv) (call 48 [va_rf x0, .int x1, .int x2, .long x3] σ)) ∧ (∀ (x0 : Option Nat) (x1 : Option Nat) (x2 : Int32) (x3 : Int32), ∀ σ, lgP va fv σ → PIo (lgP va fv) (call 49 [va_rf x0, va_rf x1, .int x2, .int x3] σ)) ∧ (∀ (x0 : Option Nat) (x1 : Option Nat) (x2 : Int32), ∀ σ, lgP va fv σ → PIo (lgP va fv) (call 50 [va_rf x0, va_rf x1, .int x2] σ)) ∧ (∀ (x0 : Option Nat) (x1 : Option Nat) (x2 : Int32), ∀ σ, lgP va fv σ → PIo (lgP va fv) (call 51 [va_rf x0, va_rf x1, .int x2] σ)) ∧ (∀ (x0 : Option Nat) (x1 : Option Nat) (x2 : Int32), ∀ σ, lgP va fv σ → PIo (lgP va fv) (call 52 [va_rf x0, va_rf x1, .int x2] σ)) ∧ (∀ (x0 : Int32), ∀ σ, lgP va fv σ → PIo (lgP va fv) (call 53 [.int x0] σ)) ∧ (∀ (x0 : Option Nat) (x1 : Option Nat) (x2 : Int32) (x3 : Int32), ∀ σ, lgP va fv σ → PIo (lgP va fv) (call 54 [va_rf x0, va_rf x1, .int x2, .int x3] σ)) ∧ (∀ (x0 : Option Nat) (x1 : Option Nat) (x2 : Int32), ∀ σ, lgP va fv σ → PIo (lgP va fv) (call 55 [va_rf x0, va_rf x1, .int x2] σ)) ∧ (∀ (x0 : Option Nat) (x1 : Option Nat) (x2 : Int32), ∀ σ, lgP va fv σ → PIo (lgP va fv) (call 56 [va_rf x0, va_rf x1, .int x2] σ)) ∧ (∀ (x0 : Option Nat) (x1 : Option Nat) (x2 : Option Nat), ∀ σ, lgP va fv σ → PIo (lgP va fv) (call 57 [va_rf x0, va_rf x1, va_rf x2] σ)) ∧ (∀ (x0 : Option Nat), ∀ σ, lgP va fv σ → PIo (lgP va fv) (call 58 [va_rf x0] σ)) ∧ (∀ (x0 : Option Nat), ∀ σ, lgP va fv σ → PIo (lgP va fv) (call 59 [va_rf x0] σ)) ∧ (∀ (x0 : Option Nat), ∀ σ, lgP va fv σ → PIo (lgP va fv) (call 60 [va_rf x0] σ)) ∧ (∀ (x0 : Option Nat), ∀ σ, lgP va fv σ → PIo (lgP va fv) (call 61 [va_rf x0] σ)) ∧ (∀ (x0 : Option Nat), ∀ σ, lgP va fv σ → PIo (lgP va fv) (call 62 [va_rf x0] σ)) ∧ (∀ (x0 : Option Nat) (x1 : Int32), ∀ σ, lgP va fv σ → PIo (lgP va fv) (call 63 [va_rf x0, .int x1] σ)) ∧ (∀ (x0 : Option Nat) (x1 : Option Nat) (x2 : Option Nat), ∀ σ, lgP va fv σ → PIo (lgP va fv) (call 64 [va_rf x0, va_rf x1, va_rf x2] σ)) ∧ (∀ (x0 : Option Nat), ∀ σ, lgP va fv σ → PIo (lgP va fv) (call 65 [va_rf x0] σ)) ∧ (∀ (x0 : Option Nat) (x1 : Int32), ∀ σ, lgP va fv σ → PIo (lgP va fv) (call 66 [va_rf x0, .int x1] σ)) ∧ (∀ (x0 : Option Nat) (x1 : Option Nat) (x2 : Option Nat) (x3 : Option Nat), ∀ σ, lgP va fv σ → PIo (lgP va fv) (call 67 [va_rf x0, va_rf x1, va_rf x2, va_rf x3] σ)) ∧ (∀ (x0 : Option Nat), ∀ σ, lgP va fv σ → PIo (lgP va fv) (call 68 [va_rf x0] σ)) ∧ (∀ (x0 : Option Nat), ∀ σ, lgP va fv σ → PIo (lgP va fv) (call 179 [va_rf x0] σ)) ∧ (∀ (x0 : Int32) (x1 : Int32), ∀ σ, lgP va fv σ → PIo (lgP va fv) (call 205 [.int x0, .int x1] σ)) ∧ (∀ (x0 : Int32) (x1 : Int32) (x2 : Option Nat), ∀ σ, lgP va fv σ → PIo (lgP va fv) (call 206 [.int x0, .int x1, va_rf x2] σ)) ∧ (∀ (x0 : Option Nat), ∀ σ, lgP va fv σ → PIo (lgP va fv) (call 224 [va_rf x0] σ)) ∧ (∀ (x0 : Option Nat), ∀ σ, lgP va fv σ → PIo (lgP va fv) (call 225 [va_rf x0] σ)) ∧ (∀ (x0 : Option Nat), ∀ σ, lgP va fv σ → PIo (lgP va fv) (call 226 [va_rf x0] σ)) ∧ (∀ (x0 : Option Nat) (x1 : Option Nat), ∀ σ, lgP va fv σ → PIo (lgP va fv) (call 227 [va_rf x0, va_rf x1] σ)) ∧ (∀ (x0 : Option Nat) (x1 : Option Nat) (x2 : Option Nat) (x3 : Int32), ∀ σ, lgP va fv σ → PIo (lgP va fv) (call 228 [va_rf x0, va_rf x1, va_rf x2, .int x3] σ)) ∧ (∀ (x0 : Option Nat), ∀ σ, lgP va fv σ → PIo (lgP va fv) (call 229 [va_rf x0] σ)) ∧ (∀ (x0 : Option Nat) (x1 : Int32), ∀ σ, lgP va fv σ → PIo (lgP va fv) (call 230 [va_rf x0, .int x1] σ)) ∧ (∀ (x0 : Int32) (x1 : Int32) (x2 : Int32), ∀ σ, lgP va fv σ → PIo (lgP va fv) (call 231 [.int x0, .int x1, .int x2] σ)) ∧ (∀ (x0 : Option Nat) (x1 : Int32), ∀ σ, lgP va fv σ → PIo (lgP va fv) (call 232 [va_rf x0, .int x1] σ)) ∧ (∀ (x0 : Option Nat) (x1 : Int32) (x2 : Option Nat), ∀ σ, lgP va fv σ → PIo (lgP va fv) (call 233 [va_rf x0, .int x1, va_rf x2] σ)) ∧ (∀ (x0 : Option Nat) (x1 : Int32), ∀ σ, lgP va fv σ → PIo (lgP va fv) (call 234 [va_rf x0, .int x1] σ)) ∧ (∀ (x0 : Option Nat) (x1 : Int32), ∀ σ, lgP va fv σ → PIo (lgP va fv) (call 235 [va_rf x0, .int x1] σ)) ∧ (∀ (x0 : Option Nat), ∀ σ, lgP va fv σ → PIo (lgP va fv) (call 236 [va_rf x0] σ)) ∧ (∀ (x0 : Option Nat) (x1 : Int32), ∀ σ, lgP va fv σ → PIo (lgP va fv) (call 238 [va_rf x0, .int x1] σ)) ∧ (∀ (x0 : Option Nat) (x1 : Int32), ∀ σ, lgP va fv σ → PIq va fv (call 239 [va_rf x0, .int x1] σ))
theorem cQoL.c0 {va : Nat} {fv : Nat × (Nat → Int64)} {call : oCl} (hc : cQoL va fv call) (x0 : Option Nat) (x1 : Option Nat) (x2 : Option Nat) (x3 : Option Nat) (σ : oSt) (h : lgP va fv σ) : PIo (lgP va fv) (call 0 [va_rf x0, va_rf x1, va_rf x2, va_rf x3] σ) := hc.1 x0 x1 x2 x3 σ h
theorem cQoL.c1 {va : Nat} {fv : Nat × (Nat → Int64)} {call : oCl} (hc : cQoL va fv call) (x0 : Option Nat) (x1 : Int32) (σ : oSt) (h : lgP va fv σ) : PIo (lgP va fv) (call 1 [va_rf x0, .int x1] σ) := hc.2.1 x0 x1 σ h
theorem cQoL.c2 {va : Nat} {fv : Nat × (Nat → Int64)} {call : oCl} (hc : cQoL va fv call) (x0 : Option Nat) (x1 : Option Nat) (x2 : Option Nat) (σ : oSt) (h : lgP va fv σ) : PIo (lgP va fv) (call 2 [va_rf x0, va_rf x1, va_rf x2] σ) := hc.2.2.1 x0 x1 x2 σ h
theorem cQoL.c3 {va : Nat} {fv : Nat × (Nat → Int64)} {call : oCl} (hc : cQoL va fv call) (x0 : Option Nat) (x1 : Option Nat) (x2 : Option Nat) (x3 : Option Nat) (σ : oSt) (h : lgP va fv σ) : PIo (lgP va fv) (call 3 [va_rf x0, va_rf x1, va_rf x2, va_rf x3] σ) := hc.2.2.2.1 x0 x1 x2 x3 σ h
theorem cQoL.c4 {va : Nat} {fv : Nat × (Nat → Int64)} {call : oCl} (hc : cQoL va fv call) (x0 : Option Nat) (x1 : Option Nat) (σ : oSt) (h : lgP va fv σ) : PIo (lgP va fv) (call 4 [va_rf x0, va_rf x1] σ) := hc.2.2.2.2.1 x0 x1 σ h
theorem cQoL.c5 {va : Nat} {fv : Nat × (Nat → Int64)} {call : oCl} (hc : cQoL va fv call) (x0 : Option Nat) (σ : oSt) (h : lgP va fv σ) : PIo (lgP va fv) (call 5 [va_rf x0] σ) := hc.2.2.2.2.2.1 x0 σ h
theorem cQoL.c6 {va : Nat} {fv : Nat × (Nat → Int64)} {call : oCl} (hc : cQoL va fv call) (x0 : Option Nat) (σ : oSt) (h : lgP va fv σ) : PIo (lgP va fv) (call 6 [va_rf x0] σ) := hc.2.2.2.2.2.2.1 x0 σ h
theorem cQoL.c7 {va : Nat} {fv : Nat × (Nat → Int64)} {call : oCl} (hc : cQoL va fv call) (x0 : Option Nat) (x1 : Option Nat) (x2 : Int32) (σ : oSt) (h : lgP va fv σ) : PIo (lgP va fv) (call 7 [va_rf x0, va_rf x1, .int x2] σ) := hc.2.2.2.2.2.2.2.1 x0 x1 x2 σ h
theorem cQoL.c8 {va : Nat} {fv : Nat × (Nat → Int64)} {call : oCl} (hc : cQoL va fv call) (x0 : Option Nat) (σ : oSt) (h : lgP va fv σ) : PIo (lgP va fv) (call 8 [va_rf x0] σ) := hc.2.2.2.2.2.2.2.2.1 x0 σ h
theorem cQoL.c9 {va : Nat} {fv : Nat × (Nat → Int64)} {call : oCl} (hc : cQoL va fv call) (x0 : Option Nat) (x1 : Option Nat) (σ : oSt) (h : lgP va fv σ) : PIo (lgP va fv) (call 9 [va_rf x0, va_rf x1] σ) := hc.2.2.2.2.2.2.2.2.2.1 x0 x1 σ h
theorem cQoL.c10 {va : Nat} {fv : Nat × (Nat → Int64)} {call : oCl} (hc : cQoL va fv call) (x0 : Option Nat) (x1 : Option Nat) (x2 : Int32) (σ : oSt) (h : lgP va fv σ) : PIo (lgP va fv) (call 10 [va_rf x0, va_rf x1, .int x2] σ) := hc.2.2.2.2.2.2.2.2.2.2.1 x0 x1 x2 σ h
theorem cQoL.c11 {va : Nat} {fv : Nat × (Nat → Int64)} {call : oCl} (hc : cQoL va fv call) (x0 : Option Nat) (x1 : Int32) (x2 : Int64) (σ : oSt) (h : lgP va fv σ) : PIo (lgP va fv) (call 11 [va_rf x0, .int x1, .long x2] σ) := hc.2.2.2.2.2.2.2.2.2.2.2.1 x0 x1 x2 σ h
theorem cQoL.c12 {va : Nat} {fv : Nat × (Nat → Int64)} {call : oCl} (hc : cQoL va fv call) (x0 : Option Nat) (x1 : Option Nat) (x2 : Option Nat) (x3 : Option Nat) (σ : oSt) (h : lgP va fv σ) : PIo (lgP va fv) (call 12 [va_rf x0, va_rf x1, va_rf x2, va_rf x3] σ) := hc.2.2.2.2.2.2.2.2.2.2.2.2.1 x0 x1 x2 x3 σ h
theorem cQoL.c13 {va : Nat} {fv : Nat × (Nat → Int64)} {call : oCl} (hc : cQoL va fv call) (x0 : Option Nat) (x1 : Option Nat) (x2 : Int32) (x3 : Option Nat) (σ : oSt) (h : lgP va fv σ) : PIo (lgP va fv) (call 13 [va_rf x0, va_rf x1, .int x2, va_rf x3] σ) := hc.2.2.2.2.2.2.2.2.2.2.2.2.2.1 x0 x1 x2 x3 σ h
theorem cQoL.c14 {va : Nat} {fv : Nat × (Nat → Int64)} {call : oCl} (hc : cQoL va fv call) (x0 : Option Nat) (σ : oSt) (h : lgP va fv σ) : PIo (lgP va fv) (call 14 [va_rf x0] σ) := hc.2.2.2.2.2.2.2.2.2.2.2.2.2.2.1 x0 σ h
theorem cQoL.c15 {va : Nat} {fv : Nat × (Nat → Int64)} {call : oCl} (hc : cQoL va fv call) (x0 : Option Nat) (x1 : Int32) (σ : oSt) (h : lgP va fv σ) : PIo (lgP va fv) (call 15 [va_rf x0, .int x1] σ) := hc.2.2.2.2.2.2.2.2.2.2.2.2.2.2.2.1 x0 x1 σ h
theorem cQoL.c16 {va : Nat} {fv : Nat × (Nat → Int64)} {call : oCl} (hc : cQoL va fv call) (x0 : Option Nat) (x1 : Int32) (x2 : Option Nat) (σ : oSt) (h : lgP va fv σ) : PIo (lgP va fv) (call 16 [va_rf x0, .int x1, va_rf x2] σ) := hc.2.2.2.2.2.2.2.2.2.2.2.2.2.2.2.2.1 x0 x1 x2 σ h
theorem cQoL.c17 {va : Nat} {fv : Nat × (Nat → Int64)} {call : oCl} (hc : cQoL va fv call) (x0 : Int32) (x1 : Option Nat) (σ : oSt) (h : lgP va fv σ) : PIo (lgP va fv) (call 17 [.int x0, va_rf x1] σ) := hc.2.2.2.2.2.2.2.2.2.2.2.2.2.2.2.2.2.1 x0 x1 σ h
theorem cQoL.c18 {va : Nat} {fv : Nat × (Nat → Int64)} {call : oCl} (hc : cQoL va fv call) (x0 : Option Nat) (x1 : Option Nat) (σ : oSt) (h : lgP va fv σ) : PIo (lgP va fv) (call 18 [va_rf x0, va_rf x1] σ) := hc.2.2.2.2.2.2.2.2.2.2.2.2.2.2.2.2.2.2.1 x0 x1 σ h
theorem cQoL.c19 {va : Nat} {fv : Nat × (Nat → Int64)} {call : oCl} (hc : cQoL va fv call) (x0 : Option Nat) (σ : oSt) (h : lgP va fv σ) : PIo (lgP va fv) (call 19 [va_rf x0] σ) := hc.2.2.2.2.2.2.2.2.2.2.2.2.2.2.2.2.2.2.2.1 x0 σ h
theorem cQoL.c20 {va : Nat} {fv : Nat × (Nat → Int64)} {call : oCl} (hc : cQoL va fv call) (x0 : Option Nat) (σ : oSt) (h : lgP va fv σ) : PIo (lgP va fv) (call 20 [va_rf x0] σ) := hc.2.2.2.2.2.2.2.2.2.2.2.2.2.2.2.2.2.2.2.2.1 x0 σ h
theorem cQoL.c21 {va : Nat} {fv : Nat × (Nat → Int64)} {call : oCl} (hc : cQoL va fv call) (x0 : Option Nat) (x1 : Int32) (σ : oSt) (h : lgP va fv σ) : PIo (lgP va fv) (call 21 [va_rf x0, .int x1] σ) := hc.2.2.2.2.2.2.2.2.2.2.2.2.2.2.2.2.2.2.2.2.2.1 x0 x1 σ h
theorem cQoL.c22 {va : Nat} {fv : Nat × (Nat → Int64)} {call : oCl} (hc : cQoL va fv call) (x0 : Option Nat) (x1 : Int32) (σ : oSt) (h : lgP va fv σ) : PIo (lgP va fv) (call 22 [va_rf x0, .int x1] σ) := hc.2.2.2.2.2.2.2.2.2.2.2.2.2.2.2.2.2.2.2.2.2.2.1 x0 x1 σ h
theorem cQoL.c23 {va : Nat} {fv : Nat × (Nat → Int64)} {call : oCl} (hc : cQoL va fv call) (x0 : Option Nat) (x1 : Int32) (σ : oSt) (h : lgP va fv σ) : PIo (lgP va fv) (call 23 [va_rf x0, .int x1] σ) := hc.2.2.2.2.2.2.2.2.2.2.2.2.2.2.2.2.2.2.2.2.2.2.2.1 x0 x1 σ h
theorem cQoL.c24 {va : Nat} {fv : Nat × (Nat → Int64)} {call : oCl} (hc : cQoL va fv call) (x0 : Option Nat) (x1 : Int32) (σ : oSt) (h : lgP va fv σ) : PIo (lgP va fv) (call 24 [va_rf x0, .int x1] σ) := hc.2.2.2.2.2.2.2.2.2.2.2.2.2.2.2.2.2.2.2.2.2.2.2.2.1 x0 x1 σ h
theorem cQoL.c25 {va : Nat} {fv : Nat × (Nat → Int64)} {call : oCl} (hc : cQoL va fv call) (x0 : Option Nat) (x1 : Option Nat) (x2 : Int32) (σ : oSt) (h : lgP va fv σ) : PIo (lgP va fv) (call 25 [va_rf x0, va_rf x1, .int x2] σ) := hc.2.2.2.2.2.2.2.2.2.2.2.2.2.2.2.2.2.2.2.2.2.2.2.2.2.1 x0 x1 x2 σ h
theorem cQoL.c26 {va : Nat} {fv : Nat × (Nat → Int64)} {call : oCl} (hc : cQoL va fv call) (x0 : Option Nat) (x1 : Option Nat) (σ : oSt) (h : lgP va fv σ) : PIo (lgP va fv) (call 26 [va_rf x0, va_rf x1] σ) := hc.2.2.2.2.2.2.2.2.2.2.2.2.2.2.2.2.2.2.2.2.2.2.2.2.2.2.1 x0 x1 σ h
theorem cQoL.c27 {va : Nat} {fv : Nat × (Nat → Int64)} {call : oCl} (hc : cQoL va fv call) (x0 : Option Nat) (x1 : Int32) (x2 : Option Nat) (x3 : Int32) (σ : oSt) (h : lgP va fv σ) : PIo (lgP va fv) (call 27 [va_rf x0, .int x1, va_rf x2, .int x3] σ) := hc.2.2.2.2.2.2.2.2.2.2.2.2.2.2.2.2.2.2.2.2.2.2.2.2.2.2.2.1 x0 x1 x2 x3 σ h
theorem cQoL.c28 {va : Nat} {fv : Nat × (Nat → Int64)} {call : oCl} (hc : cQoL va fv call) (x0 : Option Nat) (x1 : Int32) (x2 : Option Nat) (x3 : Option Nat) (σ : oSt) (h : lgP va fv σ) : PIo (lgP va fv) (call 28 [va_rf x0, .int x1, va_rf x2, va_rf x3] σ) := hc.2.2.2.2.2.2.2.2.2.2.2.2.2.2.2.2.2.2.2.2.2.2.2.2.2.2.2.2.1 x0 x1 x2 x3 σ h
theorem cQoL.c29 {va : Nat} {fv : Nat × (Nat → Int64)} {call : oCl} (hc : cQoL va fv call) (x0 : Option Nat) (x1 : Option Nat) (x2 : Option Nat) (x3 : Option Nat) (σ : oSt) (h : lgP va fv σ) : PIo (lgP va fv) (call 29 [va_rf x0, va_rf x1, va_rf x2, va_rf x3] σ) := hc.2.2.2.2.2.2.2.2.2.2.2.2.2.2.2.2.2.2.2.2.2.2.2.2.2.2.2.2.2.1 x0 x1 x2 x3 σ h
theorem cQoL.c30 {va : Nat} {fv : Nat × (Nat → Int64)} {call : oCl} (hc : cQoL va fv call) (x0 : Option Nat) (x1 : Option Nat) (x2 : Option Nat) (σ : oSt) (h : lgP va fv σ) : PIo (lgP va fv) (call 30 [va_rf x0, va_rf x1, va_rf x2] σ) := hc.2.2.2.2.2.2.2.2.2.2.2.2.2.2.2.2.2.2.2.2.2.2.2.2.2.2.2.2.2.2.1 x0 x1 x2 σ h
theorem cQoL.c31 {va : Nat} {fv : Nat × (Nat → Int64)} {call : oCl} (hc : cQoL va fv call) (x0 : Option Nat) (x1 : Option Nat) (x2 : Option Nat) (σ : oSt) (h : lgP va fv σ) : PIo (lgP va fv) (call 31 [va_rf x0, va_rf x1, va_rf x2] σ) := hc.2.2.2.2.2.2.2.2.2.2.2.2.2.2.2.2.2.2.2.2.2.2.2.2.2.2.2.2.2.2.2.1 x0 x1 x2 σ h
theorem cQoL.c32 {va : Nat} {fv : Nat × (Nat → Int64)} {call : oCl} (hc : cQoL va fv call) (x0 : Option Nat) (x1 : Option Nat) (x2 : Option Nat) (σ : oSt) (h : lgP va fv σ) : PIo (lgP va fv) (call 32 [va_rf x0, va_rf x1, va_rf x2] σ) := hc.2.2.2.2.2.2.2.2.2.2.2.2.2.2.2.2.2.2.2.2.2.2.2.2.2.2.2.2.2.2.2.2.1 x0 x1 x2 σ h
theorem cQoL.c33 {va : Nat} {fv : Nat × (Nat → Int64)} {call : oCl} (hc : cQoL va fv call) (x0 : Option Nat) (x1 : Option Nat) (x2 : Option Nat) (σ : oSt) (h : lgP va fv σ) : PIo (lgP va fv) (call 33 [va_rf x0, va_rf x1, va_rf x2] σ) := hc.2.2.2.2.2.2.2.2.2.2.2.2.2.2.2.2.2.2.2.2.2.2.2.2.2.2.2.2.2.2.2.2.2.1 x0 x1 x2 σ h
theorem cQoL.c34 {va : Nat} {fv : Nat × (Nat → Int64)} {call : oCl} (hc : cQoL va fv call) (x0 : Option Nat) (x1 : Option Nat) (x2 : Option Nat) (σ : oSt) (h : lgP va fv σ) : PIo (lgP va fv) (call 34 [va_rf x0, va_rf x1, va_rf x2] σ) := hc.2.2.2.2.2.2.2.2.2.2.2.2.2.2.2.2.2.2.2.2.2.2.2.2.2.2.2.2.2.2.2.2.2.2.1 x0 x1 x2 σ h
theorem cQoL.c35 {va : Nat} {fv : Nat × (Nat → Int64)} {call : oCl} (hc : cQoL va fv call) (x0 : Option Nat) (x1 : Option Nat) (x2 : Option Nat) (σ : oSt) (h : lgP va fv σ) : PIo (lgP va fv) (call 35 [va_rf x0, va_rf x1, va_rf x2] σ) := hc.2.2.2.2.2.2.2.2.2.2.2.2.2.2.2.2.2.2.2.2.2.2.2.2.2.2.2.2.2.2.2.2.2.2.2.1 x0 x1 x2 σ h
theorem cQoL.c36 {va : Nat} {fv : Nat × (Nat → Int64)} {call : oCl} (hc : cQoL va fv call) (x0 : Option Nat) (x1 : Option Nat) (x2 : Option Nat) (σ : oSt) (h : lgP va fv σ) : PIo (lgP va fv) (call 36 [va_rf x0, va_rf x1, va_rf x2] σ) := hc.2.2.2.2.2.2.2.2.2.2.2.2.2.2.2.2.2.2.2.2.2.2.2.2.2.2.2.2.2.2.2.2.2.2.2.2.1 x0 x1 x2 σ h
theorem cQoL.c37 {va : Nat} {fv : Nat × (Nat → Int64)} {call : oCl} (hc : cQoL va fv call) (x0 : Option Nat) (σ : oSt) (h : lgP va fv σ) : PIo (lgP va fv) (call 37 [va_rf x0] σ) := hc.2.2.2.2.2.2.2.2.2.2.2.2.2.2.2.2.2.2.2.2.2.2.2.2.2.2.2.2.2.2.2.2.2.2.2.2.2.1 x0 σ h
theorem cQoL.c38 {va : Nat} {fv : Nat × (Nat → Int64)} {call : oCl} (hc : cQoL va fv call) (x0 : Option Nat) (σ : oSt) (h : lgP va fv σ) : PIo (lgP va fv) (call 38 [va_rf x0] σ) := hc.2.2.2.2.2.2.2.2.2.2.2.2.2.2.2.2.2.2.2.2.2.2.2.2.2.2.2.2.2.2.2.2.2.2.2.2.2.2.1 x0 σ h
theorem cQoL.c39 {va : Nat} {fv : Nat × (Nat → Int64)} {call : oCl} (hc : cQoL va fv call) (x0 : Option Nat) (σ : oSt) (h : lgP va fv σ) : PIo (lgP va fv) (call 39 [va_rf x0] σ) := hc.2.2.2.2.2.2.2.2.2.2.2.2.2.2.2.2.2.2.2.2.2.2.2.2.2.2.2.2.2.2.2.2.2.2.2.2.2.2.2.1 x0 σ h
theorem cQoL.c40 {va : Nat} {fv : Nat × (Nat → Int64)} {call : oCl} (hc : cQoL va fv call) (x0 : Option Nat) (x1 : Int32) (σ : oSt) (h : lgP va fv σ) : PIo (lgP va fv) (call 40 [va_rf x0, .int x1] σ) := hc.2.2.2.2.2.2.2.2.2.2.2.2.2.2.2.2.2.2.2.2.2.2.2.2.2.2.2.2.2.2.2.2.2.2.2.2.2.2.2.2.1 x0 x1 σ h
theorem cQoL.c41 {va : Nat} {fv : Nat × (Nat → Int64)} {call : oCl} (hc : cQoL va fv call) (x0 : Option Nat) (x1 : Int32) (σ : oSt) (h : lgP va fv σ) : PIo (lgP va fv) (call 41 [va_rf x0, .int x1] σ) := hc.2.2.2.2.2.2.2.2.2.2.2.2.2.2.2.2.2.2.2.2.2.2.2.2.2.2.2.2.2.2.2.2.2.2.2.2.2.2.2.2.2.1 x0 x1 σ h
theorem cQoL.c42 {va : Nat} {fv : Nat × (Nat → Int64)} {call : oCl} (hc : cQoL va fv call) (x0 : Option Nat) (x1 : Int32) (x2 : Int32) (x3 : Int64) (σ : oSt) (h : lgP va fv σ) : PIo (lgP va fv) (call 42 [va_rf x0, .int x1, .int x2, .long x3] σ) := hc.2.2.2.2.2.2.2.2.2.2.2.2.2.2.2.2.2.2.2.2.2.2.2.2.2.2.2.2.2.2.2.2.2.2.2.2.2.2.2.2.2.2.1 x0 x1 x2 x3 σ h
theorem cQoL.c43 {va : Nat} {fv : Nat × (Nat → Int64)} {call : oCl} (hc : cQoL va fv call) (x0 : Option Nat) (σ : oSt) (h : lgP va fv σ) : PIo (lgP va fv) (call 43 [va_rf x0] σ) := hc.2.2.2.2.2.2.2.2.2.2.2.2.2.2.2.2.2.2.2.2.2.2.2.2.2.2.2.2.2.2.2.2.2.2.2.2.2.2.2.2.2.2.2.1 x0 σ h
theorem cQoL.c44 {va : Nat} {fv : Nat × (Nat → Int64)} {call : oCl} (hc : cQoL va fv call) (x0 : Option Nat) (x1 : Int32) (x2 : Int32) (x3 : Int64) (σ : oSt) (h : lgP va fv σ) : PIo (lgP va fv) (call 44 [va_rf x0, .int x1, .int x2, .long x3] σ) := hc.2.2.2.2.2.2.2.2.2.2.2.2.2.2.2.2.2.2.2.2.2.2.2.2.2.2.2.2.2.2.2.2.2.2.2.2.2.2.2.2.2.2.2.2.1 x0 x1 x2 x3 σ h
theorem cQoL.c45 {va : Nat} {fv : Nat × (Nat → Int64)} {call : oCl} (hc : cQoL va fv call) (x0 : Option Nat) (x1 : Option Nat) (σ : oSt) (h : lgP va fv σ) : PIo (lgP va fv) (call 45 [va_rf x0, va_rf x1] σ) := hc.2.2.2.2.2.2.2.2.2.2.2.2.2.2.2.2.2.2.2.2.2.2.2.2.2.2.2.2.2.2.2.2.2.2.2.2.2.2.2.2.2.2.2.2.2.1 x0 x1 σ h
theorem cQoL.c46 {va : Nat} {fv : Nat × (Nat → Int64)} {call : oCl} (hc : cQoL va fv call) (x0 : Option Nat) (x1 : Int32) (σ : oSt) (h : lgP va fv σ) : PIo (lgP va fv) (call 46 [va_rf x0, .int x1] σ) := hc.2.2.2.2.2.2.2.2.2.2.2.2.2.2.2.2.2.2.2.2.2.2.2.2.2.2.2.2.2.2.2.2.2.2.2.2.2.2.2.2.2.2.2.2.2.2.1 x0 x1 σ h
theorem cQoL.c47 {va : Nat} {fv : Nat × (Nat → Int64)} {call : oCl} (hc : cQoL va fv call) (x0 : Option Nat) (x1 : Int32) (σ : oSt) (h : lgP va fv σ) : PIo (lgP va fv) (call 47 [va_rf x0, .int x1] σ) := hc.2.2.2.2.2.2.2.2.2.2.2.2.2.2.2.2.2.2.2.2.2.2.2.2.2.2.2.2.2.2.2.2.2.2.2.2.2.2.2.2.2.2.2.2.2.2.2.1 x0 x1 σ h
theorem cQoL.c48 {va : Nat} {fv : Nat × (Nat → Int64)} {call : oCl} (hc : cQoL va fv call) (x0 : Option Nat) (x1 : Int32) (x2 : Int32) (x3 : Int64) (σ : oSt) (h : lgP va fv σ) : PIo (lgP va fv) (call 48 [va_rf x0, .int x1, .int x2, .long x3] σ) := hc.2.2.2.2.2.2.2.2.2.2.2.2.2.2.2.2.2.2.2.2.2.2.2.2.2.2.2.2.2.2.2.2.2.2.2.2.2.2.2.2.2.2.2.2.2.2.2.2.1 x0 x1 x2 x3 σ h
theorem cQoL.c49 {va : Nat} {fv : Nat × (Nat → Int64)} {call : oCl} (hc : cQoL va fv call) (x0 : Option Nat) (x1 : Option Nat) (x2 : Int32) (x3 : Int32) (σ : oSt) (h : lgP va fv σ) : PIo (lgP va fv) (call 49 [va_rf x0, va_rf x1, .int x2, .int x3] σ) := hc.2.2.2.2.2.2.2.2.2.2.2.2.2.2.2.2.2.2.2.2.2.2.2.2.2.2.2.2.2.2.2.2.2.2.2.2.2.2.2.2.2.2.2.2.2.2.2.2.2.1 x0 x1 x2 x3 σ h
theorem cQoL.c50 {va : Nat} {fv : Nat × (Nat → Int64)} {call : oCl} (hc : cQoL va fv call) (x0 : Option Nat) (x1 : Option Nat) (x2 : Int32) (σ : oSt) (h : lgP va fv σ) : PIo (lgP va fv) (call 50 [va_rf x0, va_rf x1, .int x2] σ) := hc.2.2.2.2.2.2.2.2.2.2.2.2.2.2.2.2.2.2.2.2.2.2.2.2.2.2.2.2.2.2.2.2.2.2.2.2.2.2.2.2.2.2.2.2.2.2.2.2.2.2.1 x0 x1 x2 σ h
theorem cQoL.c51 {va : Nat} {fv : Nat × (Nat → Int64)} {call : oCl} (hc : cQoL va fv call) (x0 : Option Nat) (x1 : Option Nat) (x2 : Int32) (σ : oSt) (h : lgP va fv σ) : PIo (lgP va fv) (call 51 [va_rf x0, va_rf x1, .int x2] σ) := hc.2.2.2.2.2.2.2.2.2.2.2.2.2.2.2.2.2.2.2.2.2.2.2.2.2.2.2.2.2.2.2.2.2.2.2.2.2.2.2.2.2.2.2.2.2.2.2.2.2.2.2.1 x0 x1 x2 σ h
theorem cQoL.c52 {va : Nat} {fv : Nat × (Nat → Int64)} {call : oCl} (hc : cQoL va fv call) (x0 : Option Nat) (x1 : Option Nat) (x2 : Int32) (σ : oSt) (h : lgP va fv σ) : PIo (lgP va fv) (call 52 [va_rf x0, va_rf x1, .int x2] σ) := hc.2.2.2.2.2.2.2.2.2.2.2.2.2.2.2.2.2.2.2.2.2.2.2.2.2.2.2.2.2.2.2.2.2.2.2.2.2.2.2.2.2.2.2.2.2.2.2.2.2.2.2.2.1 x0 x1 x2 σ h
theorem cQoL.c53 {va : Nat} {fv : Nat × (Nat → Int64)} {call : oCl} (hc : cQoL va fv call) (x0 : Int32) (σ : oSt) (h : lgP va fv σ) : PIo (lgP va fv) (call 53 [.int x0] σ) := hc.2.2.2.2.2.2.2.2.2.2.2.2.2.2.2.2.2.2.2.2.2.2.2.2.2.2.2.2.2.2.2.2.2.2.2.2.2.2.2.2.2.2.2.2.2.2.2.2.2.2.2.2.2.1 x0 σ h
theorem cQoL.c54 {va : Nat} {fv : Nat × (Nat → Int64)} {call : oCl} (hc : cQoL va fv call) (x0 : Option Nat) (x1 : Option Nat) (x2 : Int32) (x3 : Int32) (σ : oSt) (h : lgP va fv σ) : PIo (lgP va fv) (call 54 [va_rf x0, va_rf x1, .int x2, .int x3] σ) := hc.2.2.2.2.2.2.2.2.2.2.2.2.2.2.2.2.2.2.2.2.2.2.2.2.2.2.2.2.2.2.2.2.2.2.2.2.2.2.2.2.2.2.2.2.2.2.2.2.2.2.2.2.2.2.1 x0 x1 x2 x3 σ h
theorem cQoL.c55 {va : Nat} {fv : Nat × (Nat → Int64)} {call : oCl} (hc : cQoL va fv call) (x0 : Option Nat) (x1 : Option Nat) (x2 : Int32) (σ : oSt) (h : lgP va fv σ) : PIo (lgP va fv) (call 55 [va_rf x0, va_rf x1, .int x2] σ) := hc.2.2.2.2.2.2.2.2.2.2.2.2.2.2.2.2.2.2.2.2.2.2.2.2.2.2.2.2.2.2.2.2.2.2.2.2.2.2.2.2.2.2.2.2.2.2.2.2.2.2.2.2.2.2.2.1 x0 x1 x2 σ h
theorem cQoL.c56 {va : Nat} {fv : Nat × (Nat → Int64)} {call : oCl} (hc : cQoL va fv call) (x0 : Option Nat) (x1 : Option Nat) (x2 : Int32) (σ : oSt) (h : lgP va fv σ) : PIo (lgP va fv) (call 56 [va_rf x0, va_rf x1, .int x2] σ) := hc.2.2.2.2.2.2.2.2.2.2.2.2.2.2.2.2.2.2.2.2.2.2.2.2.2.2.2.2.2.2.2.2.2.2.2.2.2.2.2.2.2.2.2.2.2.2.2.2.2.2.2.2.2.2.2.2.1 x0 x1 x2 σ h
theorem cQoL.c57 {va : Nat} {fv : Nat × (Nat → Int64)} {call : oCl} (hc : cQoL va fv call) (x0 : Option Nat) (x1 : Option Nat) (x2 : Option Nat) (σ : oSt) (h : lgP va fv σ) : PIo (lgP va fv) (call 57 [va_rf x0, va_rf x1, va_rf x2] σ) := hc.2.2.2.2.2.2.2.2.2.2.2.2.2.2.2.2.2.2.2.2.2.2.2.2.2.2.2.2.2.2.2.2.2.2.2.2.2.2.2.2.2.2.2.2.2.2.2.2.2.2.2.2.2.2.2.2.2.1 x0 x1 x2 σ h
theorem cQoL.c58 {va : Nat} {fv : Nat × (Nat → Int64)} {call : oCl} (hc : cQoL va fv call) (x0 : Option Nat) (σ : oSt) (h : lgP va fv σ) : PIo (lgP va fv) (call 58 [va_rf x0] σ) := hc.2.2.2.2.2.2.2.2.2.2.2.2.2.2.2.2.2.2.2.2.2.2.2.2.2.2.2.2.2.2.2.2.2.2.2.2.2.2.2.2.2.2.2.2.2.2.2.2.2.2.2.2.2.2.2.2.2.2.1 x0 σ h
theorem cQoL.c59 {va : Nat} {fv : Nat × (Nat → Int64)} {call : oCl} (hc : cQoL va fv call) (x0 : Option Nat) (σ : oSt) (h : lgP va fv σ) : PIo (lgP va fv) (call 59 [va_rf x0] σ) := hc.2.2.2.2.2.2.2.2.2.2.2.2.2.2.2.2.2.2.2.2.2.2.2.2.2.2.2.2.2.2.2.2.2.2.2.2.2.2.2.2.2.2.2.2.2.2.2.2.2.2.2.2.2.2.2.2.2.2.2.1 x0 σ h
theorem cQoL.c60 {va : Nat} {fv : Nat × (Nat → Int64)} {call : oCl} (hc : cQoL va fv call) (x0 : Option Nat) (σ : oSt) (h : lgP va fv σ) : PIo (lgP va fv) (call 60 [va_rf x0] σ) := hc.2.2.2.2.2.2.2.2.2.2.2.2.2.2.2.2.2.2.2.2.2.2.2.2.2.2.2.2.2.2.2.2.2.2.2.2.2.2.2.2.2.2.2.2.2.2.2.2.2.2.2.2.2.2.2.2.2.2.2.2.1 x0 σ h
theorem cQoL.c61 {va : Nat} {fv : Nat × (Nat → Int64)} {call : oCl} (hc : cQoL va fv call) (x0 : Option Nat) (σ : oSt) (h : lgP va fv σ) : PIo (lgP va fv) (call 61 [va_rf x0] σ) := hc.2.2.2.2.2.2.2.2.2.2.2.2.2.2.2.2.2.2.2.2.2.2.2.2.2.2.2.2.2.2.2.2.2.2.2.2.2.2.2.2.2.2.2.2.2.2.2.2.2.2.2.2.2.2.2.2.2.2.2.2.2.1 x0 σ h
theorem cQoL.c62 {va : Nat} {fv : Nat × (Nat → Int64)} {call : oCl} (hc : cQoL va fv call) (x0 : Option Nat) (σ : oSt) (h : lgP va fv σ) : PIo (lgP va fv) (call 62 [va_rf x0] σ) := hc.2.2.2.2.2.2.2.2.2.2.2.2.2.2.2.2.2.2.2.2.2.2.2.2.2.2.2.2.2.2.2.2.2.2.2.2.2.2.2.2.2.2.2.2.2.2.2.2.2.2.2.2.2.2.2.2.2.2.2.2.2.2.1 x0 σ h
theorem cQoL.c63 {va : Nat} {fv : Nat × (Nat → Int64)} {call : oCl} (hc : cQoL va fv call) (x0 : Option Nat) (x1 : Int32) (σ : oSt) (h : lgP va fv σ) : PIo (lgP va fv) (call 63 [va_rf x0, .int x1] σ) := hc.2.2.2.2.2.2.2.2.2.2.2.2.2.2.2.2.2.2.2.2.2.2.2.2.2.2.2.2.2.2.2.2.2.2.2.2.2.2.2.2.2.2.2.2.2.2.2.2.2.2.2.2.2.2.2.2.2.2.2.2.2.2.2.1 x0 x1 σ h
theorem cQoL.c64 {va : Nat} {fv : Nat × (Nat → Int64)} {call : oCl} (hc : cQoL va fv call) (x0 : Option Nat) (x1 : Option Nat) (x2 : Option Nat) (σ : oSt) (h : lgP va fv σ) : PIo (lgP va fv) (call 64 [va_rf x0, va_rf x1, va_rf x2] σ) := hc.2.2.2.2.2.2.2.2.2.2.2.2.2.2.2.2.2.2.2.2.2.2.2.2.2.2.2.2.2.2.2.2.2.2.2.2.2.2.2.2.2.2.2.2.2.2.2.2.2.2.2.2.2.2.2.2.2.2.2.2.2.2.2.2.1 x0 x1 x2 σ h
theorem cQoL.c65 {va : Nat} {fv : Nat × (Nat → Int64)} {call : oCl} (hc : cQoL va fv call) (x0 : Option Nat) (σ : oSt) (h : lgP va fv σ) : PIo (lgP va fv) (call 65 [va_rf x0] σ) := hc.2.2.2.2.2.2.2.2.2.2.2.2.2.2.2.2.2.2.2.2.2.2.2.2.2.2.2.2.2.2.2.2.2.2.2.2.2.2.2.2.2.2.2.2.2.2.2.2.2.2.2.2.2.2.2.2.2.2.2.2.2.2.2.2.2.1 x0 σ h
theorem cQoL.c66 {va : Nat} {fv : Nat × (Nat → Int64)} {call : oCl} (hc : cQoL va fv call) (x0 : Option Nat) (x1 : Int32) (σ : oSt) (h : lgP va fv σ) : PIo (lgP va fv) (call 66 [va_rf x0, .int x1] σ) := hc.2.2.2.2.2.2.2.2.2.2.2.2.2.2.2.2.2.2.2.2.2.2.2.2.2.2.2.2.2.2.2.2.2.2.2.2.2.2.2.2.2.2.2.2.2.2.2.2.2.2.2.2.2.2.2.2.2.2.2.2.2.2.2.2.2.2.1 x0 x1 σ h
theorem cQoL.c67 {va : Nat} {fv : Nat × (Nat → Int64)} {call : oCl} (hc : cQoL va fv call) (x0 : Option Nat) (x1 : Option Nat) (x2 : Option Nat) (x3 : Option Nat) (σ : oSt) (h : lgP va fv σ) : PIo (lgP va fv) (call 67 [va_rf x0, va_rf x1, va_rf x2, va_rf x3] σ) := hc.2.2.2.2.2.2.2.2.2.2.2.2.2.2.2.2.2.2.2.2.2.2.2.2.2.2.2.2.2.2.2.2.2.2.2.2.2.2.2.2.2.2.2.2.2.2.2.2.2.2.2.2.2.2.2.2.2.2.2.2.2.2.2.2.2.2.2.1 x0 x1 x2 x3 σ h
theorem cQoL.c68 {va : Nat} {fv : Nat × (Nat → Int64)} {call : oCl} (hc : cQoL va fv call) (x0 : Option Nat) (σ : oSt) (h : lgP va fv σ) : PIo (lgP va fv) (call 68 [va_rf x0] σ) := hc.2.2.2.2.2.2.2.2.2.2.2.2.2.2.2.2.2.2.2.2.2.2.2.2.2.2.2.2.2.2.2.2.2.2.2.2.2.2.2.2.2.2.2.2.2.2.2.2.2.2.2.2.2.2.2.2.2.2.2.2.2.2.2.2.2.2.2.2.1 x0 σ h
theorem cQoL.c179 {va : Nat} {fv : Nat × (Nat → Int64)} {call : oCl} (hc : cQoL va fv call) (x0 : Option Nat) (σ : oSt) (h : lgP va fv σ) : PIo (lgP va fv) (call 179 [va_rf x0] σ) := hc.2.2.2.2.2.2.2.2.2.2.2.2.2.2.2.2.2.2.2.2.2.2.2.2.2.2.2.2.2.2.2.2.2.2.2.2.2.2.2.2.2.2.2.2.2.2.2.2.2.2.2.2.2.2.2.2.2.2.2.2.2.2.2.2.2.2.2.2.2.1 x0 σ h
theorem cQoL.c205 {va : Nat} {fv : Nat × (Nat → Int64)} {call : oCl} (hc : cQoL va fv call) (x0 : Int32) (x1 : Int32) (σ : oSt) (h : lgP va fv σ) : PIo (lgP va fv) (call 205 [.int x0, .int x1] σ) := hc.2.2.2.2.2.2.2.2.2.2.2.2.2.2.2.2.2.2.2.2.2.2.2.2.2.2.2.2.2.2.2.2.2.2.2.2.2.2.2.2.2.2.2.2.2.2.2.2.2.2.2.2.2.2.2.2.2.2.2.2.2.2.2.2.2.2.2.2.2.2.1 x0 x1 σ h
theorem cQoL.c206 {va : Nat} {fv : Nat × (Nat → Int64)} {call : oCl} (hc : cQoL va fv call) (x0 : Int32) (x1 : Int32) (x2 : Option Nat) (σ : oSt) (h : lgP va fv σ) : PIo (lgP va fv) (call 206 [.int x0, .int x1, va_rf x2] σ) := hc.2.2.2.2.2.2.2.2.2.2.2.2.2.2.2.2.2.2.2.2.2.2.2.2.2.2.2.2.2.2.2.2.2.2.2.2.2.2.2.2.2.2.2.2.2.2.2.2.2.2.2.2.2.2.2.2.2.2.2.2.2.2.2.2.2.2.2.2.2.2.2.1 x0 x1 x2 σ h
theorem cQoL.c224 {va : Nat} {fv : Nat × (Nat → Int64)} {call : oCl} (hc : cQoL va fv call) (x0 : Option Nat) (σ : oSt) (h : lgP va fv σ) : PIo (lgP va fv) (call 224 [va_rf x0] σ) := hc.2.2.2.2.2.2.2.2.2.2.2.2.2.2.2.2.2.2.2.2.2.2.2.2.2.2.2.2.2.2.2.2.2.2.2.2.2.2.2.2.2.2.2.2.2.2.2.2.2.2.2.2.2.2.2.2.2.2.2.2.2.2.2.2.2.2.2.2.2.2.2.2.1 x0 σ h
theorem cQoL.c225 {va : Nat} {fv : Nat × (Nat → Int64)} {call : oCl} (hc : cQoL va fv call) (x0 : Option Nat) (σ : oSt) (h : lgP va fv σ) : PIo (lgP va fv) (call 225 [va_rf x0] σ) := hc.2.2.2.2.2.2.2.2.2.2.2.2.2.2.2.2.2.2.2.2.2.2.2.2.2.2.2.2.2.2.2.2.2.2.2.2.2.2.2.2.2.2.2.2.2.2.2.2.2.2.2.2.2.2.2.2.2.2.2.2.2.2.2.2.2.2.2.2.2.2.2.2.2.1 x0 σ h
theorem cQoL.c226 {va : Nat} {fv : Nat × (Nat → Int64)} {call : oCl} (hc : cQoL va fv call) (x0 : Option Nat) (σ : oSt) (h : lgP va fv σ) : PIo (lgP va fv) (call 226 [va_rf x0] σ) := hc.2.2.2.2.2.2.2.2.2.2.2.2.2.2.2.2.2.2.2.2.2.2.2.2.2.2.2.2.2.2.2.2.2.2.2.2.2.2.2.2.2.2.2.2.2.2.2.2.2.2.2.2.2.2.2.2.2.2.2.2.2.2.2.2.2.2.2.2.2.2.2.2.2.2.1 x0 σ h
theorem cQoL.c227 {va : Nat} {fv : Nat × (Nat → Int64)} {call : oCl} (hc : cQoL va fv call) (x0 : Option Nat) (x1 : Option Nat) (σ : oSt) (h : lgP va fv σ) : PIo (lgP va fv) (call 227 [va_rf x0, va_rf x1] σ) := hc.2.2.2.2.2.2.2.2.2.2.2.2.2.2.2.2.2.2.2.2.2.2.2.2.2.2.2.2.2.2.2.2.2.2.2.2.2.2.2.2.2.2.2.2.2.2.2.2.2.2.2.2.2.2.2.2.2.2.2.2.2.2.2.2.2.2.2.2.2.2.2.2.2.2.2.1 x0 x1 σ h
theorem cQoL.c228 {va : Nat} {fv : Nat × (Nat → Int64)} {call : oCl} (hc : cQoL va fv call) (x0 : Option Nat) (x1 : Option Nat) (x2 : Option Nat) (x3 : Int32) (σ : oSt) (h : lgP va fv σ) : PIo (lgP va fv) (call 228 [va_rf x0, va_rf x1, va_rf x2, .int x3] σ) := hc.2.2.2.2.2.2.2.2.2.2.2.2.2.2.2.2.2.2.2.2.2.2.2.2.2.2.2.2.2.2.2.2.2.2.2.2.2.2.2.2.2.2.2.2.2.2.2.2.2.2.2.2.2.2.2.2.2.2.2.2.2.2.2.2.2.2.2.2.2.2.2.2.2.2.2.2.1 x0 x1 x2 x3 σ h
theorem cQoL.c229 {va : Nat} {fv : Nat × (Nat → Int64)} {call : oCl} (hc : cQoL va fv call) (x0 : Option Nat) (σ : oSt) (h : lgP va fv σ) : PIo (lgP va fv) (call 229 [va_rf x0] σ) := hc.2.2.2.2.2.2.2.2.2.2.2.2.2.2.2.2.2.2.2.2.2.2.2.2.2.2.2.2.2.2.2.2.2.2.2.2.2.2.2.2.2.2.2.2.2.2.2.2.2.2.2.2.2.2.2.2.2.2.2.2.2.2.2.2.2.2.2.2.2.2.2.2.2.2.2.2.2.1 x0 σ h
theorem cQoL.c230 {va : Nat} {fv : Nat × (Nat → Int64)} {call : oCl} (hc : cQoL va fv call) (x0 : Option Nat) (x1 : Int32) (σ : oSt) (h : lgP va fv σ) : PIo (lgP va fv) (call 230 [va_rf x0, .int x1] σ) := hc.2.2.2.2.2.2.2.2.2.2.2.2.2.2.2.2.2.2.2.2.2.2.2.2.2.2.2.2.2.2.2.2.2.2.2.2.2.2.2.2.2.2.2.2.2.2.2.2.2.2.2.2.2.2.2.2.2.2.2.2.2.2.2.2.2.2.2.2.2.2.2.2.2.2.2.2.2.2.1 x0 x1 σ h
theorem cQoL.c231 {va : Nat} {fv : Nat × (Nat → Int64)} {call : oCl} (hc : cQoL va fv call) (x0 : Int32) (x1 : Int32) (x2 : Int32) (σ : oSt) (h : lgP va fv σ) : PIo (lgP va fv) (call 231 [.int x0, .int x1, .int x2] σ) := hc.2.2.2.2.2.2.2.2.2.2.2.2.2.2.2.2.2.2.2.2.2.2.2.2.2.2.2.2.2.2.2.2.2.2.2.2.2.2.2.2.2.2.2.2.2.2.2.2.2.2.2.2.2.2.2.2.2.2.2.2.2.2.2.2.2.2.2.2.2.2.2.2.2.2.2.2.2.2.2.1 x0 x1 x2 σ h
theorem cQoL.c232 {va : Nat} {fv : Nat × (Nat → Int64)} {call : oCl} (hc : cQoL va fv call) (x0 : Option Nat) (x1 : Int32) (σ : oSt) (h : lgP va fv σ) : PIo (lgP va fv) (call 232 [va_rf x0, .int x1] σ) := hc.2.2.2.2.2.2.2.2.2.2.2.2.2.2.2.2.2.2.2.2.2.2.2.2.2.2.2.2.2.2.2.2.2.2.2.2.2.2.2.2.2.2.2.2.2.2.2.2.2.2.2.2.2.2.2.2.2.2.2.2.2.2.2.2.2.2.2.2.2.2.2.2.2.2.2.2.2.2.2.2.1 x0 x1 σ h
theorem cQoL.c233 {va : Nat} {fv : Nat × (Nat → Int64)} {call : oCl} (hc : cQoL va fv call) (x0 : Option Nat) (x1 : Int32) (x2 : Option Nat) (σ : oSt) (h : lgP va fv σ) : PIo (lgP va fv) (call 233 [va_rf x0, .int x1, va_rf x2] σ) := hc.2.2.2.2.2.2.2.2.2.2.2.2.2.2.2.2.2.2.2.2.2.2.2.2.2.2.2.2.2.2.2.2.2.2.2.2.2.2.2.2.2.2.2.2.2.2.2.2.2.2.2.2.2.2.2.2.2.2.2.2.2.2.2.2.2.2.2.2.2.2.2.2.2.2.2.2.2.2.2.2.2.1 x0 x1 x2 σ h
theorem cQoL.c234 {va : Nat} {fv : Nat × (Nat → Int64)} {call : oCl} (hc : cQoL va fv call) (x0 : Option Nat) (x1 : Int32) (σ : oSt) (h : lgP va fv σ) : PIo (lgP va fv) (call 234 [va_rf x0, .int x1] σ) := hc.2.2.2.2.2.2.2.2.2.2.2.2.2.2.2.2.2.2.2.2.2.2.2.2.2.2.2.2.2.2.2.2.2.2.2.2.2.2.2.2.2.2.2.2.2.2.2.2.2.2.2.2.2.2.2.2.2.2.2.2.2.2.2.2.2.2.2.2.2.2.2.2.2.2.2.2.2.2.2.2.2.2.1 x0 x1 σ h
theorem cQoL.c235 {va : Nat} {fv : Nat × (Nat → Int64)} {call : oCl} (hc : cQoL va fv call) (x0 : Option Nat) (x1 : Int32) (σ : oSt) (h : lgP va fv σ) : PIo (lgP va fv) (call 235 [va_rf x0, .int x1] σ) := hc.2.2.2.2.2.2.2.2.2.2.2.2.2.2.2.2.2.2.2.2.2.2.2.2.2.2.2.2.2.2.2.2.2.2.2.2.2.2.2.2.2.2.2.2.2.2.2.2.2.2.2.2.2.2.2.2.2.2.2.2.2.2.2.2.2.2.2.2.2.2.2.2.2.2.2.2.2.2.2.2.2.2.2.1 x0 x1 σ h
theorem cQoL.c236 {va : Nat} {fv : Nat × (Nat → Int64)} {call : oCl} (hc : cQoL va fv call) (x0 : Option Nat) (σ : oSt) (h : lgP va fv σ) : PIo (lgP va fv) (call 236 [va_rf x0] σ) := hc.2.2.2.2.2.2.2.2.2.2.2.2.2.2.2.2.2.2.2.2.2.2.2.2.2.2.2.2.2.2.2.2.2.2.2.2.2.2.2.2.2.2.2.2.2.2.2.2.2.2.2.2.2.2.2.2.2.2.2.2.2.2.2.2.2.2.2.2.2.2.2.2.2.2.2.2.2.2.2.2.2.2.2.2.1 x0 σ h
theorem cQoL.c238 {va : Nat} {fv : Nat × (Nat → Int64)} {call : oCl} (hc : cQoL va fv call) (x0 : Option Nat) (x1 : Int32) (σ : oSt) (h : lgP va fv σ) : PIo (lgP va fv) (call 238 [va_rf x0, .int x1] σ) := hc.2.2.2.2.2.2.2.2.2.2.2.2.2.2.2.2.2.2.2.2.2.2.2.2.2.2.2.2.2.2.2.2.2.2.2.2.2.2.2.2.2.2.2.2.2.2.2.2.2.2.2.2.2.2.2.2.2.2.2.2.2.2.2.2.2.2.2.2.2.2.2.2.2.2.2.2.2.2.2.2.2.2.2.2.2.1 x0 x1 σ h
theorem cQoL.c239 {va : Nat} {fv : Nat × (Nat → Int64)} {call : oCl} (hc : cQoL va fv call) (x0 : Option Nat) (x1 : Int32) (σ : oSt) (h : lgP va fv σ) : PIq va fv (call 239 [va_rf x0, .int x1] σ) := hc.2.2.2.2.2.2.2.2.2.2.2.2.2.2.2.2.2.2.2.2.2.2.2.2.2.2.2.2.2.2.2.2.2.2.2.2.2.2.2.2.2.2.2.2.2.2.2.2.2.2.2.2.2.2.2.2.2.2.2.2.2.2.2.2.2.2.2.2.2.2.2.2.2.2.2.2.2.2.2.2.2.2.2.2.2.2 x0 x1 σ h
section OPGL
variable {va : Nat} {fv : Nat × (Nat → Int64)} {n : Nat} {call : oCl} {κ : oKv}
theorem pioL_ob_X0_init  {x0 : Option Nat} {x1 : Option Nat} {x2 : Option Nat} {x3 : Option Nat} {σ : oSt} (hc : cQoL va fv call)  (h : lgP va fv σ) : PIo (lgP va fv) (ob_X0_init n call κ  x0 x1 x2 x3 σ) := by
  unfold ob_X0_init
  repeat' (with_reducible (first | assumption | (refine PIoL_gd ?_) | (refine PIoL_pf ?_ (by decide) (fun _ _ => ?_)) | (refine PIoL_si ?_ (fun _ _ => ?_)) | (refine PIoL_sj ?_ (by assumption) (fun _ _ => ?_)) | (refine PIoL_sr ?_ (fun _ _ => ?_)) | (refine PIoL_cy ?_ (by first | exact Or.inl ⟨_, by assumption⟩ | (refine Or.inr ⟨_, ?_, rfl⟩; assumption)) (fun _ _ => ?_)) | (refine PIoL_be (fun _ _ => ?_)) | (refine PIoL_na ?_ (fun _ _ => ?_)) | (refine PIoL_no ?_ (fun _ _ => ?_)) | (refine PIoL_ite ?_ ?_) | (refine PIoL_some ?_) | (exact PIoL_none) | (refine PIoL_cv (cQoL.c224 hc _ _ ?_) (fun _ _ => ?_))))
theorem pioL_ob_X2_init  {x0 : Option Nat} {x1 : Int32} {σ : oSt} (hc : cQoL va fv call)  (h : lgP va fv σ) : PIo (lgP va fv) (ob_X2_init n call κ  x0 x1 σ) := by
  unfold ob_X2_init
  repeat' (with_reducible (first | assumption | (refine PIoL_gd ?_) | (refine PIoL_pf ?_ (by decide) (fun _ _ => ?_)) | (refine PIoL_si ?_ (fun _ _ => ?_)) | (refine PIoL_sj ?_ (by assumption) (fun _ _ => ?_)) | (refine PIoL_sr ?_ (fun _ _ => ?_)) | (refine PIoL_cy ?_ (by first | exact Or.inl ⟨_, by assumption⟩ | (refine Or.inr ⟨_, ?_, rfl⟩; assumption)) (fun _ _ => ?_)) | (refine PIoL_be (fun _ _ => ?_)) | (refine PIoL_na ?_ (fun _ _ => ?_)) | (refine PIoL_no ?_ (fun _ _ => ?_)) | (refine PIoL_ite ?_ ?_) | (refine PIoL_some ?_) | (exact PIoL_none)))
theorem pioL_ob_X8_init  {x0 : Option Nat} {x1 : Option Nat} {x2 : Option Nat} {σ : oSt} (hc : cQoL va fv call)  (h : lgP va fv σ) : PIo (lgP va fv) (ob_X8_init n call κ  x0 x1 x2 σ) := by
  unfold ob_X8_init
  repeat' (with_reducible (first | assumption | (refine PIoL_gd ?_) | (refine PIoL_pf ?_ (by decide) (fun _ _ => ?_)) | (refine PIoL_si ?_ (fun _ _ => ?_)) | (refine PIoL_sj ?_ (by assumption) (fun _ _ => ?_)) | (refine PIoL_sr ?_ (fun _ _ => ?_)) | (refine PIoL_cy ?_ (by first | exact Or.inl ⟨_, by assumption⟩ | (refine Or.inr ⟨_, ?_, rfl⟩; assumption)) (fun _ _ => ?_)) | (refine PIoL_be (fun _ _ => ?_)) | (refine PIoL_na ?_ (fun _ _ => ?_)) | (refine PIoL_no ?_ (fun _ _ => ?_)) | (refine PIoL_ite ?_ ?_) | (refine PIoL_some ?_) | (exact PIoL_none)))
theorem pioL_ob_X2_init_  {x0 : Option Nat} {x1 : Option Nat} {x2 : Option Nat} {x3 : Option Nat} {σ : oSt} (hc : cQoL va fv call)  (h : lgP va fv σ) : PIo (lgP va fv) (ob_X2_init_ n call κ  x0 x1 x2 x3 σ) := by
  unfold ob_X2_init_
  repeat' (with_reducible (first | assumption | (refine PIoL_gd ?_) | (refine PIoL_pf ?_ (by decide) (fun _ _ => ?_)) | (refine PIoL_si ?_ (fun _ _ => ?_)) | (refine PIoL_sj ?_ (by assumption) (fun _ _ => ?_)) | (refine PIoL_sr ?_ (fun _ _ => ?_)) | (refine PIoL_cy ?_ (by first | exact Or.inl ⟨_, by assumption⟩ | (refine Or.inr ⟨_, ?_, rfl⟩; assumption)) (fun _ _ => ?_)) | (refine PIoL_be (fun _ _ => ?_)) | (refine PIoL_na ?_ (fun _ _ => ?_)) | (refine PIoL_no ?_ (fun _ _ => ?_)) | (refine PIoL_ite ?_ ?_) | (refine PIoL_some ?_) | (exact PIoL_none)))
theorem pioL_ol_X2_answered_79  (hc : cQoL va fv call)  : ∀ (t : Nat) (x0 : Option Nat) (x1 : Option Nat) (x2 : Int32) (x3 : Option Nat) (x4 : Option Nat) (x5 : Int32) (σ : oSt), lgP va fv σ → PIo (lgP va fv) (ol_X2_answered_79 n call κ  t x0 x1 x2 x3 x4 x5 σ) := by
  intro t
  induction t with
  | zero => intros; exact PIoL_none
  | succ t ih =>
    intro x0 x1 x2 x3 x4 x5 σ h
    rw [ol_X2_answered_79]
    repeat' (with_reducible (first | assumption | (refine PIoL_gd ?_) | (refine PIoL_pf ?_ (by decide) (fun _ _ => ?_)) | (refine PIoL_si ?_ (fun _ _ => ?_)) | (refine PIoL_sj ?_ (by assumption) (fun _ _ => ?_)) | (refine PIoL_sr ?_ (fun _ _ => ?_)) | (refine PIoL_cy ?_ (by first | exact Or.inl ⟨_, by assumption⟩ | (refine Or.inr ⟨_, ?_, rfl⟩; assumption)) (fun _ _ => ?_)) | (refine PIoL_be (fun _ _ => ?_)) | (refine PIoL_na ?_ (fun _ _ => ?_)) | (refine PIoL_no ?_ (fun _ _ => ?_)) | (refine PIoL_ite ?_ ?_) | (refine PIoL_some ?_) | (exact PIoL_none) | (refine PIoL_cv (cQoL.c3 hc _ _ _ _ _ ?_) (fun _ _ => ?_)) | (refine ih _ _ _ _ _ _ _ ?_)))
theorem pioL_oj_X2_answered_60  {x0 : Option Nat} {x1 : Option Nat} {t0 : Int32} {σ : oSt} (hc : cQoL va fv call)  (h : lgP va fv σ) : PIo (lgP va fv) (oj_X2_answered_60 n call κ  x0 x1 t0 σ) := by
  unfold oj_X2_answered_60
  repeat' (with_reducible (first | assumption | (refine PIoL_gd ?_) | (refine PIoL_pf ?_ (by decide) (fun _ _ => ?_)) | (refine PIoL_si ?_ (fun _ _ => ?_)) | (refine PIoL_sj ?_ (by assumption) (fun _ _ => ?_)) | (refine PIoL_sr ?_ (fun _ _ => ?_)) | (refine PIoL_cy ?_ (by first | exact Or.inl ⟨_, by assumption⟩ | (refine Or.inr ⟨_, ?_, rfl⟩; assumption)) (fun _ _ => ?_)) | (refine PIoL_be (fun _ _ => ?_)) | (refine PIoL_na ?_ (fun _ _ => ?_)) | (refine PIoL_no ?_ (fun _ _ => ?_)) | (refine PIoL_ite ?_ ?_) | (refine PIoL_some ?_) | (exact PIoL_none) | (refine pioL_ol_X2_answered_79 hc  _ _ _ _ _ _ _ _ ?_)))
theorem pioL_ob_X2_answered  {x0 : Option Nat} {x1 : Option Nat} {σ : oSt} (hc : cQoL va fv call)  (h : lgP va fv σ) : PIo (lgP va fv) (ob_X2_answered n call κ  x0 x1 σ) := by
  unfold ob_X2_answered
  repeat' (with_reducible (first | assumption | (refine PIoL_gd ?_) | (refine PIoL_pf ?_ (by decide) (fun _ _ => ?_)) | (refine PIoL_si ?_ (fun _ _ => ?_)) | (refine PIoL_sj ?_ (by assumption) (fun _ _ => ?_)) | (refine PIoL_sr ?_ (fun _ _ => ?_)) | (refine PIoL_cy ?_ (by first | exact Or.inl ⟨_, by assumption⟩ | (refine Or.inr ⟨_, ?_, rfl⟩; assumption)) (fun _ _ => ?_)) | (refine PIoL_be (fun _ _ => ?_)) | (refine PIoL_na ?_ (fun _ _ => ?_)) | (refine PIoL_no ?_ (fun _ _ => ?_)) | (refine PIoL_ite ?_ ?_) | (refine PIoL_some ?_) | (exact PIoL_none) | (refine PIoL_cv (cQoL.c3 hc _ _ _ _ _ ?_) (fun _ _ => ?_)) | (refine pioL_oj_X2_answered_60 hc  ?_)))
theorem pioL_ob_X2_taken  {x0 : Option Nat} {σ : oSt} (hc : cQoL va fv call)  (h : lgP va fv σ) : PIo (lgP va fv) (ob_X2_taken n call κ  x0 σ) := by
  unfold ob_X2_taken
  repeat' (with_reducible (first | assumption | (refine PIoL_gd ?_) | (refine PIoL_pf ?_ (by decide) (fun _ _ => ?_)) | (refine PIoL_si ?_ (fun _ _ => ?_)) | (refine PIoL_sj ?_ (by assumption) (fun _ _ => ?_)) | (refine PIoL_sr ?_ (fun _ _ => ?_)) | (refine PIoL_cy ?_ (by first | exact Or.inl ⟨_, by assumption⟩ | (refine Or.inr ⟨_, ?_, rfl⟩; assumption)) (fun _ _ => ?_)) | (refine PIoL_be (fun _ _ => ?_)) | (refine PIoL_na ?_ (fun _ _ => ?_)) | (refine PIoL_no ?_ (fun _ _ => ?_)) | (refine PIoL_ite ?_ ?_) | (refine PIoL_some ?_) | (exact PIoL_none) | (refine PIoL_cv (cQoL.c3 hc _ _ _ _ _ ?_) (fun _ _ => ?_))))
theorem pioL_oj_X4_isMeasured_30   {σ : oSt} (hc : cQoL va fv call)  (h : lgP va fv σ) : PIo (lgP va fv) (oj_X4_isMeasured_30 n call κ   σ) := by
  unfold oj_X4_isMeasured_30
  repeat' (with_reducible (first | assumption | (refine PIoL_gd ?_) | (refine PIoL_pf ?_ (by decide) (fun _ _ => ?_)) | (refine PIoL_si ?_ (fun _ _ => ?_)) | (refine PIoL_sj ?_ (by assumption) (fun _ _ => ?_)) | (refine PIoL_sr ?_ (fun _ _ => ?_)) | (refine PIoL_cy ?_ (by first | exact Or.inl ⟨_, by assumption⟩ | (refine Or.inr ⟨_, ?_, rfl⟩; assumption)) (fun _ _ => ?_)) | (refine PIoL_be (fun _ _ => ?_)) | (refine PIoL_na ?_ (fun _ _ => ?_)) | (refine PIoL_no ?_ (fun _ _ => ?_)) | (refine PIoL_ite ?_ ?_) | (refine PIoL_some ?_) | (exact PIoL_none)))
theorem pioL_ob_X4_isMeasured  {x0 : Option Nat} {σ : oSt} (hc : cQoL va fv call)  (h : lgP va fv σ) : PIo (lgP va fv) (ob_X4_isMeasured n call κ  x0 σ) := by
  unfold ob_X4_isMeasured
  repeat' (with_reducible (first | assumption | (refine PIoL_gd ?_) | (refine PIoL_pf ?_ (by decide) (fun _ _ => ?_)) | (refine PIoL_si ?_ (fun _ _ => ?_)) | (refine PIoL_sj ?_ (by assumption) (fun _ _ => ?_)) | (refine PIoL_sr ?_ (fun _ _ => ?_)) | (refine PIoL_cy ?_ (by first | exact Or.inl ⟨_, by assumption⟩ | (refine Or.inr ⟨_, ?_, rfl⟩; assumption)) (fun _ _ => ?_)) | (refine PIoL_be (fun _ _ => ?_)) | (refine PIoL_na ?_ (fun _ _ => ?_)) | (refine PIoL_no ?_ (fun _ _ => ?_)) | (refine PIoL_ite ?_ ?_) | (refine PIoL_some ?_) | (exact PIoL_none) | (refine pioL_oj_X4_isMeasured_30 hc  ?_)))
theorem pioL_ob_X4_init  {x0 : Option Nat} {x1 : Option Nat} {x2 : Int32} {σ : oSt} (hc : cQoL va fv call)  (h : lgP va fv σ) : PIo (lgP va fv) (ob_X4_init n call κ  x0 x1 x2 σ) := by
  unfold ob_X4_init
  repeat' (with_reducible (first | assumption | (refine PIoL_gd ?_) | (refine PIoL_pf ?_ (by decide) (fun _ _ => ?_)) | (refine PIoL_si ?_ (fun _ _ => ?_)) | (refine PIoL_sj ?_ (by assumption) (fun _ _ => ?_)) | (refine PIoL_sr ?_ (fun _ _ => ?_)) | (refine PIoL_cy ?_ (by first | exact Or.inl ⟨_, by assumption⟩ | (refine Or.inr ⟨_, ?_, rfl⟩; assumption)) (fun _ _ => ?_)) | (refine PIoL_be (fun _ _ => ?_)) | (refine PIoL_na ?_ (fun _ _ => ?_)) | (refine PIoL_no ?_ (fun _ _ => ?_)) | (refine PIoL_ite ?_ ?_) | (refine PIoL_some ?_) | (exact PIoL_none)))
theorem pioL_ob_X9_init  {x0 : Option Nat} {σ : oSt} (hc : cQoL va fv call)  (h : lgP va fv σ) : PIo (lgP va fv) (ob_X9_init n call κ  x0 σ) := by
  unfold ob_X9_init
  repeat' (with_reducible (first | assumption | (refine PIoL_gd ?_) | (refine PIoL_pf ?_ (by decide) (fun _ _ => ?_)) | (refine PIoL_si ?_ (fun _ _ => ?_)) | (refine PIoL_sj ?_ (by assumption) (fun _ _ => ?_)) | (refine PIoL_sr ?_ (fun _ _ => ?_)) | (refine PIoL_cy ?_ (by first | exact Or.inl ⟨_, by assumption⟩ | (refine Or.inr ⟨_, ?_, rfl⟩; assumption)) (fun _ _ => ?_)) | (refine PIoL_be (fun _ _ => ?_)) | (refine PIoL_na ?_ (fun _ _ => ?_)) | (refine PIoL_no ?_ (fun _ _ => ?_)) | (refine PIoL_ite ?_ ?_) | (refine PIoL_some ?_) | (exact PIoL_none)))
theorem pioL_oj_X9_append_58  {x0 : Option Nat} {x1 : Option Nat} {σ : oSt} (hc : cQoL va fv call)  (h : lgP va fv σ) : PIo (lgP va fv) (oj_X9_append_58 n call κ  x0 x1 σ) := by
  unfold oj_X9_append_58
  repeat' (with_reducible (first | assumption | (refine PIoL_gd ?_) | (refine PIoL_pf ?_ (by decide) (fun _ _ => ?_)) | (refine PIoL_si ?_ (fun _ _ => ?_)) | (refine PIoL_sj ?_ (by assumption) (fun _ _ => ?_)) | (refine PIoL_sr ?_ (fun _ _ => ?_)) | (refine PIoL_cy ?_ (by first | exact Or.inl ⟨_, by assumption⟩ | (refine Or.inr ⟨_, ?_, rfl⟩; assumption)) (fun _ _ => ?_)) | (refine PIoL_be (fun _ _ => ?_)) | (refine PIoL_na ?_ (fun _ _ => ?_)) | (refine PIoL_no ?_ (fun _ _ => ?_)) | (refine PIoL_ite ?_ ?_) | (refine PIoL_some ?_) | (exact PIoL_none)))
theorem pioL_ob_X9_append  {x0 : Option Nat} {x1 : Option Nat} {σ : oSt} (hc : cQoL va fv call)  (h : lgP va fv σ) : PIo (lgP va fv) (ob_X9_append n call κ  x0 x1 σ) := by
  unfold ob_X9_append
  repeat' (with_reducible (first | assumption | (refine PIoL_gd ?_) | (refine PIoL_pf ?_ (by decide) (fun _ _ => ?_)) | (refine PIoL_si ?_ (fun _ _ => ?_)) | (refine PIoL_sj ?_ (by assumption) (fun _ _ => ?_)) | (refine PIoL_sr ?_ (fun _ _ => ?_)) | (refine PIoL_cy ?_ (by first | exact Or.inl ⟨_, by assumption⟩ | (refine Or.inr ⟨_, ?_, rfl⟩; assumption)) (fun _ _ => ?_)) | (refine PIoL_be (fun _ _ => ?_)) | (refine PIoL_na ?_ (fun _ _ => ?_)) | (refine PIoL_no ?_ (fun _ _ => ?_)) | (refine PIoL_ite ?_ ?_) | (refine PIoL_some ?_) | (exact PIoL_none) | (refine PIoL_rn (cQoL.c238 hc _ _ _ ?_) (fun _ _ _ => ?_)) | (refine pioL_oj_X9_append_58 hc  ?_)))
theorem pioL_oj_X9_add_44  {x0 : Option Nat} {x2 : Int32} {x3 : Int32} {σ : oSt} (hc : cQoL va fv call)  (h : lgP va fv σ) : PIo (lgP va fv) (oj_X9_add_44 n call κ  x0 x2 x3 σ) := by
  unfold oj_X9_add_44
  repeat' (with_reducible (first | assumption | (refine PIoL_gd ?_) | (refine PIoL_pf ?_ (by decide) (fun _ _ => ?_)) | (refine PIoL_si ?_ (fun _ _ => ?_)) | (refine PIoL_sj ?_ (by assumption) (fun _ _ => ?_)) | (refine PIoL_sr ?_ (fun _ _ => ?_)) | (refine PIoL_cy ?_ (by first | exact Or.inl ⟨_, by assumption⟩ | (refine Or.inr ⟨_, ?_, rfl⟩; assumption)) (fun _ _ => ?_)) | (refine PIoL_be (fun _ _ => ?_)) | (refine PIoL_na ?_ (fun _ _ => ?_)) | (refine PIoL_no ?_ (fun _ _ => ?_)) | (refine PIoL_ite ?_ ?_) | (refine PIoL_some ?_) | (exact PIoL_none)))
theorem pioL_oj_X9_add_31  {x0 : Option Nat} {x1 : Option Nat} {x2 : Int32} {x3 : Int32} {σ : oSt} (hc : cQoL va fv call)  (h : lgP va fv σ) : PIo (lgP va fv) (oj_X9_add_31 n call κ  x0 x1 x2 x3 σ) := by
  unfold oj_X9_add_31
  repeat' (with_reducible (first | assumption | (refine PIoL_gd ?_) | (refine PIoL_pf ?_ (by decide) (fun _ _ => ?_)) | (refine PIoL_si ?_ (fun _ _ => ?_)) | (refine PIoL_sj ?_ (by assumption) (fun _ _ => ?_)) | (refine PIoL_sr ?_ (fun _ _ => ?_)) | (refine PIoL_cy ?_ (by first | exact Or.inl ⟨_, by assumption⟩ | (refine Or.inr ⟨_, ?_, rfl⟩; assumption)) (fun _ _ => ?_)) | (refine PIoL_be (fun _ _ => ?_)) | (refine PIoL_na ?_ (fun _ _ => ?_)) | (refine PIoL_no ?_ (fun _ _ => ?_)) | (refine PIoL_ite ?_ ?_) | (refine PIoL_some ?_) | (exact PIoL_none) | (refine PIoL_cv (cQoL.c9 hc _ _ _ ?_) (fun _ _ => ?_)) | (refine pioL_oj_X9_add_44 hc  ?_)))
theorem pioL_ol_X9_add_7  (hc : cQoL va fv call)  : ∀ (t : Nat) (x0 : Option Nat) (x1 : Option Nat) (x2 : Int32) (x3 : Int32) (σ : oSt), lgP va fv σ → PIo (lgP va fv) (ol_X9_add_7 n call κ  t x0 x1 x2 x3 σ) := by
  intro t
  induction t with
  | zero => intros; exact PIoL_none
  | succ t ih =>
    intro x0 x1 x2 x3 σ h
    rw [ol_X9_add_7]
    repeat' (with_reducible (first | assumption | (refine PIoL_gd ?_) | (refine PIoL_pf ?_ (by decide) (fun _ _ => ?_)) | (refine PIoL_si ?_ (fun _ _ => ?_)) | (refine PIoL_sj ?_ (by assumption) (fun _ _ => ?_)) | (refine PIoL_sr ?_ (fun _ _ => ?_)) | (refine PIoL_cy ?_ (by first | exact Or.inl ⟨_, by assumption⟩ | (refine Or.inr ⟨_, ?_, rfl⟩; assumption)) (fun _ _ => ?_)) | (refine PIoL_be (fun _ _ => ?_)) | (refine PIoL_na ?_ (fun _ _ => ?_)) | (refine PIoL_no ?_ (fun _ _ => ?_)) | (refine PIoL_ite ?_ ?_) | (refine PIoL_some ?_) | (exact PIoL_none) | (refine pioL_oj_X9_add_31 hc  ?_) | (refine ih _ _ _ _ _ ?_)))
theorem pioL_ob_X9_add  {x0 : Option Nat} {x1 : Option Nat} {x2 : Int32} {σ : oSt} (hc : cQoL va fv call)  (h : lgP va fv σ) : PIo (lgP va fv) (ob_X9_add n call κ  x0 x1 x2 σ) := by
  unfold ob_X9_add
  repeat' (with_reducible (first | assumption | (refine PIoL_gd ?_) | (refine PIoL_pf ?_ (by decide) (fun _ _ => ?_)) | (refine PIoL_si ?_ (fun _ _ => ?_)) | (refine PIoL_sj ?_ (by assumption) (fun _ _ => ?_)) | (refine PIoL_sr ?_ (fun _ _ => ?_)) | (refine PIoL_cy ?_ (by first | exact Or.inl ⟨_, by assumption⟩ | (refine Or.inr ⟨_, ?_, rfl⟩; assumption)) (fun _ _ => ?_)) | (refine PIoL_be (fun _ _ => ?_)) | (refine PIoL_na ?_ (fun _ _ => ?_)) | (refine PIoL_no ?_ (fun _ _ => ?_)) | (refine PIoL_ite ?_ ?_) | (refine PIoL_some ?_) | (exact PIoL_none) | (refine pioL_ol_X9_add_7 hc  _ _ _ _ _ _ ?_)))
theorem pioL_oj_X9_of_20  {x1 : Int32} {x2 : Int64} {x4 : Option Nat} {t0 : Option Nat} {t1 : Option Nat} {σ : oSt} (hc : cQoL va fv call)  (h : lgP va fv σ) : PIo (lgP va fv) (oj_X9_of_20 n call κ  x1 x2 x4 t0 t1 σ) := by
  unfold oj_X9_of_20
  repeat' (with_reducible (first | assumption | (refine PIoL_gd ?_) | (refine PIoL_pf ?_ (by decide) (fun _ _ => ?_)) | (refine PIoL_si ?_ (fun _ _ => ?_)) | (refine PIoL_sj ?_ (by assumption) (fun _ _ => ?_)) | (refine PIoL_sr ?_ (fun _ _ => ?_)) | (refine PIoL_cy ?_ (by first | exact Or.inl ⟨_, by assumption⟩ | (refine Or.inr ⟨_, ?_, rfl⟩; assumption)) (fun _ _ => ?_)) | (refine PIoL_be (fun _ _ => ?_)) | (refine PIoL_na ?_ (fun _ _ => ?_)) | (refine PIoL_no ?_ (fun _ _ => ?_)) | (refine PIoL_ite ?_ ?_) | (refine PIoL_some ?_) | (exact PIoL_none) | (refine PIoL_cv (cQoL.c10 hc _ _ _ _ ?_) (fun _ _ => ?_))))
theorem pioL_ob_X9_of  {x0 : Option Nat} {x1 : Int32} {x2 : Int64} {σ : oSt} (hc : cQoL va fv call)  (h : lgP va fv σ) : PIo (lgP va fv) (ob_X9_of n call κ  x0 x1 x2 σ) := by
  unfold ob_X9_of
  repeat' (with_reducible (first | assumption | (refine PIoL_gd ?_) | (refine PIoL_pf ?_ (by decide) (fun _ _ => ?_)) | (refine PIoL_si ?_ (fun _ _ => ?_)) | (refine PIoL_sj ?_ (by assumption) (fun _ _ => ?_)) | (refine PIoL_sr ?_ (fun _ _ => ?_)) | (refine PIoL_cy ?_ (by first | exact Or.inl ⟨_, by assumption⟩ | (refine Or.inr ⟨_, ?_, rfl⟩; assumption)) (fun _ _ => ?_)) | (refine PIoL_be (fun _ _ => ?_)) | (refine PIoL_na ?_ (fun _ _ => ?_)) | (refine PIoL_no ?_ (fun _ _ => ?_)) | (refine PIoL_ite ?_ ?_) | (refine PIoL_some ?_) | (exact PIoL_none) | (refine PIoL_cv (cQoL.c8 hc _ _ ?_) (fun _ _ => ?_)) | (refine pioL_oj_X9_of_20 hc  ?_)))
theorem pioL_oj_X0_fit_146  {x0 : Option Nat} {x4 : Option Nat} {x5 : Option Nat} {x6 : Option Nat} {σ : oSt} (hc : cQoL va fv call)  (h : lgP va fv σ) : PIo (lgP va fv) (oj_X0_fit_146 n call κ  x0 x4 x5 x6 σ) := by
  unfold oj_X0_fit_146
  repeat' (with_reducible (first | assumption | (refine PIoL_gd ?_) | (refine PIoL_pf ?_ (by decide) (fun _ _ => ?_)) | (refine PIoL_si ?_ (fun _ _ => ?_)) | (refine PIoL_sj ?_ (by assumption) (fun _ _ => ?_)) | (refine PIoL_sr ?_ (fun _ _ => ?_)) | (refine PIoL_cy ?_ (by first | exact Or.inl ⟨_, by assumption⟩ | (refine Or.inr ⟨_, ?_, rfl⟩; assumption)) (fun _ _ => ?_)) | (refine PIoL_be (fun _ _ => ?_)) | (refine PIoL_na ?_ (fun _ _ => ?_)) | (refine PIoL_no ?_ (fun _ _ => ?_)) | (refine PIoL_ite ?_ ?_) | (refine PIoL_some ?_) | (exact PIoL_none) | (refine PIoL_in (cQoL.c227 hc _ _ _ ?_) (fun _ _ _ => ?_))))
theorem pioL_oj_X0_fit_122 {k12 : Option Nat → Option Nat → Option Nat → Option Nat → Int32 → oSt → oRs} {x0 : Option Nat} {x4 : Option Nat} {x5 : Option Nat} {x6 : Option Nat} {x7 : Int32} {x9 : Option Nat} {σ : oSt} (hc : cQoL va fv call) (hk12 : ∀ (a0 : Option Nat) (a1 : Option Nat) (a2 : Option Nat) (a3 : Option Nat) (a4 : Int32), ∀ σ, lgP va fv σ → PIo (lgP va fv) (k12 a0 a1 a2 a3 a4 σ)) (h : lgP va fv σ) : PIo (lgP va fv) (oj_X0_fit_122 n call κ k12 x0 x4 x5 x6 x7 x9 σ) := by
  unfold oj_X0_fit_122
  repeat' (with_reducible (first | assumption | (refine PIoL_gd ?_) | (refine PIoL_pf ?_ (by decide) (fun _ _ => ?_)) | (refine PIoL_si ?_ (fun _ _ => ?_)) | (refine PIoL_sj ?_ (by assumption) (fun _ _ => ?_)) | (refine PIoL_sr ?_ (fun _ _ => ?_)) | (refine PIoL_cy ?_ (by first | exact Or.inl ⟨_, by assumption⟩ | (refine Or.inr ⟨_, ?_, rfl⟩; assumption)) (fun _ _ => ?_)) | (refine PIoL_be (fun _ _ => ?_)) | (refine PIoL_na ?_ (fun _ _ => ?_)) | (refine PIoL_no ?_ (fun _ _ => ?_)) | (refine PIoL_ite ?_ ?_) | (refine PIoL_some ?_) | (exact PIoL_none) | (refine PIoL_rn (cQoL.c4 hc _ _ _ ?_) (fun _ _ _ => ?_)) | (refine hk12 _ _ _ _ _ _ ?_)))
theorem pioL_ol_X0_fit_12  (hc : cQoL va fv call)  : ∀ (t : Nat) (x0 : Option Nat) (x1 : Option Nat) (x2 : Option Nat) (x3 : Option Nat) (x4 : Int32) (σ : oSt), lgP va fv σ → PIo (lgP va fv) (ol_X0_fit_12 n call κ  t x0 x1 x2 x3 x4 σ) := by
  intro t
  induction t with
  | zero => intros; exact PIoL_none
  | succ t ih =>
    intro x0 x1 x2 x3 x4 σ h
    rw [ol_X0_fit_12]
    repeat' (with_reducible (first | assumption | (refine PIoL_gd ?_) | (refine PIoL_pf ?_ (by decide) (fun _ _ => ?_)) | (refine PIoL_si ?_ (fun _ _ => ?_)) | (refine PIoL_sj ?_ (by assumption) (fun _ _ => ?_)) | (refine PIoL_sr ?_ (fun _ _ => ?_)) | (refine PIoL_cy ?_ (by first | exact Or.inl ⟨_, by assumption⟩ | (refine Or.inr ⟨_, ?_, rfl⟩; assumption)) (fun _ _ => ?_)) | (refine PIoL_be (fun _ _ => ?_)) | (refine PIoL_na ?_ (fun _ _ => ?_)) | (refine PIoL_no ?_ (fun _ _ => ?_)) | (refine PIoL_ite ?_ ?_) | (refine PIoL_some ?_) | (exact PIoL_none) | (refine PIoL_cv (cQoL.c2 hc _ _ _ _ ?_) (fun _ _ => ?_)) | (refine PIoL_cv (cQoL.c7 hc _ _ _ _ ?_) (fun _ _ => ?_)) | (refine PIoL_cv (cQoL.c12 hc _ _ _ _ _ ?_) (fun _ _ => ?_)) | (refine PIoL_in (cQoL.c6 hc _ _ ?_) (fun _ _ _ => ?_)) | (refine PIoL_rn (cQoL.c5 hc _ _ ?_) (fun _ _ _ => ?_)) | (refine PIoL_rn (cQoL.c11 hc _ _ _ _ ?_) (fun _ _ _ => ?_)) | (refine pioL_oj_X0_fit_146 hc  ?_) | (refine pioL_oj_X0_fit_122 hc ih ?_)))
theorem pioL_ob_X0_fit  {x0 : Option Nat} {x1 : Option Nat} {x2 : Option Nat} {x3 : Option Nat} {σ : oSt} (hc : cQoL va fv call)  (h : lgP va fv σ) : PIo (lgP va fv) (ob_X0_fit n call κ  x0 x1 x2 x3 σ) := by
  unfold ob_X0_fit
  repeat' (with_reducible (first | assumption | (refine PIoL_gd ?_) | (refine PIoL_pf ?_ (by decide) (fun _ _ => ?_)) | (refine PIoL_si ?_ (fun _ _ => ?_)) | (refine PIoL_sj ?_ (by assumption) (fun _ _ => ?_)) | (refine PIoL_sr ?_ (fun _ _ => ?_)) | (refine PIoL_cy ?_ (by first | exact Or.inl ⟨_, by assumption⟩ | (refine Or.inr ⟨_, ?_, rfl⟩; assumption)) (fun _ _ => ?_)) | (refine PIoL_be (fun _ _ => ?_)) | (refine PIoL_na ?_ (fun _ _ => ?_)) | (refine PIoL_no ?_ (fun _ _ => ?_)) | (refine PIoL_ite ?_ ?_) | (refine PIoL_some ?_) | (exact PIoL_none) | (refine pioL_ol_X0_fit_12 hc  _ _ _ _ _ _ _ ?_)))
theorem pioL_ob_X8_init_  {x0 : Option Nat} {x1 : Option Nat} {x2 : Int32} {x3 : Option Nat} {σ : oSt} (hc : cQoL va fv call)  (h : lgP va fv σ) : PIo (lgP va fv) (ob_X8_init_ n call κ  x0 x1 x2 x3 σ) := by
  unfold ob_X8_init_
  repeat' (with_reducible (first | assumption | (refine PIoL_gd ?_) | (refine PIoL_pf ?_ (by decide) (fun _ _ => ?_)) | (refine PIoL_si ?_ (fun _ _ => ?_)) | (refine PIoL_sj ?_ (by assumption) (fun _ _ => ?_)) | (refine PIoL_sr ?_ (fun _ _ => ?_)) | (refine PIoL_cy ?_ (by first | exact Or.inl ⟨_, by assumption⟩ | (refine Or.inr ⟨_, ?_, rfl⟩; assumption)) (fun _ _ => ?_)) | (refine PIoL_be (fun _ _ => ?_)) | (refine PIoL_na ?_ (fun _ _ => ?_)) | (refine PIoL_no ?_ (fun _ _ => ?_)) | (refine PIoL_ite ?_ ?_) | (refine PIoL_some ?_) | (exact PIoL_none)))
theorem pioL_oj_X9_isTerm_28   {σ : oSt} (hc : cQoL va fv call)  (h : lgP va fv σ) : PIo (lgP va fv) (oj_X9_isTerm_28 n call κ   σ) := by
  unfold oj_X9_isTerm_28
  repeat' (with_reducible (first | assumption | (refine PIoL_gd ?_) | (refine PIoL_pf ?_ (by decide) (fun _ _ => ?_)) | (refine PIoL_si ?_ (fun _ _ => ?_)) | (refine PIoL_sj ?_ (by assumption) (fun _ _ => ?_)) | (refine PIoL_sr ?_ (fun _ _ => ?_)) | (refine PIoL_cy ?_ (by first | exact Or.inl ⟨_, by assumption⟩ | (refine Or.inr ⟨_, ?_, rfl⟩; assumption)) (fun _ _ => ?_)) | (refine PIoL_be (fun _ _ => ?_)) | (refine PIoL_na ?_ (fun _ _ => ?_)) | (refine PIoL_no ?_ (fun _ _ => ?_)) | (refine PIoL_ite ?_ ?_) | (refine PIoL_some ?_) | (exact PIoL_none)))
theorem pioL_ob_X9_isTerm  {x0 : Option Nat} {σ : oSt} (hc : cQoL va fv call)  (h : lgP va fv σ) : PIo (lgP va fv) (ob_X9_isTerm n call κ  x0 σ) := by
  unfold ob_X9_isTerm
  repeat' (with_reducible (first | assumption | (refine PIoL_gd ?_) | (refine PIoL_pf ?_ (by decide) (fun _ _ => ?_)) | (refine PIoL_si ?_ (fun _ _ => ?_)) | (refine PIoL_sj ?_ (by assumption) (fun _ _ => ?_)) | (refine PIoL_sr ?_ (fun _ _ => ?_)) | (refine PIoL_cy ?_ (by first | exact Or.inl ⟨_, by assumption⟩ | (refine Or.inr ⟨_, ?_, rfl⟩; assumption)) (fun _ _ => ?_)) | (refine PIoL_be (fun _ _ => ?_)) | (refine PIoL_na ?_ (fun _ _ => ?_)) | (refine PIoL_no ?_ (fun _ _ => ?_)) | (refine PIoL_ite ?_ ?_) | (refine PIoL_some ?_) | (exact PIoL_none) | (refine pioL_oj_X9_isTerm_28 hc  ?_)))
theorem pioL_ob_X2_makeRoom  {x0 : Option Nat} {x1 : Int32} {σ : oSt} (hc : cQoL va fv call)  (h : lgP va fv σ) : PIo (lgP va fv) (ob_X2_makeRoom n call κ  x0 x1 σ) := by
  unfold ob_X2_makeRoom
  repeat' (with_reducible (first | assumption | (refine PIoL_gd ?_) | (refine PIoL_pf ?_ (by decide) (fun _ _ => ?_)) | (refine PIoL_si ?_ (fun _ _ => ?_)) | (refine PIoL_sj ?_ (by assumption) (fun _ _ => ?_)) | (refine PIoL_sr ?_ (fun _ _ => ?_)) | (refine PIoL_cy ?_ (by first | exact Or.inl ⟨_, by assumption⟩ | (refine Or.inr ⟨_, ?_, rfl⟩; assumption)) (fun _ _ => ?_)) | (refine PIoL_be (fun _ _ => ?_)) | (refine PIoL_na ?_ (fun _ _ => ?_)) | (refine PIoL_no ?_ (fun _ _ => ?_)) | (refine PIoL_ite ?_ ?_) | (refine PIoL_some ?_) | (exact PIoL_none)))
theorem pioL_ob_X2_say  {x0 : Option Nat} {x1 : Int32} {x2 : Option Nat} {σ : oSt} (hc : cQoL va fv call)  (h : lgP va fv σ) : PIo (lgP va fv) (ob_X2_say n call κ  x0 x1 x2 σ) := by
  unfold ob_X2_say
  repeat' (with_reducible (first | assumption | (refine PIoL_gd ?_) | (refine PIoL_pf ?_ (by decide) (fun _ _ => ?_)) | (refine PIoL_si ?_ (fun _ _ => ?_)) | (refine PIoL_sj ?_ (by assumption) (fun _ _ => ?_)) | (refine PIoL_sr ?_ (fun _ _ => ?_)) | (refine PIoL_cy ?_ (by first | exact Or.inl ⟨_, by assumption⟩ | (refine Or.inr ⟨_, ?_, rfl⟩; assumption)) (fun _ _ => ?_)) | (refine PIoL_be (fun _ _ => ?_)) | (refine PIoL_na ?_ (fun _ _ => ?_)) | (refine PIoL_no ?_ (fun _ _ => ?_)) | (refine PIoL_ite ?_ ?_) | (refine PIoL_some ?_) | (exact PIoL_none)))
theorem pioL_ob_X2_of  {x0 : Int32} {x1 : Option Nat} {σ : oSt} (hc : cQoL va fv call)  (h : lgP va fv σ) : PIo (lgP va fv) (ob_X2_of n call κ  x0 x1 σ) := by
  unfold ob_X2_of
  repeat' (with_reducible (first | assumption | (refine PIoL_gd ?_) | (refine PIoL_pf ?_ (by decide) (fun _ _ => ?_)) | (refine PIoL_si ?_ (fun _ _ => ?_)) | (refine PIoL_sj ?_ (by assumption) (fun _ _ => ?_)) | (refine PIoL_sr ?_ (fun _ _ => ?_)) | (refine PIoL_cy ?_ (by first | exact Or.inl ⟨_, by assumption⟩ | (refine Or.inr ⟨_, ?_, rfl⟩; assumption)) (fun _ _ => ?_)) | (refine PIoL_be (fun _ _ => ?_)) | (refine PIoL_na ?_ (fun _ _ => ?_)) | (refine PIoL_no ?_ (fun _ _ => ?_)) | (refine PIoL_ite ?_ ?_) | (refine PIoL_some ?_) | (exact PIoL_none) | (refine PIoL_cv (cQoL.c1 hc _ _ _ ?_) (fun _ _ => ?_)) | (refine PIoL_cv (cQoL.c15 hc _ _ _ ?_) (fun _ _ => ?_)) | (refine PIoL_cv (cQoL.c16 hc _ _ _ _ ?_) (fun _ _ => ?_)) | (refine PIoL_in (cQoL.c14 hc _ _ ?_) (fun _ _ _ => ?_))))
theorem pioL_oj_X0_product_19  {x0 : Option Nat} {x1 : Option Nat} {t0 : Int32} {σ : oSt} (hc : cQoL va fv call)  (h : lgP va fv σ) : PIo (lgP va fv) (oj_X0_product_19 n call κ  x0 x1 t0 σ) := by
  unfold oj_X0_product_19
  repeat' (with_reducible (first | assumption | (refine PIoL_gd ?_) | (refine PIoL_pf ?_ (by decide) (fun _ _ => ?_)) | (refine PIoL_si ?_ (fun _ _ => ?_)) | (refine PIoL_sj ?_ (by assumption) (fun _ _ => ?_)) | (refine PIoL_sr ?_ (fun _ _ => ?_)) | (refine PIoL_cy ?_ (by first | exact Or.inl ⟨_, by assumption⟩ | (refine Or.inr ⟨_, ?_, rfl⟩; assumption)) (fun _ _ => ?_)) | (refine PIoL_be (fun _ _ => ?_)) | (refine PIoL_na ?_ (fun _ _ => ?_)) | (refine PIoL_no ?_ (fun _ _ => ?_)) | (refine PIoL_ite ?_ ?_) | (refine PIoL_some ?_) | (exact PIoL_none) | (refine PIoL_rn (cQoL.c11 hc _ _ _ _ ?_) (fun _ _ _ => ?_)) | (refine PIoL_rn (cQoL.c17 hc _ _ _ ?_) (fun _ _ _ => ?_))))
theorem pioL_oj_X0_product_18  {x0 : Option Nat} {x1 : Option Nat} {σ : oSt} (hc : cQoL va fv call)  (h : lgP va fv σ) : PIo (lgP va fv) (oj_X0_product_18 n call κ  x0 x1 σ) := by
  unfold oj_X0_product_18
  repeat' (with_reducible (first | assumption | (refine PIoL_gd ?_) | (refine PIoL_pf ?_ (by decide) (fun _ _ => ?_)) | (refine PIoL_si ?_ (fun _ _ => ?_)) | (refine PIoL_sj ?_ (by assumption) (fun _ _ => ?_)) | (refine PIoL_sr ?_ (fun _ _ => ?_)) | (refine PIoL_cy ?_ (by first | exact Or.inl ⟨_, by assumption⟩ | (refine Or.inr ⟨_, ?_, rfl⟩; assumption)) (fun _ _ => ?_)) | (refine PIoL_be (fun _ _ => ?_)) | (refine PIoL_na ?_ (fun _ _ => ?_)) | (refine PIoL_no ?_ (fun _ _ => ?_)) | (refine PIoL_ite ?_ ?_) | (refine PIoL_some ?_) | (exact PIoL_none) | (refine pioL_oj_X0_product_19 hc  ?_)))
theorem pioL_ob_X0_product  {x0 : Option Nat} {x1 : Option Nat} {σ : oSt} (hc : cQoL va fv call)  (h : lgP va fv σ) : PIo (lgP va fv) (ob_X0_product n call κ  x0 x1 σ) := by
  unfold ob_X0_product
  repeat' (with_reducible (first | assumption | (refine PIoL_gd ?_) | (refine PIoL_pf ?_ (by decide) (fun _ _ => ?_)) | (refine PIoL_si ?_ (fun _ _ => ?_)) | (refine PIoL_sj ?_ (by assumption) (fun _ _ => ?_)) | (refine PIoL_sr ?_ (fun _ _ => ?_)) | (refine PIoL_cy ?_ (by first | exact Or.inl ⟨_, by assumption⟩ | (refine Or.inr ⟨_, ?_, rfl⟩; assumption)) (fun _ _ => ?_)) | (refine PIoL_be (fun _ _ => ?_)) | (refine PIoL_na ?_ (fun _ _ => ?_)) | (refine PIoL_no ?_ (fun _ _ => ?_)) | (refine PIoL_ite ?_ ?_) | (refine PIoL_some ?_) | (exact PIoL_none) | (refine pioL_oj_X0_product_19 hc  ?_) | (refine pioL_oj_X0_product_18 hc  ?_)))
theorem pioL_ob_X0_remainder  {x0 : Option Nat} {σ : oSt} (hc : cQoL va fv call)  (h : lgP va fv σ) : PIo (lgP va fv) (ob_X0_remainder n call κ  x0 σ) := by
  unfold ob_X0_remainder
  repeat' (with_reducible (first | assumption | (refine PIoL_gd ?_) | (refine PIoL_pf ?_ (by decide) (fun _ _ => ?_)) | (refine PIoL_si ?_ (fun _ _ => ?_)) | (refine PIoL_sj ?_ (by assumption) (fun _ _ => ?_)) | (refine PIoL_sr ?_ (fun _ _ => ?_)) | (refine PIoL_cy ?_ (by first | exact Or.inl ⟨_, by assumption⟩ | (refine Or.inr ⟨_, ?_, rfl⟩; assumption)) (fun _ _ => ?_)) | (refine PIoL_be (fun _ _ => ?_)) | (refine PIoL_na ?_ (fun _ _ => ?_)) | (refine PIoL_no ?_ (fun _ _ => ?_)) | (refine PIoL_ite ?_ ?_) | (refine PIoL_some ?_) | (exact PIoL_none) | (refine PIoL_cv (cQoL.c1 hc _ _ _ ?_) (fun _ _ => ?_)) | (refine PIoL_cv (cQoL.c8 hc _ _ ?_) (fun _ _ => ?_)) | (refine PIoL_cv (cQoL.c15 hc _ _ _ ?_) (fun _ _ => ?_)) | (refine PIoL_cv (cQoL.c16 hc _ _ _ _ ?_) (fun _ _ => ?_))))
theorem pioL_ob_X0_plain  {x0 : Option Nat} {σ : oSt} (hc : cQoL va fv call)  (h : lgP va fv σ) : PIo (lgP va fv) (ob_X0_plain n call κ  x0 σ) := by
  unfold ob_X0_plain
  repeat' (with_reducible (first | assumption | (refine PIoL_gd ?_) | (refine PIoL_pf ?_ (by decide) (fun _ _ => ?_)) | (refine PIoL_si ?_ (fun _ _ => ?_)) | (refine PIoL_sj ?_ (by assumption) (fun _ _ => ?_)) | (refine PIoL_sr ?_ (fun _ _ => ?_)) | (refine PIoL_cy ?_ (by first | exact Or.inl ⟨_, by assumption⟩ | (refine Or.inr ⟨_, ?_, rfl⟩; assumption)) (fun _ _ => ?_)) | (refine PIoL_be (fun _ _ => ?_)) | (refine PIoL_na ?_ (fun _ _ => ?_)) | (refine PIoL_no ?_ (fun _ _ => ?_)) | (refine PIoL_ite ?_ ?_) | (refine PIoL_some ?_) | (exact PIoL_none) | (refine PIoL_cv (cQoL.c1 hc _ _ _ ?_) (fun _ _ => ?_)) | (refine PIoL_cv (cQoL.c8 hc _ _ ?_) (fun _ _ => ?_)) | (refine PIoL_in (cQoL.c6 hc _ _ ?_) (fun _ _ _ => ?_)) | (refine PIoL_rn (cQoL.c11 hc _ _ _ _ ?_) (fun _ _ _ => ?_)) | (refine PIoL_rn (cQoL.c17 hc _ _ _ ?_) (fun _ _ _ => ?_)) | (refine PIoL_rn (cQoL.c18 hc _ _ _ ?_) (fun _ _ _ => ?_)) | (refine PIoL_rn (cQoL.c19 hc _ _ ?_) (fun _ _ _ => ?_))))
theorem pioL_ol_X10_root_4  (hc : cQoL va fv call)  : ∀ (t : Nat) (x0 : Option Nat) (x1 : Int32) (x2 : Int32) (σ : oSt), lgP va fv σ → PIo (lgP va fv) (ol_X10_root_4 n call κ  t x0 x1 x2 σ) := by
  intro t
  induction t with
  | zero => intros; exact PIoL_none
  | succ t ih =>
    intro x0 x1 x2 σ h
    rw [ol_X10_root_4]
    repeat' (with_reducible (first | assumption | (refine PIoL_gd ?_) | (refine PIoL_pf ?_ (by decide) (fun _ _ => ?_)) | (refine PIoL_si ?_ (fun _ _ => ?_)) | (refine PIoL_sj ?_ (by assumption) (fun _ _ => ?_)) | (refine PIoL_sr ?_ (fun _ _ => ?_)) | (refine PIoL_cy ?_ (by first | exact Or.inl ⟨_, by assumption⟩ | (refine Or.inr ⟨_, ?_, rfl⟩; assumption)) (fun _ _ => ?_)) | (refine PIoL_be (fun _ _ => ?_)) | (refine PIoL_na ?_ (fun _ _ => ?_)) | (refine PIoL_no ?_ (fun _ _ => ?_)) | (refine PIoL_ite ?_ ?_) | (refine PIoL_some ?_) | (exact PIoL_none) | (refine ih _ _ _ _ ?_)))
theorem pioL_ob_X10_root  {x0 : Option Nat} {x1 : Int32} {σ : oSt} (hc : cQoL va fv call)  (h : lgP va fv σ) : PIo (lgP va fv) (ob_X10_root n call κ  x0 x1 σ) := by
  unfold ob_X10_root
  repeat' (with_reducible (first | assumption | (refine PIoL_gd ?_) | (refine PIoL_pf ?_ (by decide) (fun _ _ => ?_)) | (refine PIoL_si ?_ (fun _ _ => ?_)) | (refine PIoL_sj ?_ (by assumption) (fun _ _ => ?_)) | (refine PIoL_sr ?_ (fun _ _ => ?_)) | (refine PIoL_cy ?_ (by first | exact Or.inl ⟨_, by assumption⟩ | (refine Or.inr ⟨_, ?_, rfl⟩; assumption)) (fun _ _ => ?_)) | (refine PIoL_be (fun _ _ => ?_)) | (refine PIoL_na ?_ (fun _ _ => ?_)) | (refine PIoL_no ?_ (fun _ _ => ?_)) | (refine PIoL_ite ?_ ?_) | (refine PIoL_some ?_) | (exact PIoL_none) | (refine pioL_ol_X10_root_4 hc  _ _ _ _ _ ?_)))
theorem pioL_ob_X10_kindOf  {x0 : Option Nat} {x1 : Int32} {σ : oSt} (hc : cQoL va fv call)  (h : lgP va fv σ) : PIo (lgP va fv) (ob_X10_kindOf n call κ  x0 x1 σ) := by
  unfold ob_X10_kindOf
  repeat' (with_reducible (first | assumption | (refine PIoL_gd ?_) | (refine PIoL_pf ?_ (by decide) (fun _ _ => ?_)) | (refine PIoL_si ?_ (fun _ _ => ?_)) | (refine PIoL_sj ?_ (by assumption) (fun _ _ => ?_)) | (refine PIoL_sr ?_ (fun _ _ => ?_)) | (refine PIoL_cy ?_ (by first | exact Or.inl ⟨_, by assumption⟩ | (refine Or.inr ⟨_, ?_, rfl⟩; assumption)) (fun _ _ => ?_)) | (refine PIoL_be (fun _ _ => ?_)) | (refine PIoL_na ?_ (fun _ _ => ?_)) | (refine PIoL_no ?_ (fun _ _ => ?_)) | (refine PIoL_ite ?_ ?_) | (refine PIoL_some ?_) | (exact PIoL_none) | (refine PIoL_in (cQoL.c21 hc _ _ _ ?_) (fun _ _ _ => ?_))))
theorem pioL_ob_X10_takenBy  {x0 : Option Nat} {x1 : Int32} {σ : oSt} (hc : cQoL va fv call)  (h : lgP va fv σ) : PIo (lgP va fv) (ob_X10_takenBy n call κ  x0 x1 σ) := by
  unfold ob_X10_takenBy
  repeat' (with_reducible (first | assumption | (refine PIoL_gd ?_) | (refine PIoL_pf ?_ (by decide) (fun _ _ => ?_)) | (refine PIoL_si ?_ (fun _ _ => ?_)) | (refine PIoL_sj ?_ (by assumption) (fun _ _ => ?_)) | (refine PIoL_sr ?_ (fun _ _ => ?_)) | (refine PIoL_cy ?_ (by first | exact Or.inl ⟨_, by assumption⟩ | (refine Or.inr ⟨_, ?_, rfl⟩; assumption)) (fun _ _ => ?_)) | (refine PIoL_be (fun _ _ => ?_)) | (refine PIoL_na ?_ (fun _ _ => ?_)) | (refine PIoL_no ?_ (fun _ _ => ?_)) | (refine PIoL_ite ?_ ?_) | (refine PIoL_some ?_) | (exact PIoL_none) | (refine PIoL_in (cQoL.c21 hc _ _ _ ?_) (fun _ _ _ => ?_))))
theorem pioL_ob_X10_answeredBy  {x0 : Option Nat} {x1 : Int32} {σ : oSt} (hc : cQoL va fv call)  (h : lgP va fv σ) : PIo (lgP va fv) (ob_X10_answeredBy n call κ  x0 x1 σ) := by
  unfold ob_X10_answeredBy
  repeat' (with_reducible (first | assumption | (refine PIoL_gd ?_) | (refine PIoL_pf ?_ (by decide) (fun _ _ => ?_)) | (refine PIoL_si ?_ (fun _ _ => ?_)) | (refine PIoL_sj ?_ (by assumption) (fun _ _ => ?_)) | (refine PIoL_sr ?_ (fun _ _ => ?_)) | (refine PIoL_cy ?_ (by first | exact Or.inl ⟨_, by assumption⟩ | (refine Or.inr ⟨_, ?_, rfl⟩; assumption)) (fun _ _ => ?_)) | (refine PIoL_be (fun _ _ => ?_)) | (refine PIoL_na ?_ (fun _ _ => ?_)) | (refine PIoL_no ?_ (fun _ _ => ?_)) | (refine PIoL_ite ?_ ?_) | (refine PIoL_some ?_) | (exact PIoL_none) | (refine PIoL_in (cQoL.c21 hc _ _ _ ?_) (fun _ _ _ => ?_))))
theorem pioL_oj_X0_instance_54  {x1 : Option Nat} {x2 : Int32} {σ : oSt} (hc : cQoL va fv call)  (h : lgP va fv σ) : PIo (lgP va fv) (oj_X0_instance_54 n call κ  x1 x2 σ) := by
  unfold oj_X0_instance_54
  repeat' (with_reducible (first | assumption | (refine PIoL_gd ?_) | (refine PIoL_pf ?_ (by decide) (fun _ _ => ?_)) | (refine PIoL_si ?_ (fun _ _ => ?_)) | (refine PIoL_sj ?_ (by assumption) (fun _ _ => ?_)) | (refine PIoL_sr ?_ (fun _ _ => ?_)) | (refine PIoL_cy ?_ (by first | exact Or.inl ⟨_, by assumption⟩ | (refine Or.inr ⟨_, ?_, rfl⟩; assumption)) (fun _ _ => ?_)) | (refine PIoL_be (fun _ _ => ?_)) | (refine PIoL_na ?_ (fun _ _ => ?_)) | (refine PIoL_no ?_ (fun _ _ => ?_)) | (refine PIoL_ite ?_ ?_) | (refine PIoL_some ?_) | (exact PIoL_none)))
theorem pioL_oj_X0_instance_16  {x0 : Option Nat} {x1 : Option Nat} {x2 : Int32} {σ : oSt} (hc : cQoL va fv call)  (h : lgP va fv σ) : PIo (lgP va fv) (oj_X0_instance_16 n call κ  x0 x1 x2 σ) := by
  unfold oj_X0_instance_16
  repeat' (with_reducible (first | assumption | (refine PIoL_gd ?_) | (refine PIoL_pf ?_ (by decide) (fun _ _ => ?_)) | (refine PIoL_si ?_ (fun _ _ => ?_)) | (refine PIoL_sj ?_ (by assumption) (fun _ _ => ?_)) | (refine PIoL_sr ?_ (fun _ _ => ?_)) | (refine PIoL_cy ?_ (by first | exact Or.inl ⟨_, by assumption⟩ | (refine Or.inr ⟨_, ?_, rfl⟩; assumption)) (fun _ _ => ?_)) | (refine PIoL_be (fun _ _ => ?_)) | (refine PIoL_na ?_ (fun _ _ => ?_)) | (refine PIoL_no ?_ (fun _ _ => ?_)) | (refine PIoL_ite ?_ ?_) | (refine PIoL_some ?_) | (exact PIoL_none) | (refine PIoL_rn (cQoL.c11 hc _ _ _ _ ?_) (fun _ _ _ => ?_)) | (refine pioL_oj_X0_instance_54 hc  ?_)))
theorem pioL_ob_X0_instance  {x0 : Option Nat} {x1 : Option Nat} {x2 : Int32} {σ : oSt} (hc : cQoL va fv call)  (h : lgP va fv σ) : PIo (lgP va fv) (ob_X0_instance n call κ  x0 x1 x2 σ) := by
  unfold ob_X0_instance
  repeat' (with_reducible (first | assumption | (refine PIoL_gd ?_) | (refine PIoL_pf ?_ (by decide) (fun _ _ => ?_)) | (refine PIoL_si ?_ (fun _ _ => ?_)) | (refine PIoL_sj ?_ (by assumption) (fun _ _ => ?_)) | (refine PIoL_sr ?_ (fun _ _ => ?_)) | (refine PIoL_cy ?_ (by first | exact Or.inl ⟨_, by assumption⟩ | (refine Or.inr ⟨_, ?_, rfl⟩; assumption)) (fun _ _ => ?_)) | (refine PIoL_be (fun _ _ => ?_)) | (refine PIoL_na ?_ (fun _ _ => ?_)) | (refine PIoL_no ?_ (fun _ _ => ?_)) | (refine PIoL_ite ?_ ?_) | (refine PIoL_some ?_) | (exact PIoL_none) | (refine pioL_oj_X0_instance_16 hc  ?_)))
theorem pioL_oj_X0_sayInstances_200 {k71 : Option Nat → Option Nat → Int32 → oSt → oRs} {x0 : Option Nat} {x1 : Option Nat} {x3 : Int32} {σ : oSt} (hc : cQoL va fv call) (hk71 : ∀ (a0 : Option Nat) (a1 : Option Nat) (a2 : Int32), ∀ σ, lgP va fv σ → PIo (lgP va fv) (k71 a0 a1 a2 σ)) (h : lgP va fv σ) : PIo (lgP va fv) (oj_X0_sayInstances_200 n call κ k71 x0 x1 x3 σ) := by
  unfold oj_X0_sayInstances_200
  repeat' (with_reducible (first | assumption | (refine PIoL_gd ?_) | (refine PIoL_pf ?_ (by decide) (fun _ _ => ?_)) | (refine PIoL_si ?_ (fun _ _ => ?_)) | (refine PIoL_sj ?_ (by assumption) (fun _ _ => ?_)) | (refine PIoL_sr ?_ (fun _ _ => ?_)) | (refine PIoL_cy ?_ (by first | exact Or.inl ⟨_, by assumption⟩ | (refine Or.inr ⟨_, ?_, rfl⟩; assumption)) (fun _ _ => ?_)) | (refine PIoL_be (fun _ _ => ?_)) | (refine PIoL_na ?_ (fun _ _ => ?_)) | (refine PIoL_no ?_ (fun _ _ => ?_)) | (refine PIoL_ite ?_ ?_) | (refine PIoL_some ?_) | (exact PIoL_none) | (refine hk71 _ _ _ _ ?_)))
theorem pioL_ol_X0_sayInstances_160 {k71 : Option Nat → Option Nat → Int32 → oSt → oRs} (hc : cQoL va fv call) (hk71 : ∀ (a0 : Option Nat) (a1 : Option Nat) (a2 : Int32), ∀ σ, lgP va fv σ → PIo (lgP va fv) (k71 a0 a1 a2 σ)) : ∀ (t : Nat) (x0 : Option Nat) (x1 : Option Nat) (x2 : Int32) (x3 : Int32) (σ : oSt), lgP va fv σ → PIo (lgP va fv) (ol_X0_sayInstances_160 n call κ k71 t x0 x1 x2 x3 σ) := by
  intro t
  induction t with
  | zero => intros; exact PIoL_none
  | succ t ih =>
    intro x0 x1 x2 x3 σ h
    rw [ol_X0_sayInstances_160]
    repeat' (with_reducible (first | assumption | (refine PIoL_gd ?_) | (refine PIoL_pf ?_ (by decide) (fun _ _ => ?_)) | (refine PIoL_si ?_ (fun _ _ => ?_)) | (refine PIoL_sj ?_ (by assumption) (fun _ _ => ?_)) | (refine PIoL_sr ?_ (fun _ _ => ?_)) | (refine PIoL_cy ?_ (by first | exact Or.inl ⟨_, by assumption⟩ | (refine Or.inr ⟨_, ?_, rfl⟩; assumption)) (fun _ _ => ?_)) | (refine PIoL_be (fun _ _ => ?_)) | (refine PIoL_na ?_ (fun _ _ => ?_)) | (refine PIoL_no ?_ (fun _ _ => ?_)) | (refine PIoL_ite ?_ ?_) | (refine PIoL_some ?_) | (exact PIoL_none) | (refine PIoL_cv (cQoL.c16 hc _ _ _ _ ?_) (fun _ _ => ?_)) | (refine PIoL_rn (cQoL.c25 hc _ _ _ _ ?_) (fun _ _ _ => ?_)) | (refine pioL_oj_X0_sayInstances_200 hc hk71 ?_) | (refine ih _ _ _ _ _ ?_) | (refine hk71 _ _ _ _ ?_)))
theorem pioL_oj_X0_sayInstances_141 {k71 : Option Nat → Option Nat → Int32 → oSt → oRs} {x0 : Option Nat} {x1 : Option Nat} {x3 : Int32} {σ : oSt} (hc : cQoL va fv call) (hk71 : ∀ (a0 : Option Nat) (a1 : Option Nat) (a2 : Int32), ∀ σ, lgP va fv σ → PIo (lgP va fv) (k71 a0 a1 a2 σ)) (h : lgP va fv σ) : PIo (lgP va fv) (oj_X0_sayInstances_141 n call κ k71 x0 x1 x3 σ) := by
  unfold oj_X0_sayInstances_141
  repeat' (with_reducible (first | assumption | (refine PIoL_gd ?_) | (refine PIoL_pf ?_ (by decide) (fun _ _ => ?_)) | (refine PIoL_si ?_ (fun _ _ => ?_)) | (refine PIoL_sj ?_ (by assumption) (fun _ _ => ?_)) | (refine PIoL_sr ?_ (fun _ _ => ?_)) | (refine PIoL_cy ?_ (by first | exact Or.inl ⟨_, by assumption⟩ | (refine Or.inr ⟨_, ?_, rfl⟩; assumption)) (fun _ _ => ?_)) | (refine PIoL_be (fun _ _ => ?_)) | (refine PIoL_na ?_ (fun _ _ => ?_)) | (refine PIoL_no ?_ (fun _ _ => ?_)) | (refine PIoL_ite ?_ ?_) | (refine PIoL_some ?_) | (exact PIoL_none) | (refine pioL_ol_X0_sayInstances_160 hc hk71 _ _ _ _ _ _ ?_) | (refine pioL_oj_X0_sayInstances_200 hc hk71 ?_) | (refine hk71 _ _ _ _ ?_)))
theorem pioL_ol_X0_sayInstances_71  (hc : cQoL va fv call)  : ∀ (t : Nat) (x0 : Option Nat) (x1 : Option Nat) (x2 : Int32) (σ : oSt), lgP va fv σ → PIo (lgP va fv) (ol_X0_sayInstances_71 n call κ  t x0 x1 x2 σ) := by
  intro t
  induction t with
  | zero => intros; exact PIoL_none
  | succ t ih =>
    intro x0 x1 x2 σ h
    rw [ol_X0_sayInstances_71]
    repeat' (with_reducible (first | assumption | (refine PIoL_gd ?_) | (refine PIoL_pf ?_ (by decide) (fun _ _ => ?_)) | (refine PIoL_si ?_ (fun _ _ => ?_)) | (refine PIoL_sj ?_ (by assumption) (fun _ _ => ?_)) | (refine PIoL_sr ?_ (fun _ _ => ?_)) | (refine PIoL_cy ?_ (by first | exact Or.inl ⟨_, by assumption⟩ | (refine Or.inr ⟨_, ?_, rfl⟩; assumption)) (fun _ _ => ?_)) | (refine PIoL_be (fun _ _ => ?_)) | (refine PIoL_na ?_ (fun _ _ => ?_)) | (refine PIoL_no ?_ (fun _ _ => ?_)) | (refine PIoL_ite ?_ ?_) | (refine PIoL_some ?_) | (exact PIoL_none) | (refine PIoL_cv (cQoL.c16 hc _ _ _ _ ?_) (fun _ _ => ?_)) | (refine PIoL_rn (cQoL.c11 hc _ _ _ _ ?_) (fun _ _ _ => ?_)) | (refine pioL_oj_X0_sayInstances_200 hc ih ?_) | (refine pioL_oj_X0_sayInstances_141 hc ih ?_)))
theorem pioL_oj_X0_sayInstances_56 {k4 : Option Nat → Option Nat → Int32 → Int32 → oSt → oRs} {x0 : Option Nat} {x1 : Option Nat} {x3 : Int32} {t0 : Int32} {t1 : Int32} {σ : oSt} (hc : cQoL va fv call) (hk4 : ∀ (a0 : Option Nat) (a1 : Option Nat) (a2 : Int32) (a3 : Int32), ∀ σ, lgP va fv σ → PIo (lgP va fv) (k4 a0 a1 a2 a3 σ)) (h : lgP va fv σ) : PIo (lgP va fv) (oj_X0_sayInstances_56 n call κ k4 x0 x1 x3 t0 t1 σ) := by
  unfold oj_X0_sayInstances_56
  repeat' (with_reducible (first | assumption | (refine PIoL_gd ?_) | (refine PIoL_pf ?_ (by decide) (fun _ _ => ?_)) | (refine PIoL_si ?_ (fun _ _ => ?_)) | (refine PIoL_sj ?_ (by assumption) (fun _ _ => ?_)) | (refine PIoL_sr ?_ (fun _ _ => ?_)) | (refine PIoL_cy ?_ (by first | exact Or.inl ⟨_, by assumption⟩ | (refine Or.inr ⟨_, ?_, rfl⟩; assumption)) (fun _ _ => ?_)) | (refine PIoL_be (fun _ _ => ?_)) | (refine PIoL_na ?_ (fun _ _ => ?_)) | (refine PIoL_no ?_ (fun _ _ => ?_)) | (refine PIoL_ite ?_ ?_) | (refine PIoL_some ?_) | (exact PIoL_none) | (refine hk4 _ _ _ _ _ ?_)))
theorem pioL_ol_X0_sayInstances_4  (hc : cQoL va fv call)  : ∀ (t : Nat) (x0 : Option Nat) (x1 : Option Nat) (x2 : Int32) (x3 : Int32) (σ : oSt), lgP va fv σ → PIo (lgP va fv) (ol_X0_sayInstances_4 n call κ  t x0 x1 x2 x3 σ) := by
  intro t
  induction t with
  | zero => intros; exact PIoL_none
  | succ t ih =>
    intro x0 x1 x2 x3 σ h
    rw [ol_X0_sayInstances_4]
    repeat' (with_reducible (first | assumption | (refine PIoL_gd ?_) | (refine PIoL_pf ?_ (by decide) (fun _ _ => ?_)) | (refine PIoL_si ?_ (fun _ _ => ?_)) | (refine PIoL_sj ?_ (by assumption) (fun _ _ => ?_)) | (refine PIoL_sr ?_ (fun _ _ => ?_)) | (refine PIoL_cy ?_ (by first | exact Or.inl ⟨_, by assumption⟩ | (refine Or.inr ⟨_, ?_, rfl⟩; assumption)) (fun _ _ => ?_)) | (refine PIoL_be (fun _ _ => ?_)) | (refine PIoL_na ?_ (fun _ _ => ?_)) | (refine PIoL_no ?_ (fun _ _ => ?_)) | (refine PIoL_ite ?_ ?_) | (refine PIoL_some ?_) | (exact PIoL_none) | (refine PIoL_cv (cQoL.c15 hc _ _ _ ?_) (fun _ _ => ?_)) | (refine pioL_ol_X0_sayInstances_71 hc  _ _ _ _ _ ?_) | (refine pioL_oj_X0_sayInstances_56 hc ih ?_)))
theorem pioL_ob_X0_sayInstances  {x0 : Option Nat} {x1 : Option Nat} {σ : oSt} (hc : cQoL va fv call)  (h : lgP va fv σ) : PIo (lgP va fv) (ob_X0_sayInstances n call κ  x0 x1 σ) := by
  unfold ob_X0_sayInstances
  repeat' (with_reducible (first | assumption | (refine PIoL_gd ?_) | (refine PIoL_pf ?_ (by decide) (fun _ _ => ?_)) | (refine PIoL_si ?_ (fun _ _ => ?_)) | (refine PIoL_sj ?_ (by assumption) (fun _ _ => ?_)) | (refine PIoL_sr ?_ (fun _ _ => ?_)) | (refine PIoL_cy ?_ (by first | exact Or.inl ⟨_, by assumption⟩ | (refine Or.inr ⟨_, ?_, rfl⟩; assumption)) (fun _ _ => ?_)) | (refine PIoL_be (fun _ _ => ?_)) | (refine PIoL_na ?_ (fun _ _ => ?_)) | (refine PIoL_no ?_ (fun _ _ => ?_)) | (refine PIoL_ite ?_ ?_) | (refine PIoL_some ?_) | (exact PIoL_none) | (refine pioL_ol_X0_sayInstances_4 hc  _ _ _ _ _ _ ?_)))
theorem pioL_oj_X0_shape_205  {x0 : Option Nat} {x4 : Option Nat} {σ : oSt} (hc : cQoL va fv call)  (h : lgP va fv σ) : PIo (lgP va fv) (oj_X0_shape_205 n call κ  x0 x4 σ) := by
  unfold oj_X0_shape_205
  repeat' (with_reducible (first | assumption | (refine PIoL_gd ?_) | (refine PIoL_pf ?_ (by decide) (fun _ _ => ?_)) | (refine PIoL_si ?_ (fun _ _ => ?_)) | (refine PIoL_sj ?_ (by assumption) (fun _ _ => ?_)) | (refine PIoL_sr ?_ (fun _ _ => ?_)) | (refine PIoL_cy ?_ (by first | exact Or.inl ⟨_, by assumption⟩ | (refine Or.inr ⟨_, ?_, rfl⟩; assumption)) (fun _ _ => ?_)) | (refine PIoL_be (fun _ _ => ?_)) | (refine PIoL_na ?_ (fun _ _ => ?_)) | (refine PIoL_no ?_ (fun _ _ => ?_)) | (refine PIoL_ite ?_ ?_) | (refine PIoL_some ?_) | (exact PIoL_none) | (refine PIoL_cv (cQoL.c26 hc _ _ _ ?_) (fun _ _ => ?_))))
theorem pioL_oj_X0_shape_175  {x0 : Option Nat} {x1 : Int32} {x2 : Option Nat} {x3 : Int32} {x4 : Option Nat} {x6 : Int32} {σ : oSt} (hc : cQoL va fv call)  (h : lgP va fv σ) : PIo (lgP va fv) (oj_X0_shape_175 n call κ  x0 x1 x2 x3 x4 x6 σ) := by
  unfold oj_X0_shape_175
  repeat' (with_reducible (first | assumption | (refine PIoL_gd ?_) | (refine PIoL_pf ?_ (by decide) (fun _ _ => ?_)) | (refine PIoL_si ?_ (fun _ _ => ?_)) | (refine PIoL_sj ?_ (by assumption) (fun _ _ => ?_)) | (refine PIoL_sr ?_ (fun _ _ => ?_)) | (refine PIoL_cy ?_ (by first | exact Or.inl ⟨_, by assumption⟩ | (refine Or.inr ⟨_, ?_, rfl⟩; assumption)) (fun _ _ => ?_)) | (refine PIoL_be (fun _ _ => ?_)) | (refine PIoL_na ?_ (fun _ _ => ?_)) | (refine PIoL_no ?_ (fun _ _ => ?_)) | (refine PIoL_ite ?_ ?_) | (refine PIoL_some ?_) | (exact PIoL_none) | (refine PIoL_in (cQoL.c24 hc _ _ _ ?_) (fun _ _ _ => ?_)) | (refine PIoL_rn (cQoL.c27 hc _ _ _ _ _ ?_) (fun _ _ _ => ?_))))
theorem pioL_oj_X0_shape_106  {x0 : Option Nat} {x1 : Int32} {x2 : Option Nat} {x3 : Int32} {x4 : Option Nat} {t0 : Option Nat} {t1 : Option Nat} {σ : oSt} (hc : cQoL va fv call)  (h : lgP va fv σ) : PIo (lgP va fv) (oj_X0_shape_106 n call κ  x0 x1 x2 x3 x4 t0 t1 σ) := by
  unfold oj_X0_shape_106
  repeat' (with_reducible (first | assumption | (refine PIoL_gd ?_) | (refine PIoL_pf ?_ (by decide) (fun _ _ => ?_)) | (refine PIoL_si ?_ (fun _ _ => ?_)) | (refine PIoL_sj ?_ (by assumption) (fun _ _ => ?_)) | (refine PIoL_sr ?_ (fun _ _ => ?_)) | (refine PIoL_cy ?_ (by first | exact Or.inl ⟨_, by assumption⟩ | (refine Or.inr ⟨_, ?_, rfl⟩; assumption)) (fun _ _ => ?_)) | (refine PIoL_be (fun _ _ => ?_)) | (refine PIoL_na ?_ (fun _ _ => ?_)) | (refine PIoL_no ?_ (fun _ _ => ?_)) | (refine PIoL_ite ?_ ?_) | (refine PIoL_some ?_) | (exact PIoL_none) | (refine PIoL_in (cQoL.c6 hc _ _ ?_) (fun _ _ _ => ?_)) | (refine pioL_oj_X0_shape_175 hc  ?_)))
theorem pioL_oj_X0_shape_51  {x0 : Option Nat} {x1 : Int32} {x2 : Option Nat} {x3 : Int32} {x4 : Option Nat} {t0 : Int32} {σ : oSt} (hc : cQoL va fv call)  (h : lgP va fv σ) : PIo (lgP va fv) (oj_X0_shape_51 n call κ  x0 x1 x2 x3 x4 t0 σ) := by
  unfold oj_X0_shape_51
  repeat' (with_reducible (first | assumption | (refine PIoL_gd ?_) | (refine PIoL_pf ?_ (by decide) (fun _ _ => ?_)) | (refine PIoL_si ?_ (fun _ _ => ?_)) | (refine PIoL_sj ?_ (by assumption) (fun _ _ => ?_)) | (refine PIoL_sr ?_ (fun _ _ => ?_)) | (refine PIoL_cy ?_ (by first | exact Or.inl ⟨_, by assumption⟩ | (refine Or.inr ⟨_, ?_, rfl⟩; assumption)) (fun _ _ => ?_)) | (refine PIoL_be (fun _ _ => ?_)) | (refine PIoL_na ?_ (fun _ _ => ?_)) | (refine PIoL_no ?_ (fun _ _ => ?_)) | (refine PIoL_ite ?_ ?_) | (refine PIoL_some ?_) | (exact PIoL_none) | (refine PIoL_cv (cQoL.c7 hc _ _ _ _ ?_) (fun _ _ => ?_)) | (refine PIoL_in (cQoL.c23 hc _ _ _ ?_) (fun _ _ _ => ?_)) | (refine PIoL_rn (cQoL.c27 hc _ _ _ _ _ ?_) (fun _ _ _ => ?_)) | (refine PIoL_rn (cQoL.c234 hc _ _ _ ?_) (fun _ _ _ => ?_)) | (refine pioL_oj_X0_shape_106 hc  ?_)))
theorem pioL_oj_X0_shape_50  {x0 : Option Nat} {x1 : Int32} {x2 : Option Nat} {x3 : Int32} {x4 : Option Nat} {σ : oSt} (hc : cQoL va fv call)  (h : lgP va fv σ) : PIo (lgP va fv) (oj_X0_shape_50 n call κ  x0 x1 x2 x3 x4 σ) := by
  unfold oj_X0_shape_50
  repeat' (with_reducible (first | assumption | (refine PIoL_gd ?_) | (refine PIoL_pf ?_ (by decide) (fun _ _ => ?_)) | (refine PIoL_si ?_ (fun _ _ => ?_)) | (refine PIoL_sj ?_ (by assumption) (fun _ _ => ?_)) | (refine PIoL_sr ?_ (fun _ _ => ?_)) | (refine PIoL_cy ?_ (by first | exact Or.inl ⟨_, by assumption⟩ | (refine Or.inr ⟨_, ?_, rfl⟩; assumption)) (fun _ _ => ?_)) | (refine PIoL_be (fun _ _ => ?_)) | (refine PIoL_na ?_ (fun _ _ => ?_)) | (refine PIoL_no ?_ (fun _ _ => ?_)) | (refine PIoL_ite ?_ ?_) | (refine PIoL_some ?_) | (exact PIoL_none) | (refine pioL_oj_X0_shape_51 hc  ?_)))
theorem pioL_ob_X0_shape  {x0 : Option Nat} {x1 : Int32} {x2 : Option Nat} {x3 : Int32} {σ : oSt} (hc : cQoL va fv call)  (h : lgP va fv σ) : PIo (lgP va fv) (ob_X0_shape n call κ  x0 x1 x2 x3 σ) := by
  unfold ob_X0_shape
  repeat' (with_reducible (first | assumption | (refine PIoL_gd ?_) | (refine PIoL_pf ?_ (by decide) (fun _ _ => ?_)) | (refine PIoL_si ?_ (fun _ _ => ?_)) | (refine PIoL_sj ?_ (by assumption) (fun _ _ => ?_)) | (refine PIoL_sr ?_ (fun _ _ => ?_)) | (refine PIoL_cy ?_ (by first | exact Or.inl ⟨_, by assumption⟩ | (refine Or.inr ⟨_, ?_, rfl⟩; assumption)) (fun _ _ => ?_)) | (refine PIoL_be (fun _ _ => ?_)) | (refine PIoL_na ?_ (fun _ _ => ?_)) | (refine PIoL_no ?_ (fun _ _ => ?_)) | (refine PIoL_ite ?_ ?_) | (refine PIoL_some ?_) | (exact PIoL_none) | (refine PIoL_cv (cQoL.c1 hc _ _ _ ?_) (fun _ _ => ?_)) | (refine PIoL_in (cQoL.c22 hc _ _ _ ?_) (fun _ _ _ => ?_)) | (refine PIoL_in (cQoL.c236 hc _ _ ?_) (fun _ _ _ => ?_)) | (refine pioL_oj_X0_shape_205 hc  ?_) | (refine pioL_oj_X0_shape_50 hc  ?_) | (refine pioL_oj_X0_shape_51 hc  ?_)))
theorem pioL_oj_X0_template_103 {k59 : Option Nat → Int32 → Option Nat → Int32 → Option Nat → oSt → oRs} {x0 : Option Nat} {x1 : Int32} {x2 : Option Nat} {x4 : Int32} {x5 : Option Nat} {σ : oSt} (hc : cQoL va fv call) (hk59 : ∀ (a0 : Option Nat) (a1 : Int32) (a2 : Option Nat) (a3 : Int32) (a4 : Option Nat), ∀ σ, lgP va fv σ → PIo (lgP va fv) (k59 a0 a1 a2 a3 a4 σ)) (h : lgP va fv σ) : PIo (lgP va fv) (oj_X0_template_103 n call κ k59 x0 x1 x2 x4 x5 σ) := by
  unfold oj_X0_template_103
  repeat' (with_reducible (first | assumption | (refine PIoL_gd ?_) | (refine PIoL_pf ?_ (by decide) (fun _ _ => ?_)) | (refine PIoL_si ?_ (fun _ _ => ?_)) | (refine PIoL_sj ?_ (by assumption) (fun _ _ => ?_)) | (refine PIoL_sr ?_ (fun _ _ => ?_)) | (refine PIoL_cy ?_ (by first | exact Or.inl ⟨_, by assumption⟩ | (refine Or.inr ⟨_, ?_, rfl⟩; assumption)) (fun _ _ => ?_)) | (refine PIoL_be (fun _ _ => ?_)) | (refine PIoL_na ?_ (fun _ _ => ?_)) | (refine PIoL_no ?_ (fun _ _ => ?_)) | (refine PIoL_ite ?_ ?_) | (refine PIoL_some ?_) | (exact PIoL_none) | (refine hk59 _ _ _ _ _ _ ?_)))
theorem pioL_ol_X0_template_59  (hc : cQoL va fv call)  : ∀ (t : Nat) (x0 : Option Nat) (x1 : Int32) (x2 : Option Nat) (x3 : Int32) (x4 : Option Nat) (σ : oSt), lgP va fv σ → PIo (lgP va fv) (ol_X0_template_59 n call κ  t x0 x1 x2 x3 x4 σ) := by
  intro t
  induction t with
  | zero => intros; exact PIoL_none
  | succ t ih =>
    intro x0 x1 x2 x3 x4 σ h
    rw [ol_X0_template_59]
    repeat' (with_reducible (first | assumption | (refine PIoL_gd ?_) | (refine PIoL_pf ?_ (by decide) (fun _ _ => ?_)) | (refine PIoL_si ?_ (fun _ _ => ?_)) | (refine PIoL_sj ?_ (by assumption) (fun _ _ => ?_)) | (refine PIoL_sr ?_ (fun _ _ => ?_)) | (refine PIoL_cy ?_ (by first | exact Or.inl ⟨_, by assumption⟩ | (refine Or.inr ⟨_, ?_, rfl⟩; assumption)) (fun _ _ => ?_)) | (refine PIoL_be (fun _ _ => ?_)) | (refine PIoL_na ?_ (fun _ _ => ?_)) | (refine PIoL_no ?_ (fun _ _ => ?_)) | (refine PIoL_ite ?_ ?_) | (refine PIoL_some ?_) | (exact PIoL_none) | (refine PIoL_in (cQoL.c6 hc _ _ ?_) (fun _ _ _ => ?_)) | (refine PIoL_rn (cQoL.c27 hc _ _ _ _ _ ?_) (fun _ _ _ => ?_)) | (refine pioL_oj_X0_template_103 hc ih ?_)))
theorem pioL_oj_X0_template_37 {k6 : Option Nat → Int32 → Option Nat → Option Nat → Int32 → Option Nat → oSt → oRs} {x0 : Option Nat} {x1 : Int32} {x2 : Option Nat} {x3 : Option Nat} {x5 : Option Nat} {t0 : Int32} {t1 : Int32} {σ : oSt} (hc : cQoL va fv call) (hk6 : ∀ (a0 : Option Nat) (a1 : Int32) (a2 : Option Nat) (a3 : Option Nat) (a4 : Int32) (a5 : Option Nat), ∀ σ, lgP va fv σ → PIo (lgP va fv) (k6 a0 a1 a2 a3 a4 a5 σ)) (h : lgP va fv σ) : PIo (lgP va fv) (oj_X0_template_37 n call κ k6 x0 x1 x2 x3 x5 t0 t1 σ) := by
  unfold oj_X0_template_37
  repeat' (with_reducible (first | assumption | (refine PIoL_gd ?_) | (refine PIoL_pf ?_ (by decide) (fun _ _ => ?_)) | (refine PIoL_si ?_ (fun _ _ => ?_)) | (refine PIoL_sj ?_ (by assumption) (fun _ _ => ?_)) | (refine PIoL_sr ?_ (fun _ _ => ?_)) | (refine PIoL_cy ?_ (by first | exact Or.inl ⟨_, by assumption⟩ | (refine Or.inr ⟨_, ?_, rfl⟩; assumption)) (fun _ _ => ?_)) | (refine PIoL_be (fun _ _ => ?_)) | (refine PIoL_na ?_ (fun _ _ => ?_)) | (refine PIoL_no ?_ (fun _ _ => ?_)) | (refine PIoL_ite ?_ ?_) | (refine PIoL_some ?_) | (exact PIoL_none) | (refine hk6 _ _ _ _ _ _ _ ?_)))
theorem pioL_oj_X0_template_36 {k6 : Option Nat → Int32 → Option Nat → Option Nat → Int32 → Option Nat → oSt → oRs} {x0 : Option Nat} {x1 : Int32} {x2 : Option Nat} {x3 : Option Nat} {x5 : Option Nat} {t0 : Int32} {σ : oSt} (hc : cQoL va fv call) (hk6 : ∀ (a0 : Option Nat) (a1 : Int32) (a2 : Option Nat) (a3 : Option Nat) (a4 : Int32) (a5 : Option Nat), ∀ σ, lgP va fv σ → PIo (lgP va fv) (k6 a0 a1 a2 a3 a4 a5 σ)) (h : lgP va fv σ) : PIo (lgP va fv) (oj_X0_template_36 n call κ k6 x0 x1 x2 x3 x5 t0 σ) := by
  unfold oj_X0_template_36
  repeat' (with_reducible (first | assumption | (refine PIoL_gd ?_) | (refine PIoL_pf ?_ (by decide) (fun _ _ => ?_)) | (refine PIoL_si ?_ (fun _ _ => ?_)) | (refine PIoL_sj ?_ (by assumption) (fun _ _ => ?_)) | (refine PIoL_sr ?_ (fun _ _ => ?_)) | (refine PIoL_cy ?_ (by first | exact Or.inl ⟨_, by assumption⟩ | (refine Or.inr ⟨_, ?_, rfl⟩; assumption)) (fun _ _ => ?_)) | (refine PIoL_be (fun _ _ => ?_)) | (refine PIoL_na ?_ (fun _ _ => ?_)) | (refine PIoL_no ?_ (fun _ _ => ?_)) | (refine PIoL_ite ?_ ?_) | (refine PIoL_some ?_) | (exact PIoL_none) | (refine pioL_oj_X0_template_37 hc hk6 ?_) | (refine hk6 _ _ _ _ _ _ _ ?_)))
theorem pioL_ol_X0_template_6  (hc : cQoL va fv call)  : ∀ (t : Nat) (x0 : Option Nat) (x1 : Int32) (x2 : Option Nat) (x3 : Option Nat) (x4 : Int32) (x5 : Option Nat) (σ : oSt), lgP va fv σ → PIo (lgP va fv) (ol_X0_template_6 n call κ  t x0 x1 x2 x3 x4 x5 σ) := by
  intro t
  induction t with
  | zero => intros; exact PIoL_none
  | succ t ih =>
    intro x0 x1 x2 x3 x4 x5 σ h
    rw [ol_X0_template_6]
    repeat' (with_reducible (first | assumption | (refine PIoL_gd ?_) | (refine PIoL_pf ?_ (by decide) (fun _ _ => ?_)) | (refine PIoL_si ?_ (fun _ _ => ?_)) | (refine PIoL_sj ?_ (by assumption) (fun _ _ => ?_)) | (refine PIoL_sr ?_ (fun _ _ => ?_)) | (refine PIoL_cy ?_ (by first | exact Or.inl ⟨_, by assumption⟩ | (refine Or.inr ⟨_, ?_, rfl⟩; assumption)) (fun _ _ => ?_)) | (refine PIoL_be (fun _ _ => ?_)) | (refine PIoL_na ?_ (fun _ _ => ?_)) | (refine PIoL_no ?_ (fun _ _ => ?_)) | (refine PIoL_ite ?_ ?_) | (refine PIoL_some ?_) | (exact PIoL_none) | (refine PIoL_in (cQoL.c6 hc _ _ ?_) (fun _ _ _ => ?_)) | (refine pioL_ol_X0_template_59 hc  _ _ _ _ _ _ _ ?_) | (refine pioL_oj_X0_template_36 hc ih ?_) | (refine pioL_oj_X0_template_37 hc ih ?_)))
theorem pioL_ob_X0_template  {x0 : Option Nat} {x1 : Int32} {x2 : Option Nat} {x3 : Option Nat} {σ : oSt} (hc : cQoL va fv call)  (h : lgP va fv σ) : PIo (lgP va fv) (ob_X0_template n call κ  x0 x1 x2 x3 σ) := by
  unfold ob_X0_template
  repeat' (with_reducible (first | assumption | (refine PIoL_gd ?_) | (refine PIoL_pf ?_ (by decide) (fun _ _ => ?_)) | (refine PIoL_si ?_ (fun _ _ => ?_)) | (refine PIoL_sj ?_ (by assumption) (fun _ _ => ?_)) | (refine PIoL_sr ?_ (fun _ _ => ?_)) | (refine PIoL_cy ?_ (by first | exact Or.inl ⟨_, by assumption⟩ | (refine Or.inr ⟨_, ?_, rfl⟩; assumption)) (fun _ _ => ?_)) | (refine PIoL_be (fun _ _ => ?_)) | (refine PIoL_na ?_ (fun _ _ => ?_)) | (refine PIoL_no ?_ (fun _ _ => ?_)) | (refine PIoL_ite ?_ ?_) | (refine PIoL_some ?_) | (exact PIoL_none) | (refine pioL_ol_X0_template_6 hc  _ _ _ _ _ _ _ _ ?_)))
theorem pioL_ol_X0_fitBody_9  (hc : cQoL va fv call)  : ∀ (t : Nat) (x0 : Option Nat) (x1 : Option Nat) (x2 : Option Nat) (x3 : Option Nat) (x4 : Int32) (σ : oSt), lgP va fv σ → PIo (lgP va fv) (ol_X0_fitBody_9 n call κ  t x0 x1 x2 x3 x4 σ) := by
  intro t
  induction t with
  | zero => intros; exact PIoL_none
  | succ t ih =>
    intro x0 x1 x2 x3 x4 σ h
    rw [ol_X0_fitBody_9]
    repeat' (with_reducible (first | assumption | (refine PIoL_gd ?_) | (refine PIoL_pf ?_ (by decide) (fun _ _ => ?_)) | (refine PIoL_si ?_ (fun _ _ => ?_)) | (refine PIoL_sj ?_ (by assumption) (fun _ _ => ?_)) | (refine PIoL_sr ?_ (fun _ _ => ?_)) | (refine PIoL_cy ?_ (by first | exact Or.inl ⟨_, by assumption⟩ | (refine Or.inr ⟨_, ?_, rfl⟩; assumption)) (fun _ _ => ?_)) | (refine PIoL_be (fun _ _ => ?_)) | (refine PIoL_na ?_ (fun _ _ => ?_)) | (refine PIoL_no ?_ (fun _ _ => ?_)) | (refine PIoL_ite ?_ ?_) | (refine PIoL_some ?_) | (exact PIoL_none) | (refine PIoL_cv (cQoL.c2 hc _ _ _ _ ?_) (fun _ _ => ?_)) | (refine PIoL_cv (cQoL.c12 hc _ _ _ _ _ ?_) (fun _ _ => ?_)) | (refine PIoL_in (cQoL.c236 hc _ _ ?_) (fun _ _ _ => ?_)) | (refine PIoL_rn (cQoL.c4 hc _ _ _ ?_) (fun _ _ _ => ?_)) | (refine PIoL_rn (cQoL.c30 hc _ _ _ _ ?_) (fun _ _ _ => ?_)) | (refine PIoL_rn (cQoL.c234 hc _ _ _ ?_) (fun _ _ _ => ?_)) | (refine ih _ _ _ _ _ _ ?_)))
theorem pioL_ob_X0_fitBody  {x0 : Option Nat} {x1 : Option Nat} {x2 : Option Nat} {x3 : Option Nat} {σ : oSt} (hc : cQoL va fv call)  (h : lgP va fv σ) : PIo (lgP va fv) (ob_X0_fitBody n call κ  x0 x1 x2 x3 σ) := by
  unfold ob_X0_fitBody
  repeat' (with_reducible (first | assumption | (refine PIoL_gd ?_) | (refine PIoL_pf ?_ (by decide) (fun _ _ => ?_)) | (refine PIoL_si ?_ (fun _ _ => ?_)) | (refine PIoL_sj ?_ (by assumption) (fun _ _ => ?_)) | (refine PIoL_sr ?_ (fun _ _ => ?_)) | (refine PIoL_cy ?_ (by first | exact Or.inl ⟨_, by assumption⟩ | (refine Or.inr ⟨_, ?_, rfl⟩; assumption)) (fun _ _ => ?_)) | (refine PIoL_be (fun _ _ => ?_)) | (refine PIoL_na ?_ (fun _ _ => ?_)) | (refine PIoL_no ?_ (fun _ _ => ?_)) | (refine PIoL_ite ?_ ?_) | (refine PIoL_some ?_) | (exact PIoL_none) | (refine pioL_ol_X0_fitBody_9 hc  _ _ _ _ _ _ _ ?_)))
theorem pioL_oj_X0_walk_21  {x0 : Option Nat} {x1 : Option Nat} {x2 : Option Nat} {σ : oSt} (hc : cQoL va fv call)  (h : lgP va fv σ) : PIo (lgP va fv) (oj_X0_walk_21 n call κ  x0 x1 x2 σ) := by
  unfold oj_X0_walk_21
  repeat' (with_reducible (first | assumption | (refine PIoL_gd ?_) | (refine PIoL_pf ?_ (by decide) (fun _ _ => ?_)) | (refine PIoL_si ?_ (fun _ _ => ?_)) | (refine PIoL_sj ?_ (by assumption) (fun _ _ => ?_)) | (refine PIoL_sr ?_ (fun _ _ => ?_)) | (refine PIoL_cy ?_ (by first | exact Or.inl ⟨_, by assumption⟩ | (refine Or.inr ⟨_, ?_, rfl⟩; assumption)) (fun _ _ => ?_)) | (refine PIoL_be (fun _ _ => ?_)) | (refine PIoL_na ?_ (fun _ _ => ?_)) | (refine PIoL_no ?_ (fun _ _ => ?_)) | (refine PIoL_ite ?_ ?_) | (refine PIoL_some ?_) | (exact PIoL_none) | (refine PIoL_cv (cQoL.c13 hc _ _ _ _ _ ?_) (fun _ _ => ?_)) | (refine PIoL_rn (cQoL.c20 hc _ _ ?_) (fun _ _ _ => ?_)) | (refine PIoL_rn (cQoL.c30 hc _ _ _ _ ?_) (fun _ _ _ => ?_)) | (refine PIoL_rn (cQoL.c31 hc _ _ _ _ ?_) (fun _ _ _ => ?_)) | (refine PIoL_rn (cQoL.c32 hc _ _ _ _ ?_) (fun _ _ _ => ?_)) | (refine PIoL_rn (cQoL.c33 hc _ _ _ _ ?_) (fun _ _ _ => ?_)) | (refine PIoL_rn (cQoL.c34 hc _ _ _ _ ?_) (fun _ _ _ => ?_)) | (refine PIoL_rn (cQoL.c35 hc _ _ _ _ ?_) (fun _ _ _ => ?_)) | (refine PIoL_rn (cQoL.c36 hc _ _ _ _ ?_) (fun _ _ _ => ?_))))
theorem pioL_ob_X0_walk  {x0 : Option Nat} {x1 : Option Nat} {x2 : Option Nat} {σ : oSt} (hc : cQoL va fv call)  (h : lgP va fv σ) : PIo (lgP va fv) (ob_X0_walk n call κ  x0 x1 x2 σ) := by
  unfold ob_X0_walk
  repeat' (with_reducible (first | assumption | (refine PIoL_gd ?_) | (refine PIoL_pf ?_ (by decide) (fun _ _ => ?_)) | (refine PIoL_si ?_ (fun _ _ => ?_)) | (refine PIoL_sj ?_ (by assumption) (fun _ _ => ?_)) | (refine PIoL_sr ?_ (fun _ _ => ?_)) | (refine PIoL_cy ?_ (by first | exact Or.inl ⟨_, by assumption⟩ | (refine Or.inr ⟨_, ?_, rfl⟩; assumption)) (fun _ _ => ?_)) | (refine PIoL_be (fun _ _ => ?_)) | (refine PIoL_na ?_ (fun _ _ => ?_)) | (refine PIoL_no ?_ (fun _ _ => ?_)) | (refine PIoL_ite ?_ ?_) | (refine PIoL_some ?_) | (exact PIoL_none) | (refine PIoL_in (cQoL.c227 hc _ _ _ ?_) (fun _ _ _ => ?_)) | (refine pioL_oj_X0_walk_21 hc  ?_)))
theorem pioL_oj_X0_walkCall_90 {k11 : Option Nat → Option Nat → Option Nat → Option Nat → Int32 → oSt → oRs} {x0 : Option Nat} {x1 : Option Nat} {x2 : Option Nat} {x4 : Int32} {t0 : Option Nat} {t1 : Option Nat} {σ : oSt} (hc : cQoL va fv call) (hk11 : ∀ (a0 : Option Nat) (a1 : Option Nat) (a2 : Option Nat) (a3 : Option Nat) (a4 : Int32), ∀ σ, lgP va fv σ → PIo (lgP va fv) (k11 a0 a1 a2 a3 a4 σ)) (h : lgP va fv σ) : PIo (lgP va fv) (oj_X0_walkCall_90 n call κ k11 x0 x1 x2 x4 t0 t1 σ) := by
  unfold oj_X0_walkCall_90
  repeat' (with_reducible (first | assumption | (refine PIoL_gd ?_) | (refine PIoL_pf ?_ (by decide) (fun _ _ => ?_)) | (refine PIoL_si ?_ (fun _ _ => ?_)) | (refine PIoL_sj ?_ (by assumption) (fun _ _ => ?_)) | (refine PIoL_sr ?_ (fun _ _ => ?_)) | (refine PIoL_cy ?_ (by first | exact Or.inl ⟨_, by assumption⟩ | (refine Or.inr ⟨_, ?_, rfl⟩; assumption)) (fun _ _ => ?_)) | (refine PIoL_be (fun _ _ => ?_)) | (refine PIoL_na ?_ (fun _ _ => ?_)) | (refine PIoL_no ?_ (fun _ _ => ?_)) | (refine PIoL_ite ?_ ?_) | (refine PIoL_some ?_) | (exact PIoL_none) | (refine PIoL_rn (cQoL.c4 hc _ _ _ ?_) (fun _ _ _ => ?_)) | (refine hk11 _ _ _ _ _ _ ?_)))
theorem pioL_ol_X0_walkCall_11  (hc : cQoL va fv call)  : ∀ (t : Nat) (x0 : Option Nat) (x1 : Option Nat) (x2 : Option Nat) (x3 : Option Nat) (x4 : Int32) (σ : oSt), lgP va fv σ → PIo (lgP va fv) (ol_X0_walkCall_11 n call κ  t x0 x1 x2 x3 x4 σ) := by
  intro t
  induction t with
  | zero => intros; exact PIoL_none
  | succ t ih =>
    intro x0 x1 x2 x3 x4 σ h
    rw [ol_X0_walkCall_11]
    repeat' (with_reducible (first | assumption | (refine PIoL_gd ?_) | (refine PIoL_pf ?_ (by decide) (fun _ _ => ?_)) | (refine PIoL_si ?_ (fun _ _ => ?_)) | (refine PIoL_sj ?_ (by assumption) (fun _ _ => ?_)) | (refine PIoL_sr ?_ (fun _ _ => ?_)) | (refine PIoL_cy ?_ (by first | exact Or.inl ⟨_, by assumption⟩ | (refine Or.inr ⟨_, ?_, rfl⟩; assumption)) (fun _ _ => ?_)) | (refine PIoL_be (fun _ _ => ?_)) | (refine PIoL_na ?_ (fun _ _ => ?_)) | (refine PIoL_no ?_ (fun _ _ => ?_)) | (refine PIoL_ite ?_ ?_) | (refine PIoL_some ?_) | (exact PIoL_none) | (refine PIoL_cv (cQoL.c12 hc _ _ _ _ _ ?_) (fun _ _ => ?_)) | (refine PIoL_in (cQoL.c6 hc _ _ ?_) (fun _ _ _ => ?_)) | (refine PIoL_in (cQoL.c236 hc _ _ ?_) (fun _ _ _ => ?_)) | (refine PIoL_rn (cQoL.c5 hc _ _ ?_) (fun _ _ _ => ?_)) | (refine PIoL_rn (cQoL.c30 hc _ _ _ _ ?_) (fun _ _ _ => ?_)) | (refine PIoL_rn (cQoL.c234 hc _ _ _ ?_) (fun _ _ _ => ?_)) | (refine pioL_oj_X0_walkCall_90 hc ih ?_)))
theorem pioL_ob_X0_walkCall  {x0 : Option Nat} {x1 : Option Nat} {x2 : Option Nat} {σ : oSt} (hc : cQoL va fv call)  (h : lgP va fv σ) : PIo (lgP va fv) (ob_X0_walkCall n call κ  x0 x1 x2 σ) := by
  unfold ob_X0_walkCall
  repeat' (with_reducible (first | assumption | (refine PIoL_gd ?_) | (refine PIoL_pf ?_ (by decide) (fun _ _ => ?_)) | (refine PIoL_si ?_ (fun _ _ => ?_)) | (refine PIoL_sj ?_ (by assumption) (fun _ _ => ?_)) | (refine PIoL_sr ?_ (fun _ _ => ?_)) | (refine PIoL_cy ?_ (by first | exact Or.inl ⟨_, by assumption⟩ | (refine Or.inr ⟨_, ?_, rfl⟩; assumption)) (fun _ _ => ?_)) | (refine PIoL_be (fun _ _ => ?_)) | (refine PIoL_na ?_ (fun _ _ => ?_)) | (refine PIoL_no ?_ (fun _ _ => ?_)) | (refine PIoL_ite ?_ ?_) | (refine PIoL_some ?_) | (exact PIoL_none) | (refine pioL_ol_X0_walkCall_11 hc  _ _ _ _ _ _ _ ?_)))
theorem pioL_ob_X0_walkFunction  {x0 : Option Nat} {x1 : Option Nat} {x2 : Option Nat} {σ : oSt} (hc : cQoL va fv call)  (h : lgP va fv σ) : PIo (lgP va fv) (ob_X0_walkFunction n call κ  x0 x1 x2 σ) := by
  unfold ob_X0_walkFunction
  repeat' (with_reducible (first | assumption | (refine PIoL_gd ?_) | (refine PIoL_pf ?_ (by decide) (fun _ _ => ?_)) | (refine PIoL_si ?_ (fun _ _ => ?_)) | (refine PIoL_sj ?_ (by assumption) (fun _ _ => ?_)) | (refine PIoL_sr ?_ (fun _ _ => ?_)) | (refine PIoL_cy ?_ (by first | exact Or.inl ⟨_, by assumption⟩ | (refine Or.inr ⟨_, ?_, rfl⟩; assumption)) (fun _ _ => ?_)) | (refine PIoL_be (fun _ _ => ?_)) | (refine PIoL_na ?_ (fun _ _ => ?_)) | (refine PIoL_no ?_ (fun _ _ => ?_)) | (refine PIoL_ite ?_ ?_) | (refine PIoL_some ?_) | (exact PIoL_none) | (refine PIoL_cv (cQoL.c29 hc _ _ _ _ _ ?_) (fun _ _ => ?_)) | (refine PIoL_rn (cQoL.c28 hc _ _ _ _ _ ?_) (fun _ _ _ => ?_))))
theorem pioL_ob_X0_walkIf  {x0 : Option Nat} {x1 : Option Nat} {x2 : Option Nat} {σ : oSt} (hc : cQoL va fv call)  (h : lgP va fv σ) : PIo (lgP va fv) (ob_X0_walkIf n call κ  x0 x1 x2 σ) := by
  unfold ob_X0_walkIf
  repeat' (with_reducible (first | assumption | (refine PIoL_gd ?_) | (refine PIoL_pf ?_ (by decide) (fun _ _ => ?_)) | (refine PIoL_si ?_ (fun _ _ => ?_)) | (refine PIoL_sj ?_ (by assumption) (fun _ _ => ?_)) | (refine PIoL_sr ?_ (fun _ _ => ?_)) | (refine PIoL_cy ?_ (by first | exact Or.inl ⟨_, by assumption⟩ | (refine Or.inr ⟨_, ?_, rfl⟩; assumption)) (fun _ _ => ?_)) | (refine PIoL_be (fun _ _ => ?_)) | (refine PIoL_na ?_ (fun _ _ => ?_)) | (refine PIoL_no ?_ (fun _ _ => ?_)) | (refine PIoL_ite ?_ ?_) | (refine PIoL_some ?_) | (exact PIoL_none) | (refine PIoL_cv (cQoL.c12 hc _ _ _ _ _ ?_) (fun _ _ => ?_)) | (refine PIoL_cv (cQoL.c13 hc _ _ _ _ _ ?_) (fun _ _ => ?_)) | (refine PIoL_rn (cQoL.c28 hc _ _ _ _ _ ?_) (fun _ _ _ => ?_)) | (refine PIoL_rn (cQoL.c30 hc _ _ _ _ ?_) (fun _ _ _ => ?_))))
theorem pioL_ob_X0_walkLet  {x0 : Option Nat} {x1 : Option Nat} {x2 : Option Nat} {σ : oSt} (hc : cQoL va fv call)  (h : lgP va fv σ) : PIo (lgP va fv) (ob_X0_walkLet n call κ  x0 x1 x2 σ) := by
  unfold ob_X0_walkLet
  repeat' (with_reducible (first | assumption | (refine PIoL_gd ?_) | (refine PIoL_pf ?_ (by decide) (fun _ _ => ?_)) | (refine PIoL_si ?_ (fun _ _ => ?_)) | (refine PIoL_sj ?_ (by assumption) (fun _ _ => ?_)) | (refine PIoL_sr ?_ (fun _ _ => ?_)) | (refine PIoL_cy ?_ (by first | exact Or.inl ⟨_, by assumption⟩ | (refine Or.inr ⟨_, ?_, rfl⟩; assumption)) (fun _ _ => ?_)) | (refine PIoL_be (fun _ _ => ?_)) | (refine PIoL_na ?_ (fun _ _ => ?_)) | (refine PIoL_no ?_ (fun _ _ => ?_)) | (refine PIoL_ite ?_ ?_) | (refine PIoL_some ?_) | (exact PIoL_none) | (refine PIoL_cv (cQoL.c2 hc _ _ _ _ ?_) (fun _ _ => ?_)) | (refine PIoL_cv (cQoL.c12 hc _ _ _ _ _ ?_) (fun _ _ => ?_)) | (refine PIoL_rn (cQoL.c28 hc _ _ _ _ _ ?_) (fun _ _ _ => ?_)) | (refine PIoL_rn (cQoL.c30 hc _ _ _ _ ?_) (fun _ _ _ => ?_))))
theorem pioL_ob_X0_walkMatch  {x0 : Option Nat} {x1 : Option Nat} {x2 : Option Nat} {σ : oSt} (hc : cQoL va fv call)  (h : lgP va fv σ) : PIo (lgP va fv) (ob_X0_walkMatch n call κ  x0 x1 x2 σ) := by
  unfold ob_X0_walkMatch
  repeat' (with_reducible (first | assumption | (refine PIoL_gd ?_) | (refine PIoL_pf ?_ (by decide) (fun _ _ => ?_)) | (refine PIoL_si ?_ (fun _ _ => ?_)) | (refine PIoL_sj ?_ (by assumption) (fun _ _ => ?_)) | (refine PIoL_sr ?_ (fun _ _ => ?_)) | (refine PIoL_cy ?_ (by first | exact Or.inl ⟨_, by assumption⟩ | (refine Or.inr ⟨_, ?_, rfl⟩; assumption)) (fun _ _ => ?_)) | (refine PIoL_be (fun _ _ => ?_)) | (refine PIoL_na ?_ (fun _ _ => ?_)) | (refine PIoL_no ?_ (fun _ _ => ?_)) | (refine PIoL_ite ?_ ?_) | (refine PIoL_some ?_) | (exact PIoL_none) | (refine PIoL_cv (cQoL.c1 hc _ _ _ ?_) (fun _ _ => ?_)) | (refine PIoL_cv (cQoL.c2 hc _ _ _ _ ?_) (fun _ _ => ?_)) | (refine PIoL_cv (cQoL.c12 hc _ _ _ _ _ ?_) (fun _ _ => ?_)) | (refine PIoL_cv (cQoL.c13 hc _ _ _ _ _ ?_) (fun _ _ => ?_)) | (refine PIoL_rn (cQoL.c11 hc _ _ _ _ ?_) (fun _ _ _ => ?_)) | (refine PIoL_rn (cQoL.c17 hc _ _ _ ?_) (fun _ _ _ => ?_)) | (refine PIoL_rn (cQoL.c28 hc _ _ _ _ _ ?_) (fun _ _ _ => ?_)) | (refine PIoL_rn (cQoL.c30 hc _ _ _ _ ?_) (fun _ _ _ => ?_)) | (refine PIoL_rn (cQoL.c234 hc _ _ _ ?_) (fun _ _ _ => ?_))))
theorem pioL_ob_X0_walkRec  {x0 : Option Nat} {x1 : Option Nat} {x2 : Option Nat} {σ : oSt} (hc : cQoL va fv call)  (h : lgP va fv σ) : PIo (lgP va fv) (ob_X0_walkRec n call κ  x0 x1 x2 σ) := by
  unfold ob_X0_walkRec
  repeat' (with_reducible (first | assumption | (refine PIoL_gd ?_) | (refine PIoL_pf ?_ (by decide) (fun _ _ => ?_)) | (refine PIoL_si ?_ (fun _ _ => ?_)) | (refine PIoL_sj ?_ (by assumption) (fun _ _ => ?_)) | (refine PIoL_sr ?_ (fun _ _ => ?_)) | (refine PIoL_cy ?_ (by first | exact Or.inl ⟨_, by assumption⟩ | (refine Or.inr ⟨_, ?_, rfl⟩; assumption)) (fun _ _ => ?_)) | (refine PIoL_be (fun _ _ => ?_)) | (refine PIoL_na ?_ (fun _ _ => ?_)) | (refine PIoL_no ?_ (fun _ _ => ?_)) | (refine PIoL_ite ?_ ?_) | (refine PIoL_some ?_) | (exact PIoL_none) | (refine PIoL_cv (cQoL.c2 hc _ _ _ _ ?_) (fun _ _ => ?_)) | (refine PIoL_cv (cQoL.c12 hc _ _ _ _ _ ?_) (fun _ _ => ?_)) | (refine PIoL_cv (cQoL.c29 hc _ _ _ _ _ ?_) (fun _ _ => ?_)) | (refine PIoL_rn (cQoL.c28 hc _ _ _ _ _ ?_) (fun _ _ _ => ?_)) | (refine PIoL_rn (cQoL.c30 hc _ _ _ _ ?_) (fun _ _ _ => ?_))))
theorem pioL_ol_X0_gather_4  (hc : cQoL va fv call)  : ∀ (t : Nat) (x0 : Option Nat) (x1 : Option Nat) (x2 : Int32) (σ : oSt), lgP va fv σ → PIo (lgP va fv) (ol_X0_gather_4 n call κ  t x0 x1 x2 σ) := by
  intro t
  induction t with
  | zero => intros; exact PIoL_none
  | succ t ih =>
    intro x0 x1 x2 σ h
    rw [ol_X0_gather_4]
    repeat' (with_reducible (first | assumption | (refine PIoL_gd ?_) | (refine PIoL_pf ?_ (by decide) (fun _ _ => ?_)) | (refine PIoL_si ?_ (fun _ _ => ?_)) | (refine PIoL_sj ?_ (by assumption) (fun _ _ => ?_)) | (refine PIoL_sr ?_ (fun _ _ => ?_)) | (refine PIoL_cy ?_ (by first | exact Or.inl ⟨_, by assumption⟩ | (refine Or.inr ⟨_, ?_, rfl⟩; assumption)) (fun _ _ => ?_)) | (refine PIoL_be (fun _ _ => ?_)) | (refine PIoL_na ?_ (fun _ _ => ?_)) | (refine PIoL_no ?_ (fun _ _ => ?_)) | (refine PIoL_ite ?_ ?_) | (refine PIoL_some ?_) | (exact PIoL_none) | (refine PIoL_cv (cQoL.c1 hc _ _ _ ?_) (fun _ _ => ?_)) | (refine PIoL_cv (cQoL.c2 hc _ _ _ _ ?_) (fun _ _ => ?_)) | (refine PIoL_rn (cQoL.c30 hc _ _ _ _ ?_) (fun _ _ _ => ?_)) | (refine PIoL_rn (cQoL.c234 hc _ _ _ ?_) (fun _ _ _ => ?_)) | (refine ih _ _ _ _ ?_)))
theorem pioL_ob_X0_gather  {x0 : Option Nat} {σ : oSt} (hc : cQoL va fv call)  (h : lgP va fv σ) : PIo (lgP va fv) (ob_X0_gather n call κ  x0 σ) := by
  unfold ob_X0_gather
  repeat' (with_reducible (first | assumption | (refine PIoL_gd ?_) | (refine PIoL_pf ?_ (by decide) (fun _ _ => ?_)) | (refine PIoL_si ?_ (fun _ _ => ?_)) | (refine PIoL_sj ?_ (by assumption) (fun _ _ => ?_)) | (refine PIoL_sr ?_ (fun _ _ => ?_)) | (refine PIoL_cy ?_ (by first | exact Or.inl ⟨_, by assumption⟩ | (refine Or.inr ⟨_, ?_, rfl⟩; assumption)) (fun _ _ => ?_)) | (refine PIoL_be (fun _ _ => ?_)) | (refine PIoL_na ?_ (fun _ _ => ?_)) | (refine PIoL_no ?_ (fun _ _ => ?_)) | (refine PIoL_ite ?_ ?_) | (refine PIoL_some ?_) | (exact PIoL_none) | (refine pioL_ol_X0_gather_4 hc  _ _ _ _ _ ?_)))
theorem pioL_oj_X9_isFact_68   {σ : oSt} (hc : cQoL va fv call)  (h : lgP va fv σ) : PIo (lgP va fv) (oj_X9_isFact_68 n call κ   σ) := by
  unfold oj_X9_isFact_68
  repeat' (with_reducible (first | assumption | (refine PIoL_gd ?_) | (refine PIoL_pf ?_ (by decide) (fun _ _ => ?_)) | (refine PIoL_si ?_ (fun _ _ => ?_)) | (refine PIoL_sj ?_ (by assumption) (fun _ _ => ?_)) | (refine PIoL_sr ?_ (fun _ _ => ?_)) | (refine PIoL_cy ?_ (by first | exact Or.inl ⟨_, by assumption⟩ | (refine Or.inr ⟨_, ?_, rfl⟩; assumption)) (fun _ _ => ?_)) | (refine PIoL_be (fun _ _ => ?_)) | (refine PIoL_na ?_ (fun _ _ => ?_)) | (refine PIoL_no ?_ (fun _ _ => ?_)) | (refine PIoL_ite ?_ ?_) | (refine PIoL_some ?_) | (exact PIoL_none)))
theorem pioL_ob_X9_isFact  {x0 : Option Nat} {σ : oSt} (hc : cQoL va fv call)  (h : lgP va fv σ) : PIo (lgP va fv) (ob_X9_isFact n call κ  x0 σ) := by
  unfold ob_X9_isFact
  repeat' (with_reducible (first | assumption | (refine PIoL_gd ?_) | (refine PIoL_pf ?_ (by decide) (fun _ _ => ?_)) | (refine PIoL_si ?_ (fun _ _ => ?_)) | (refine PIoL_sj ?_ (by assumption) (fun _ _ => ?_)) | (refine PIoL_sr ?_ (fun _ _ => ?_)) | (refine PIoL_cy ?_ (by first | exact Or.inl ⟨_, by assumption⟩ | (refine Or.inr ⟨_, ?_, rfl⟩; assumption)) (fun _ _ => ?_)) | (refine PIoL_be (fun _ _ => ?_)) | (refine PIoL_na ?_ (fun _ _ => ?_)) | (refine PIoL_no ?_ (fun _ _ => ?_)) | (refine PIoL_ite ?_ ?_) | (refine PIoL_some ?_) | (exact PIoL_none) | (refine pioL_oj_X9_isFact_68 hc  ?_)))
theorem pioL_oj_X1_isFormed_90 {k28 : Option Nat → Int32 → Int32 → oSt → oRs} {x0 : Option Nat} {x2 : Int32} {t0 : Int32} {σ : oSt} (hc : cQoL va fv call) (hk28 : ∀ (a0 : Option Nat) (a1 : Int32) (a2 : Int32), ∀ σ, lgP va fv σ → PIo (lgP va fv) (k28 a0 a1 a2 σ)) (h : lgP va fv σ) : PIo (lgP va fv) (oj_X1_isFormed_90 n call κ k28 x0 x2 t0 σ) := by
  unfold oj_X1_isFormed_90
  repeat' (with_reducible (first | assumption | (refine PIoL_gd ?_) | (refine PIoL_pf ?_ (by decide) (fun _ _ => ?_)) | (refine PIoL_si ?_ (fun _ _ => ?_)) | (refine PIoL_sj ?_ (by assumption) (fun _ _ => ?_)) | (refine PIoL_sr ?_ (fun _ _ => ?_)) | (refine PIoL_cy ?_ (by first | exact Or.inl ⟨_, by assumption⟩ | (refine Or.inr ⟨_, ?_, rfl⟩; assumption)) (fun _ _ => ?_)) | (refine PIoL_be (fun _ _ => ?_)) | (refine PIoL_na ?_ (fun _ _ => ?_)) | (refine PIoL_no ?_ (fun _ _ => ?_)) | (refine PIoL_ite ?_ ?_) | (refine PIoL_some ?_) | (exact PIoL_none) | (refine hk28 _ _ _ _ ?_)))
theorem pioL_oj_X1_isFormed_89 {k28 : Option Nat → Int32 → Int32 → oSt → oRs} {x0 : Option Nat} {x2 : Int32} {σ : oSt} (hc : cQoL va fv call) (hk28 : ∀ (a0 : Option Nat) (a1 : Int32) (a2 : Int32), ∀ σ, lgP va fv σ → PIo (lgP va fv) (k28 a0 a1 a2 σ)) (h : lgP va fv σ) : PIo (lgP va fv) (oj_X1_isFormed_89 n call κ k28 x0 x2 σ) := by
  unfold oj_X1_isFormed_89
  repeat' (with_reducible (first | assumption | (refine PIoL_gd ?_) | (refine PIoL_pf ?_ (by decide) (fun _ _ => ?_)) | (refine PIoL_si ?_ (fun _ _ => ?_)) | (refine PIoL_sj ?_ (by assumption) (fun _ _ => ?_)) | (refine PIoL_sr ?_ (fun _ _ => ?_)) | (refine PIoL_cy ?_ (by first | exact Or.inl ⟨_, by assumption⟩ | (refine Or.inr ⟨_, ?_, rfl⟩; assumption)) (fun _ _ => ?_)) | (refine PIoL_be (fun _ _ => ?_)) | (refine PIoL_na ?_ (fun _ _ => ?_)) | (refine PIoL_no ?_ (fun _ _ => ?_)) | (refine PIoL_ite ?_ ?_) | (refine PIoL_some ?_) | (exact PIoL_none) | (refine pioL_oj_X1_isFormed_90 hc hk28 ?_) | (refine hk28 _ _ _ _ ?_)))
theorem pioL_oj_X1_isFormed_85 {k28 : Option Nat → Int32 → Int32 → oSt → oRs} {x0 : Option Nat} {x2 : Int32} {σ : oSt} (hc : cQoL va fv call) (hk28 : ∀ (a0 : Option Nat) (a1 : Int32) (a2 : Int32), ∀ σ, lgP va fv σ → PIo (lgP va fv) (k28 a0 a1 a2 σ)) (h : lgP va fv σ) : PIo (lgP va fv) (oj_X1_isFormed_85 n call κ k28 x0 x2 σ) := by
  unfold oj_X1_isFormed_85
  repeat' (with_reducible (first | assumption | (refine PIoL_gd ?_) | (refine PIoL_pf ?_ (by decide) (fun _ _ => ?_)) | (refine PIoL_si ?_ (fun _ _ => ?_)) | (refine PIoL_sj ?_ (by assumption) (fun _ _ => ?_)) | (refine PIoL_sr ?_ (fun _ _ => ?_)) | (refine PIoL_cy ?_ (by first | exact Or.inl ⟨_, by assumption⟩ | (refine Or.inr ⟨_, ?_, rfl⟩; assumption)) (fun _ _ => ?_)) | (refine PIoL_be (fun _ _ => ?_)) | (refine PIoL_na ?_ (fun _ _ => ?_)) | (refine PIoL_no ?_ (fun _ _ => ?_)) | (refine PIoL_ite ?_ ?_) | (refine PIoL_some ?_) | (exact PIoL_none) | (refine pioL_oj_X1_isFormed_90 hc hk28 ?_) | (refine hk28 _ _ _ _ ?_)))
theorem pioL_ol_X1_isFormed_28  (hc : cQoL va fv call)  : ∀ (t : Nat) (x0 : Option Nat) (x1 : Int32) (x2 : Int32) (σ : oSt), lgP va fv σ → PIo (lgP va fv) (ol_X1_isFormed_28 n call κ  t x0 x1 x2 σ) := by
  intro t
  induction t with
  | zero => intros; exact PIoL_none
  | succ t ih =>
    intro x0 x1 x2 σ h
    rw [ol_X1_isFormed_28]
    repeat' (with_reducible (first | assumption | (refine PIoL_gd ?_) | (refine PIoL_pf ?_ (by decide) (fun _ _ => ?_)) | (refine PIoL_si ?_ (fun _ _ => ?_)) | (refine PIoL_sj ?_ (by assumption) (fun _ _ => ?_)) | (refine PIoL_sr ?_ (fun _ _ => ?_)) | (refine PIoL_cy ?_ (by first | exact Or.inl ⟨_, by assumption⟩ | (refine Or.inr ⟨_, ?_, rfl⟩; assumption)) (fun _ _ => ?_)) | (refine PIoL_be (fun _ _ => ?_)) | (refine PIoL_na ?_ (fun _ _ => ?_)) | (refine PIoL_no ?_ (fun _ _ => ?_)) | (refine PIoL_ite ?_ ?_) | (refine PIoL_some ?_) | (exact PIoL_none) | (refine PIoL_in (cQoL.c38 hc _ _ ?_) (fun _ _ _ => ?_)) | (refine PIoL_in (cQoL.c236 hc _ _ ?_) (fun _ _ _ => ?_)) | (refine PIoL_rn (cQoL.c234 hc _ _ _ ?_) (fun _ _ _ => ?_)) | (refine pioL_oj_X1_isFormed_89 hc ih ?_) | (refine pioL_oj_X1_isFormed_85 hc ih ?_)))
theorem pioL_oj_X1_isFormed_25  {x0 : Option Nat} {t0 : Int32} {σ : oSt} (hc : cQoL va fv call)  (h : lgP va fv σ) : PIo (lgP va fv) (oj_X1_isFormed_25 n call κ  x0 t0 σ) := by
  unfold oj_X1_isFormed_25
  repeat' (with_reducible (first | assumption | (refine PIoL_gd ?_) | (refine PIoL_pf ?_ (by decide) (fun _ _ => ?_)) | (refine PIoL_si ?_ (fun _ _ => ?_)) | (refine PIoL_sj ?_ (by assumption) (fun _ _ => ?_)) | (refine PIoL_sr ?_ (fun _ _ => ?_)) | (refine PIoL_cy ?_ (by first | exact Or.inl ⟨_, by assumption⟩ | (refine Or.inr ⟨_, ?_, rfl⟩; assumption)) (fun _ _ => ?_)) | (refine PIoL_be (fun _ _ => ?_)) | (refine PIoL_na ?_ (fun _ _ => ?_)) | (refine PIoL_no ?_ (fun _ _ => ?_)) | (refine PIoL_ite ?_ ?_) | (refine PIoL_some ?_) | (exact PIoL_none) | (refine pioL_ol_X1_isFormed_28 hc  _ _ _ _ _ ?_)))
theorem pioL_oj_X1_isFormed_20  {x0 : Option Nat} {σ : oSt} (hc : cQoL va fv call)  (h : lgP va fv σ) : PIo (lgP va fv) (oj_X1_isFormed_20 n call κ  x0 σ) := by
  unfold oj_X1_isFormed_20
  repeat' (with_reducible (first | assumption | (refine PIoL_gd ?_) | (refine PIoL_pf ?_ (by decide) (fun _ _ => ?_)) | (refine PIoL_si ?_ (fun _ _ => ?_)) | (refine PIoL_sj ?_ (by assumption) (fun _ _ => ?_)) | (refine PIoL_sr ?_ (fun _ _ => ?_)) | (refine PIoL_cy ?_ (by first | exact Or.inl ⟨_, by assumption⟩ | (refine Or.inr ⟨_, ?_, rfl⟩; assumption)) (fun _ _ => ?_)) | (refine PIoL_be (fun _ _ => ?_)) | (refine PIoL_na ?_ (fun _ _ => ?_)) | (refine PIoL_no ?_ (fun _ _ => ?_)) | (refine PIoL_ite ?_ ?_) | (refine PIoL_some ?_) | (exact PIoL_none) | (refine pioL_oj_X1_isFormed_25 hc  ?_)))
theorem pioL_ob_X1_isFormed  {x0 : Option Nat} {σ : oSt} (hc : cQoL va fv call)  (h : lgP va fv σ) : PIo (lgP va fv) (ob_X1_isFormed n call κ  x0 σ) := by
  unfold ob_X1_isFormed
  repeat' (with_reducible (first | assumption | (refine PIoL_gd ?_) | (refine PIoL_pf ?_ (by decide) (fun _ _ => ?_)) | (refine PIoL_si ?_ (fun _ _ => ?_)) | (refine PIoL_sj ?_ (by assumption) (fun _ _ => ?_)) | (refine PIoL_sr ?_ (fun _ _ => ?_)) | (refine PIoL_cy ?_ (by first | exact Or.inl ⟨_, by assumption⟩ | (refine Or.inr ⟨_, ?_, rfl⟩; assumption)) (fun _ _ => ?_)) | (refine PIoL_be (fun _ _ => ?_)) | (refine PIoL_na ?_ (fun _ _ => ?_)) | (refine PIoL_no ?_ (fun _ _ => ?_)) | (refine PIoL_ite ?_ ?_) | (refine PIoL_some ?_) | (exact PIoL_none) | (refine PIoL_in (cQoL.c38 hc _ _ ?_) (fun _ _ _ => ?_)) | (refine pioL_oj_X1_isFormed_25 hc  ?_) | (refine pioL_oj_X1_isFormed_20 hc  ?_)))
theorem pioL_ob_X6_makeRoom {x0 : Option Nat} {x1 : Int32} {σ : oSt} (hc : cQoL va fv call) (h : lgP va fv σ) : PIo (lgP va fv) (ob_X6_makeRoom n call κ x0 x1 σ) := by
  unfold ob_X6_makeRoom
  refine PIoL_be (fun v1 _ => PIoL_be (fun v3 _ => PIoL_ite (PIoL_some h) (PIoL_be (fun v6 _ => ?_))))
  have H := cQoL.c239 hc v6 (2 * x1) σ h
  unfold orn
  split
  · rename_i a s e
    obtain ⟨p1, p2⟩ := H _ e
    refine PIoL_bs (fun s' es => ?_) (fun s' hs' => PIoL_some hs')
    obtain ⟨b, fs, -, e1, e2, rfl⟩ := lg_opf es
    obtain ⟨h1, h2, h3⟩ := p1
    have hb : va ≠ b := fun z => by rw [z, e1] at h2; cases h2
    refine ⟨h1, by rw [oput_ne hb]; exact h2, fun o gs eo => ?_⟩
    by_cases z : o = b
    · subst z
      rw [oput_eq] at eo
      injection eo with eo; injection eo with eo; injection eo with eo1 eo2
      subst eo2
      rw [List.getElem?_set_self e2]
      exact p2
    · rw [oput_ne z] at eo
      exact h3 o gs eo
  · rename_i s e
    obtain ⟨p1, p2⟩ := H _ e
    refine PIoL_bs (fun s' es => ?_) (fun s' hs' => PIoL_some hs')
    obtain ⟨b, fs, -, e1, e2, rfl⟩ := lg_opf es
    obtain ⟨h1, h2, h3⟩ := p1
    have hb : va ≠ b := fun z => by rw [z, e1] at h2; cases h2
    refine ⟨h1, by rw [oput_ne hb]; exact h2, fun o gs eo => ?_⟩
    by_cases z : o = b
    · subst z
      rw [oput_eq] at eo
      injection eo with eo; injection eo with eo; injection eo with eo1 eo2
      subst eo2
      rw [List.getElem?_set_self e2]
      exact p2
    · rw [oput_ne z] at eo
      exact h3 o gs eo
  · exact PIoL_none
theorem lg_obn {α : Type} {x : Option α} {f : α → oRs} {v : Option Value × oSt} (h : obn x f = some v) : ∃ a, x = some a ∧ f a = some v := by
  unfold obn at h
  split at h
  · exact ⟨_, rfl, h⟩
  · cases h
theorem pir_copyOf {x0 : Option Nat} {x1 : Int32} {σ : oSt} (h : lgP va fv σ) : PIq va fv (ob_J7_copyOf_c38d5 n call κ x0 x1 σ) := by
  have H : PIo (lgP va fv) (ob_J7_copyOf_c38d5 n call κ x0 x1 σ) := by
    unfold ob_J7_copyOf_c38d5
    refine PIoL_be (fun v1 _ => PIoL_ite PIoL_none (PIoL_gd (PIoL_na h (fun s4 h4 => PIoL_be (fun v7 _ => PIoL_cy h4 (Or.inr ⟨σ, h, rfl⟩) (fun s9 h9 => PIoL_some h9))))))
  intro w e
  refine ⟨H w e, ?_⟩
  unfold ob_J7_copyOf_c38d5 at e
  obtain ⟨v1, -, e⟩ := lg_obn e
  split at e
  · cases e
  · unfold ogd at e
    split at e
    · obtain ⟨v7, -, e⟩ := lg_obn e
      obtain ⟨s9, -, e⟩ := lg_obn e
      injection e with e
      rw [← e]
      intro z
      injection z with z
      have z : Value.ref σ.2.1 = Value.ref va := z
      injection z with z
      exact h.nx (by rw [z])
    · cases e
theorem pioL_ol_X6_reset_67  (hc : cQoL va fv call)  : ∀ (t : Nat) (x0 : Option Nat) (x1 : Int32) (σ : oSt), lgP va fv σ → PIo (lgP va fv) (ol_X6_reset_67 n call κ  t x0 x1 σ) := by
  intro t
  induction t with
  | zero => intros; exact PIoL_none
  | succ t ih =>
    intro x0 x1 σ h
    rw [ol_X6_reset_67]
    repeat' (with_reducible (first | assumption | (refine PIoL_gd ?_) | (refine PIoL_pf ?_ (by decide) (fun _ _ => ?_)) | (refine PIoL_si ?_ (fun _ _ => ?_)) | (refine PIoL_sj ?_ (by assumption) (fun _ _ => ?_)) | (refine PIoL_sr ?_ (fun _ _ => ?_)) | (refine PIoL_cy ?_ (by first | exact Or.inl ⟨_, by assumption⟩ | (refine Or.inr ⟨_, ?_, rfl⟩; assumption)) (fun _ _ => ?_)) | (refine PIoL_be (fun _ _ => ?_)) | (refine PIoL_na ?_ (fun _ _ => ?_)) | (refine PIoL_no ?_ (fun _ _ => ?_)) | (refine PIoL_ite ?_ ?_) | (refine PIoL_some ?_) | (exact PIoL_none) | (refine ih _ _ _ ?_)))
theorem pioL_ol_X6_reset_37  (hc : cQoL va fv call)  : ∀ (t : Nat) (x0 : Option Nat) (x1 : Int32) (σ : oSt), lgP va fv σ → PIo (lgP va fv) (ol_X6_reset_37 n call κ  t x0 x1 σ) := by
  intro t
  induction t with
  | zero => intros; exact PIoL_none
  | succ t ih =>
    intro x0 x1 σ h
    rw [ol_X6_reset_37]
    repeat' (with_reducible (first | assumption | (refine PIoL_gd ?_) | (refine PIoL_pf ?_ (by decide) (fun _ _ => ?_)) | (refine PIoL_si ?_ (fun _ _ => ?_)) | (refine PIoL_sj ?_ (by assumption) (fun _ _ => ?_)) | (refine PIoL_sr ?_ (fun _ _ => ?_)) | (refine PIoL_cy ?_ (by first | exact Or.inl ⟨_, by assumption⟩ | (refine Or.inr ⟨_, ?_, rfl⟩; assumption)) (fun _ _ => ?_)) | (refine PIoL_be (fun _ _ => ?_)) | (refine PIoL_na ?_ (fun _ _ => ?_)) | (refine PIoL_no ?_ (fun _ _ => ?_)) | (refine PIoL_ite ?_ ?_) | (refine PIoL_some ?_) | (exact PIoL_none) | (refine pioL_ol_X6_reset_67 hc  _ _ _ _ ?_) | (refine ih _ _ _ ?_)))
theorem pioL_ob_X6_reset  {x0 : Option Nat} {x1 : Int32} {σ : oSt} (hc : cQoL va fv call)  (h : lgP va fv σ) : PIo (lgP va fv) (ob_X6_reset n call κ  x0 x1 σ) := by
  unfold ob_X6_reset
  repeat' (with_reducible (first | assumption | (refine PIoL_gd ?_) | (refine PIoL_pf ?_ (by decide) (fun _ _ => ?_)) | (refine PIoL_si ?_ (fun _ _ => ?_)) | (refine PIoL_sj ?_ (by assumption) (fun _ _ => ?_)) | (refine PIoL_sr ?_ (fun _ _ => ?_)) | (refine PIoL_cy ?_ (by first | exact Or.inl ⟨_, by assumption⟩ | (refine Or.inr ⟨_, ?_, rfl⟩; assumption)) (fun _ _ => ?_)) | (refine PIoL_be (fun _ _ => ?_)) | (refine PIoL_na ?_ (fun _ _ => ?_)) | (refine PIoL_no ?_ (fun _ _ => ?_)) | (refine PIoL_ite ?_ ?_) | (refine PIoL_some ?_) | (exact PIoL_none) | (refine PIoL_cv (cQoL.c40 hc _ _ _ ?_) (fun _ _ => ?_)) | (refine pioL_ol_X6_reset_37 hc  _ _ _ _ ?_)))
theorem pioL_oj_X6_lead_148 {k16 : Option Nat → Int32 → Int64 → Int32 → Int32 → oSt → oRs} {x0 : Option Nat} {x1 : Int32} {x3 : Int64} {x5 : Int32} {x6 : Int32} {σ : oSt} (hc : cQoL va fv call) (hk16 : ∀ (a0 : Option Nat) (a1 : Int32) (a2 : Int64) (a3 : Int32) (a4 : Int32), ∀ σ, lgP va fv σ → PIo (lgP va fv) (k16 a0 a1 a2 a3 a4 σ)) (h : lgP va fv σ) : PIo (lgP va fv) (oj_X6_lead_148 n call κ k16 x0 x1 x3 x5 x6 σ) := by
  unfold oj_X6_lead_148
  repeat' (with_reducible (first | assumption | (refine PIoL_gd ?_) | (refine PIoL_pf ?_ (by decide) (fun _ _ => ?_)) | (refine PIoL_si ?_ (fun _ _ => ?_)) | (refine PIoL_sj ?_ (by assumption) (fun _ _ => ?_)) | (refine PIoL_sr ?_ (fun _ _ => ?_)) | (refine PIoL_cy ?_ (by first | exact Or.inl ⟨_, by assumption⟩ | (refine Or.inr ⟨_, ?_, rfl⟩; assumption)) (fun _ _ => ?_)) | (refine PIoL_be (fun _ _ => ?_)) | (refine PIoL_na ?_ (fun _ _ => ?_)) | (refine PIoL_no ?_ (fun _ _ => ?_)) | (refine PIoL_ite ?_ ?_) | (refine PIoL_some ?_) | (exact PIoL_none) | (refine hk16 _ _ _ _ _ _ ?_)))
theorem pioL_oj_X6_lead_142 {k16 : Option Nat → Int32 → Int64 → Int32 → Int32 → oSt → oRs} {k53 : Option Nat → Int32 → Int64 → Int32 → Int32 → Int32 → Int64 → Int32 → oSt → oRs} {x0 : Option Nat} {x1 : Int32} {x3 : Int64} {x5 : Int32} {x6 : Int32} {x7 : Int32} {x8 : Int64} {x10 : Int32} {σ : oSt} (hc : cQoL va fv call) (hk16 : ∀ (a0 : Option Nat) (a1 : Int32) (a2 : Int64) (a3 : Int32) (a4 : Int32), ∀ σ, lgP va fv σ → PIo (lgP va fv) (k16 a0 a1 a2 a3 a4 σ)) (hk53 : ∀ (a0 : Option Nat) (a1 : Int32) (a2 : Int64) (a3 : Int32) (a4 : Int32) (a5 : Int32) (a6 : Int64) (a7 : Int32), ∀ σ, lgP va fv σ → PIo (lgP va fv) (k53 a0 a1 a2 a3 a4 a5 a6 a7 σ)) (h : lgP va fv σ) : PIo (lgP va fv) (oj_X6_lead_142 n call κ k16 k53 x0 x1 x3 x5 x6 x7 x8 x10 σ) := by
  unfold oj_X6_lead_142
  repeat' (with_reducible (first | assumption | (refine PIoL_gd ?_) | (refine PIoL_pf ?_ (by decide) (fun _ _ => ?_)) | (refine PIoL_si ?_ (fun _ _ => ?_)) | (refine PIoL_sj ?_ (by assumption) (fun _ _ => ?_)) | (refine PIoL_sr ?_ (fun _ _ => ?_)) | (refine PIoL_cy ?_ (by first | exact Or.inl ⟨_, by assumption⟩ | (refine Or.inr ⟨_, ?_, rfl⟩; assumption)) (fun _ _ => ?_)) | (refine PIoL_be (fun _ _ => ?_)) | (refine PIoL_na ?_ (fun _ _ => ?_)) | (refine PIoL_no ?_ (fun _ _ => ?_)) | (refine PIoL_ite ?_ ?_) | (refine PIoL_some ?_) | (exact PIoL_none) | (refine hk16 _ _ _ _ _ _ ?_) | (refine hk53 _ _ _ _ _ _ _ _ _ ?_)))
theorem pioL_ol_X6_lead_53 {k16 : Option Nat → Int32 → Int64 → Int32 → Int32 → oSt → oRs} (hc : cQoL va fv call) (hk16 : ∀ (a0 : Option Nat) (a1 : Int32) (a2 : Int64) (a3 : Int32) (a4 : Int32), ∀ σ, lgP va fv σ → PIo (lgP va fv) (k16 a0 a1 a2 a3 a4 σ)) : ∀ (t : Nat) (x0 : Option Nat) (x1 : Int32) (x2 : Int64) (x3 : Int32) (x4 : Int32) (x5 : Int32) (x6 : Int64) (x7 : Int32) (σ : oSt), lgP va fv σ → PIo (lgP va fv) (ol_X6_lead_53 n call κ k16 t x0 x1 x2 x3 x4 x5 x6 x7 σ) := by
  intro t
  induction t with
  | zero => intros; exact PIoL_none
  | succ t ih =>
    intro x0 x1 x2 x3 x4 x5 x6 x7 σ h
    rw [ol_X6_lead_53]
    repeat' (with_reducible (first | assumption | (refine PIoL_gd ?_) | (refine PIoL_pf ?_ (by decide) (fun _ _ => ?_)) | (refine PIoL_si ?_ (fun _ _ => ?_)) | (refine PIoL_sj ?_ (by assumption) (fun _ _ => ?_)) | (refine PIoL_sr ?_ (fun _ _ => ?_)) | (refine PIoL_cy ?_ (by first | exact Or.inl ⟨_, by assumption⟩ | (refine Or.inr ⟨_, ?_, rfl⟩; assumption)) (fun _ _ => ?_)) | (refine PIoL_be (fun _ _ => ?_)) | (refine PIoL_na ?_ (fun _ _ => ?_)) | (refine PIoL_no ?_ (fun _ _ => ?_)) | (refine PIoL_ite ?_ ?_) | (refine PIoL_some ?_) | (exact PIoL_none) | (refine pioL_oj_X6_lead_148 hc hk16 ?_) | (refine pioL_oj_X6_lead_142 hc hk16 ih ?_) | (refine hk16 _ _ _ _ _ _ ?_)))
theorem pioL_ol_X6_lead_16  (hc : cQoL va fv call)  : ∀ (t : Nat) (x0 : Option Nat) (x1 : Int32) (x2 : Int64) (x3 : Int32) (x4 : Int32) (σ : oSt), lgP va fv σ → PIo (lgP va fv) (ol_X6_lead_16 n call κ  t x0 x1 x2 x3 x4 σ) := by
  intro t
  induction t with
  | zero => intros; exact PIoL_none
  | succ t ih =>
    intro x0 x1 x2 x3 x4 σ h
    rw [ol_X6_lead_16]
    repeat' (with_reducible (first | assumption | (refine PIoL_gd ?_) | (refine PIoL_pf ?_ (by decide) (fun _ _ => ?_)) | (refine PIoL_si ?_ (fun _ _ => ?_)) | (refine PIoL_sj ?_ (by assumption) (fun _ _ => ?_)) | (refine PIoL_sr ?_ (fun _ _ => ?_)) | (refine PIoL_cy ?_ (by first | exact Or.inl ⟨_, by assumption⟩ | (refine Or.inr ⟨_, ?_, rfl⟩; assumption)) (fun _ _ => ?_)) | (refine PIoL_be (fun _ _ => ?_)) | (refine PIoL_na ?_ (fun _ _ => ?_)) | (refine PIoL_no ?_ (fun _ _ => ?_)) | (refine PIoL_ite ?_ ?_) | (refine PIoL_some ?_) | (exact PIoL_none) | (refine pioL_ol_X6_lead_53 hc ih _ _ _ _ _ _ _ _ _ _ ?_)))
theorem pioL_ob_X6_lead  {x0 : Option Nat} {x1 : Int32} {x2 : Int32} {x3 : Int64} {σ : oSt} (hc : cQoL va fv call)  (h : lgP va fv σ) : PIo (lgP va fv) (ob_X6_lead n call κ  x0 x1 x2 x3 σ) := by
  unfold ob_X6_lead
  repeat' (with_reducible (first | assumption | (refine PIoL_gd ?_) | (refine PIoL_pf ?_ (by decide) (fun _ _ => ?_)) | (refine PIoL_si ?_ (fun _ _ => ?_)) | (refine PIoL_sj ?_ (by assumption) (fun _ _ => ?_)) | (refine PIoL_sr ?_ (fun _ _ => ?_)) | (refine PIoL_cy ?_ (by first | exact Or.inl ⟨_, by assumption⟩ | (refine Or.inr ⟨_, ?_, rfl⟩; assumption)) (fun _ _ => ?_)) | (refine PIoL_be (fun _ _ => ?_)) | (refine PIoL_na ?_ (fun _ _ => ?_)) | (refine PIoL_no ?_ (fun _ _ => ?_)) | (refine PIoL_ite ?_ ?_) | (refine PIoL_some ?_) | (exact PIoL_none) | (refine pioL_ol_X6_lead_16 hc  _ _ _ _ _ _ _ ?_)))
theorem pioL_oj_X6_tighten_278 {k98 : Option Nat → Int32 → oSt → oRs} {x0 : Option Nat} {x1 : Int32} {σ : oSt} (hc : cQoL va fv call) (hk98 : ∀ (a0 : Option Nat) (a1 : Int32), ∀ σ, lgP va fv σ → PIo (lgP va fv) (k98 a0 a1 σ)) (h : lgP va fv σ) : PIo (lgP va fv) (oj_X6_tighten_278 n call κ k98 x0 x1 σ) := by
  unfold oj_X6_tighten_278
  repeat' (with_reducible (first | assumption | (refine PIoL_gd ?_) | (refine PIoL_pf ?_ (by decide) (fun _ _ => ?_)) | (refine PIoL_si ?_ (fun _ _ => ?_)) | (refine PIoL_sj ?_ (by assumption) (fun _ _ => ?_)) | (refine PIoL_sr ?_ (fun _ _ => ?_)) | (refine PIoL_cy ?_ (by first | exact Or.inl ⟨_, by assumption⟩ | (refine Or.inr ⟨_, ?_, rfl⟩; assumption)) (fun _ _ => ?_)) | (refine PIoL_be (fun _ _ => ?_)) | (refine PIoL_na ?_ (fun _ _ => ?_)) | (refine PIoL_no ?_ (fun _ _ => ?_)) | (refine PIoL_ite ?_ ?_) | (refine PIoL_some ?_) | (exact PIoL_none) | (refine hk98 _ _ _ ?_)))
theorem pioL_oj_X6_tighten_272 {k98 : Option Nat → Int32 → oSt → oRs} {k181 : Option Nat → Int32 → Int64 → Int32 → oSt → oRs} {x0 : Option Nat} {x1 : Int32} {x2 : Int64} {x4 : Int32} {σ : oSt} (hc : cQoL va fv call) (hk98 : ∀ (a0 : Option Nat) (a1 : Int32), ∀ σ, lgP va fv σ → PIo (lgP va fv) (k98 a0 a1 σ)) (hk181 : ∀ (a0 : Option Nat) (a1 : Int32) (a2 : Int64) (a3 : Int32), ∀ σ, lgP va fv σ → PIo (lgP va fv) (k181 a0 a1 a2 a3 σ)) (h : lgP va fv σ) : PIo (lgP va fv) (oj_X6_tighten_272 n call κ k98 k181 x0 x1 x2 x4 σ) := by
  unfold oj_X6_tighten_272
  repeat' (with_reducible (first | assumption | (refine PIoL_gd ?_) | (refine PIoL_pf ?_ (by decide) (fun _ _ => ?_)) | (refine PIoL_si ?_ (fun _ _ => ?_)) | (refine PIoL_sj ?_ (by assumption) (fun _ _ => ?_)) | (refine PIoL_sr ?_ (fun _ _ => ?_)) | (refine PIoL_cy ?_ (by first | exact Or.inl ⟨_, by assumption⟩ | (refine Or.inr ⟨_, ?_, rfl⟩; assumption)) (fun _ _ => ?_)) | (refine PIoL_be (fun _ _ => ?_)) | (refine PIoL_na ?_ (fun _ _ => ?_)) | (refine PIoL_no ?_ (fun _ _ => ?_)) | (refine PIoL_ite ?_ ?_) | (refine PIoL_some ?_) | (exact PIoL_none) | (refine hk98 _ _ _ ?_) | (refine hk181 _ _ _ _ _ ?_)))
theorem pioL_ol_X6_tighten_181 {k98 : Option Nat → Int32 → oSt → oRs} (hc : cQoL va fv call) (hk98 : ∀ (a0 : Option Nat) (a1 : Int32), ∀ σ, lgP va fv σ → PIo (lgP va fv) (k98 a0 a1 σ)) : ∀ (t : Nat) (x0 : Option Nat) (x1 : Int32) (x2 : Int64) (x3 : Int32) (σ : oSt), lgP va fv σ → PIo (lgP va fv) (ol_X6_tighten_181 n call κ k98 t x0 x1 x2 x3 σ) := by
  intro t
  induction t with
  | zero => intros; exact PIoL_none
  | succ t ih =>
    intro x0 x1 x2 x3 σ h
    rw [ol_X6_tighten_181]
    repeat' (with_reducible (first | assumption | (refine PIoL_gd ?_) | (refine PIoL_pf ?_ (by decide) (fun _ _ => ?_)) | (refine PIoL_si ?_ (fun _ _ => ?_)) | (refine PIoL_sj ?_ (by assumption) (fun _ _ => ?_)) | (refine PIoL_sr ?_ (fun _ _ => ?_)) | (refine PIoL_cy ?_ (by first | exact Or.inl ⟨_, by assumption⟩ | (refine Or.inr ⟨_, ?_, rfl⟩; assumption)) (fun _ _ => ?_)) | (refine PIoL_be (fun _ _ => ?_)) | (refine PIoL_na ?_ (fun _ _ => ?_)) | (refine PIoL_no ?_ (fun _ _ => ?_)) | (refine PIoL_ite ?_ ?_) | (refine PIoL_some ?_) | (exact PIoL_none) | (refine pioL_oj_X6_tighten_278 hc hk98 ?_) | (refine pioL_oj_X6_tighten_272 hc hk98 ih ?_) | (refine hk98 _ _ _ ?_)))
theorem pioL_oj_X6_tighten_175 {k98 : Option Nat → Int32 → oSt → oRs} {x0 : Option Nat} {x1 : Int32} {x2 : Int64} {t0 : Option Nat} {t1 : Int32} {σ : oSt} (hc : cQoL va fv call) (hk98 : ∀ (a0 : Option Nat) (a1 : Int32), ∀ σ, lgP va fv σ → PIo (lgP va fv) (k98 a0 a1 σ)) (h : lgP va fv σ) : PIo (lgP va fv) (oj_X6_tighten_175 n call κ k98 x0 x1 x2 t0 t1 σ) := by
  unfold oj_X6_tighten_175
  repeat' (with_reducible (first | assumption | (refine PIoL_gd ?_) | (refine PIoL_pf ?_ (by decide) (fun _ _ => ?_)) | (refine PIoL_si ?_ (fun _ _ => ?_)) | (refine PIoL_sj ?_ (by assumption) (fun _ _ => ?_)) | (refine PIoL_sr ?_ (fun _ _ => ?_)) | (refine PIoL_cy ?_ (by first | exact Or.inl ⟨_, by assumption⟩ | (refine Or.inr ⟨_, ?_, rfl⟩; assumption)) (fun _ _ => ?_)) | (refine PIoL_be (fun _ _ => ?_)) | (refine PIoL_na ?_ (fun _ _ => ?_)) | (refine PIoL_no ?_ (fun _ _ => ?_)) | (refine PIoL_ite ?_ ?_) | (refine PIoL_some ?_) | (exact PIoL_none) | (refine pioL_ol_X6_tighten_181 hc hk98 _ _ _ _ _ _ ?_) | (refine hk98 _ _ _ ?_)))
theorem pioL_oj_X6_tighten_174 {k98 : Option Nat → Int32 → oSt → oRs} {x0 : Option Nat} {x1 : Int32} {x2 : Int64} {t0 : Option Nat} {σ : oSt} (hc : cQoL va fv call) (hk98 : ∀ (a0 : Option Nat) (a1 : Int32), ∀ σ, lgP va fv σ → PIo (lgP va fv) (k98 a0 a1 σ)) (h : lgP va fv σ) : PIo (lgP va fv) (oj_X6_tighten_174 n call κ k98 x0 x1 x2 t0 σ) := by
  unfold oj_X6_tighten_174
  repeat' (with_reducible (first | assumption | (refine PIoL_gd ?_) | (refine PIoL_pf ?_ (by decide) (fun _ _ => ?_)) | (refine PIoL_si ?_ (fun _ _ => ?_)) | (refine PIoL_sj ?_ (by assumption) (fun _ _ => ?_)) | (refine PIoL_sr ?_ (fun _ _ => ?_)) | (refine PIoL_cy ?_ (by first | exact Or.inl ⟨_, by assumption⟩ | (refine Or.inr ⟨_, ?_, rfl⟩; assumption)) (fun _ _ => ?_)) | (refine PIoL_be (fun _ _ => ?_)) | (refine PIoL_na ?_ (fun _ _ => ?_)) | (refine PIoL_no ?_ (fun _ _ => ?_)) | (refine PIoL_ite ?_ ?_) | (refine PIoL_some ?_) | (exact PIoL_none) | (refine pioL_oj_X6_tighten_175 hc hk98 ?_) | (refine hk98 _ _ _ ?_)))
theorem pioL_ol_X6_tighten_98  (hc : cQoL va fv call)  : ∀ (t : Nat) (x0 : Option Nat) (x1 : Int32) (σ : oSt), lgP va fv σ → PIo (lgP va fv) (ol_X6_tighten_98 n call κ  t x0 x1 σ) := by
  intro t
  induction t with
  | zero => intros; exact PIoL_none
  | succ t ih =>
    intro x0 x1 σ h
    rw [ol_X6_tighten_98]
    repeat' (with_reducible (first | assumption | (refine PIoL_gd ?_) | (refine PIoL_pf ?_ (by decide) (fun _ _ => ?_)) | (refine PIoL_si ?_ (fun _ _ => ?_)) | (refine PIoL_sj ?_ (by assumption) (fun _ _ => ?_)) | (refine PIoL_sr ?_ (fun _ _ => ?_)) | (refine PIoL_cy ?_ (by first | exact Or.inl ⟨_, by assumption⟩ | (refine Or.inr ⟨_, ?_, rfl⟩; assumption)) (fun _ _ => ?_)) | (refine PIoL_be (fun _ _ => ?_)) | (refine PIoL_na ?_ (fun _ _ => ?_)) | (refine PIoL_no ?_ (fun _ _ => ?_)) | (refine PIoL_ite ?_ ?_) | (refine PIoL_some ?_) | (exact PIoL_none) | (refine pioL_oj_X6_tighten_174 hc ih ?_) | (refine pioL_oj_X6_tighten_175 hc ih ?_)))
theorem pioL_oj_X6_tighten_96  {x0 : Option Nat} {σ : oSt} (hc : cQoL va fv call)  (h : lgP va fv σ) : PIo (lgP va fv) (oj_X6_tighten_96 n call κ  x0 σ) := by
  unfold oj_X6_tighten_96
  repeat' (with_reducible (first | assumption | (refine PIoL_gd ?_) | (refine PIoL_pf ?_ (by decide) (fun _ _ => ?_)) | (refine PIoL_si ?_ (fun _ _ => ?_)) | (refine PIoL_sj ?_ (by assumption) (fun _ _ => ?_)) | (refine PIoL_sr ?_ (fun _ _ => ?_)) | (refine PIoL_cy ?_ (by first | exact Or.inl ⟨_, by assumption⟩ | (refine Or.inr ⟨_, ?_, rfl⟩; assumption)) (fun _ _ => ?_)) | (refine PIoL_be (fun _ _ => ?_)) | (refine PIoL_na ?_ (fun _ _ => ?_)) | (refine PIoL_no ?_ (fun _ _ => ?_)) | (refine PIoL_ite ?_ ?_) | (refine PIoL_some ?_) | (exact PIoL_none) | (refine pioL_ol_X6_tighten_98 hc  _ _ _ _ ?_)))
theorem pioL_oj_X6_tighten_87 {k2 : Option Nat → Int32 → oSt → oRs} {x0 : Option Nat} {x1 : Int32} {t0 : Option Nat} {t1 : Int32} {σ : oSt} (hc : cQoL va fv call) (hk2 : ∀ (a0 : Option Nat) (a1 : Int32), ∀ σ, lgP va fv σ → PIo (lgP va fv) (k2 a0 a1 σ)) (h : lgP va fv σ) : PIo (lgP va fv) (oj_X6_tighten_87 n call κ k2 x0 x1 t0 t1 σ) := by
  unfold oj_X6_tighten_87
  repeat' (with_reducible (first | assumption | (refine PIoL_gd ?_) | (refine PIoL_pf ?_ (by decide) (fun _ _ => ?_)) | (refine PIoL_si ?_ (fun _ _ => ?_)) | (refine PIoL_sj ?_ (by assumption) (fun _ _ => ?_)) | (refine PIoL_sr ?_ (fun _ _ => ?_)) | (refine PIoL_cy ?_ (by first | exact Or.inl ⟨_, by assumption⟩ | (refine Or.inr ⟨_, ?_, rfl⟩; assumption)) (fun _ _ => ?_)) | (refine PIoL_be (fun _ _ => ?_)) | (refine PIoL_na ?_ (fun _ _ => ?_)) | (refine PIoL_no ?_ (fun _ _ => ?_)) | (refine PIoL_ite ?_ ?_) | (refine PIoL_some ?_) | (exact PIoL_none) | (refine hk2 _ _ _ ?_)))
theorem pioL_oj_X6_tighten_58 {k2 : Option Nat → Int32 → oSt → oRs} {x0 : Option Nat} {x1 : Int32} {σ : oSt} (hc : cQoL va fv call) (hk2 : ∀ (a0 : Option Nat) (a1 : Int32), ∀ σ, lgP va fv σ → PIo (lgP va fv) (k2 a0 a1 σ)) (h : lgP va fv σ) : PIo (lgP va fv) (oj_X6_tighten_58 n call κ k2 x0 x1 σ) := by
  unfold oj_X6_tighten_58
  repeat' (with_reducible (first | assumption | (refine PIoL_gd ?_) | (refine PIoL_pf ?_ (by decide) (fun _ _ => ?_)) | (refine PIoL_si ?_ (fun _ _ => ?_)) | (refine PIoL_sj ?_ (by assumption) (fun _ _ => ?_)) | (refine PIoL_sr ?_ (fun _ _ => ?_)) | (refine PIoL_cy ?_ (by first | exact Or.inl ⟨_, by assumption⟩ | (refine Or.inr ⟨_, ?_, rfl⟩; assumption)) (fun _ _ => ?_)) | (refine PIoL_be (fun _ _ => ?_)) | (refine PIoL_na ?_ (fun _ _ => ?_)) | (refine PIoL_no ?_ (fun _ _ => ?_)) | (refine PIoL_ite ?_ ?_) | (refine PIoL_some ?_) | (exact PIoL_none) | (refine pioL_oj_X6_tighten_87 hc hk2 ?_) | (refine hk2 _ _ _ ?_)))
theorem pioL_ol_X6_tighten_2  (hc : cQoL va fv call)  : ∀ (t : Nat) (x0 : Option Nat) (x1 : Int32) (σ : oSt), lgP va fv σ → PIo (lgP va fv) (ol_X6_tighten_2 n call κ  t x0 x1 σ) := by
  intro t
  induction t with
  | zero => intros; exact PIoL_none
  | succ t ih =>
    intro x0 x1 σ h
    rw [ol_X6_tighten_2]
    repeat' (with_reducible (first | assumption | (refine PIoL_gd ?_) | (refine PIoL_pf ?_ (by decide) (fun _ _ => ?_)) | (refine PIoL_si ?_ (fun _ _ => ?_)) | (refine PIoL_sj ?_ (by assumption) (fun _ _ => ?_)) | (refine PIoL_sr ?_ (fun _ _ => ?_)) | (refine PIoL_cy ?_ (by first | exact Or.inl ⟨_, by assumption⟩ | (refine Or.inr ⟨_, ?_, rfl⟩; assumption)) (fun _ _ => ?_)) | (refine PIoL_be (fun _ _ => ?_)) | (refine PIoL_na ?_ (fun _ _ => ?_)) | (refine PIoL_no ?_ (fun _ _ => ?_)) | (refine PIoL_ite ?_ ?_) | (refine PIoL_some ?_) | (exact PIoL_none) | (refine pioL_oj_X6_tighten_96 hc  ?_) | (refine pioL_oj_X6_tighten_58 hc ih ?_)))
theorem pioL_ob_X6_tighten  {x0 : Option Nat} {σ : oSt} (hc : cQoL va fv call)  (h : lgP va fv σ) : PIo (lgP va fv) (ob_X6_tighten n call κ  x0 σ) := by
  unfold ob_X6_tighten
  repeat' (with_reducible (first | assumption | (refine PIoL_gd ?_) | (refine PIoL_pf ?_ (by decide) (fun _ _ => ?_)) | (refine PIoL_si ?_ (fun _ _ => ?_)) | (refine PIoL_sj ?_ (by assumption) (fun _ _ => ?_)) | (refine PIoL_sr ?_ (fun _ _ => ?_)) | (refine PIoL_cy ?_ (by first | exact Or.inl ⟨_, by assumption⟩ | (refine Or.inr ⟨_, ?_, rfl⟩; assumption)) (fun _ _ => ?_)) | (refine PIoL_be (fun _ _ => ?_)) | (refine PIoL_na ?_ (fun _ _ => ?_)) | (refine PIoL_no ?_ (fun _ _ => ?_)) | (refine PIoL_ite ?_ ?_) | (refine PIoL_some ?_) | (exact PIoL_none) | (refine pioL_ol_X6_tighten_2 hc  _ _ _ _ ?_)))
theorem pioL_oj_X6_limit_21  {t0 : Option Nat} {σ : oSt} (hc : cQoL va fv call)  (h : lgP va fv σ) : PIo (lgP va fv) (oj_X6_limit_21 n call κ  t0 σ) := by
  unfold oj_X6_limit_21
  repeat' (with_reducible (first | assumption | (refine PIoL_gd ?_) | (refine PIoL_pf ?_ (by decide) (fun _ _ => ?_)) | (refine PIoL_si ?_ (fun _ _ => ?_)) | (refine PIoL_sj ?_ (by assumption) (fun _ _ => ?_)) | (refine PIoL_sr ?_ (fun _ _ => ?_)) | (refine PIoL_cy ?_ (by first | exact Or.inl ⟨_, by assumption⟩ | (refine Or.inr ⟨_, ?_, rfl⟩; assumption)) (fun _ _ => ?_)) | (refine PIoL_be (fun _ _ => ?_)) | (refine PIoL_na ?_ (fun _ _ => ?_)) | (refine PIoL_no ?_ (fun _ _ => ?_)) | (refine PIoL_ite ?_ ?_) | (refine PIoL_some ?_) | (exact PIoL_none)))
theorem pioL_ob_X6_limit  {x0 : Option Nat} {x1 : Int32} {x2 : Int32} {x3 : Int64} {σ : oSt} (hc : cQoL va fv call)  (h : lgP va fv σ) : PIo (lgP va fv) (ob_X6_limit n call κ  x0 x1 x2 x3 σ) := by
  unfold ob_X6_limit
  repeat' (with_reducible (first | assumption | (refine PIoL_gd ?_) | (refine PIoL_pf ?_ (by decide) (fun _ _ => ?_)) | (refine PIoL_si ?_ (fun _ _ => ?_)) | (refine PIoL_sj ?_ (by assumption) (fun _ _ => ?_)) | (refine PIoL_sr ?_ (fun _ _ => ?_)) | (refine PIoL_cy ?_ (by first | exact Or.inl ⟨_, by assumption⟩ | (refine Or.inr ⟨_, ?_, rfl⟩; assumption)) (fun _ _ => ?_)) | (refine PIoL_be (fun _ _ => ?_)) | (refine PIoL_na ?_ (fun _ _ => ?_)) | (refine PIoL_no ?_ (fun _ _ => ?_)) | (refine PIoL_ite ?_ ?_) | (refine PIoL_some ?_) | (exact PIoL_none) | (refine PIoL_cv (cQoL.c42 hc _ _ _ _ _ ?_) (fun _ _ => ?_)) | (refine PIoL_cv (cQoL.c43 hc _ _ ?_) (fun _ _ => ?_)) | (refine pioL_oj_X6_limit_21 hc  ?_)))
theorem pioL_ol_X2_insteadOf_2  (hc : cQoL va fv call)  : ∀ (t : Nat) (x0 : Option Nat) (x1 : Option Nat) (x2 : Int32) (σ : oSt), lgP va fv σ → PIo (lgP va fv) (ol_X2_insteadOf_2 n call κ  t x0 x1 x2 σ) := by
  intro t
  induction t with
  | zero => intros; exact PIoL_none
  | succ t ih =>
    intro x0 x1 x2 σ h
    rw [ol_X2_insteadOf_2]
    repeat' (with_reducible (first | assumption | (refine PIoL_gd ?_) | (refine PIoL_pf ?_ (by decide) (fun _ _ => ?_)) | (refine PIoL_si ?_ (fun _ _ => ?_)) | (refine PIoL_sj ?_ (by assumption) (fun _ _ => ?_)) | (refine PIoL_sr ?_ (fun _ _ => ?_)) | (refine PIoL_cy ?_ (by first | exact Or.inl ⟨_, by assumption⟩ | (refine Or.inr ⟨_, ?_, rfl⟩; assumption)) (fun _ _ => ?_)) | (refine PIoL_be (fun _ _ => ?_)) | (refine PIoL_na ?_ (fun _ _ => ?_)) | (refine PIoL_no ?_ (fun _ _ => ?_)) | (refine PIoL_ite ?_ ?_) | (refine PIoL_some ?_) | (exact PIoL_none) | (refine ih _ _ _ _ ?_)))
theorem pioL_ob_X2_insteadOf  {x0 : Option Nat} {x1 : Option Nat} {σ : oSt} (hc : cQoL va fv call)  (h : lgP va fv σ) : PIo (lgP va fv) (ob_X2_insteadOf n call κ  x0 x1 σ) := by
  unfold ob_X2_insteadOf
  repeat' (with_reducible (first | assumption | (refine PIoL_gd ?_) | (refine PIoL_pf ?_ (by decide) (fun _ _ => ?_)) | (refine PIoL_si ?_ (fun _ _ => ?_)) | (refine PIoL_sj ?_ (by assumption) (fun _ _ => ?_)) | (refine PIoL_sr ?_ (fun _ _ => ?_)) | (refine PIoL_cy ?_ (by first | exact Or.inl ⟨_, by assumption⟩ | (refine Or.inr ⟨_, ?_, rfl⟩; assumption)) (fun _ _ => ?_)) | (refine PIoL_be (fun _ _ => ?_)) | (refine PIoL_na ?_ (fun _ _ => ?_)) | (refine PIoL_no ?_ (fun _ _ => ?_)) | (refine PIoL_ite ?_ ?_) | (refine PIoL_some ?_) | (exact PIoL_none) | (refine pioL_ol_X2_insteadOf_2 hc  _ _ _ _ _ ?_)))
theorem pioL_oj_X2_recall_128  {x0 : Option Nat} {x3 : Option Nat} {t0 : Option Nat} {t1 : Option Nat} {σ : oSt} (hc : cQoL va fv call)  (h : lgP va fv σ) : PIo (lgP va fv) (oj_X2_recall_128 n call κ  x0 x3 t0 t1 σ) := by
  unfold oj_X2_recall_128
  repeat' (with_reducible (first | assumption | (refine PIoL_gd ?_) | (refine PIoL_pf ?_ (by decide) (fun _ _ => ?_)) | (refine PIoL_si ?_ (fun _ _ => ?_)) | (refine PIoL_sj ?_ (by assumption) (fun _ _ => ?_)) | (refine PIoL_sr ?_ (fun _ _ => ?_)) | (refine PIoL_cy ?_ (by first | exact Or.inl ⟨_, by assumption⟩ | (refine Or.inr ⟨_, ?_, rfl⟩; assumption)) (fun _ _ => ?_)) | (refine PIoL_be (fun _ _ => ?_)) | (refine PIoL_na ?_ (fun _ _ => ?_)) | (refine PIoL_no ?_ (fun _ _ => ?_)) | (refine PIoL_ite ?_ ?_) | (refine PIoL_some ?_) | (exact PIoL_none)))
theorem pioL_oj_X2_recall_65  {x0 : Option Nat} {x2 : Option Nat} {t0 : Option Nat} {t1 : Option Nat} {σ : oSt} (hc : cQoL va fv call)  (h : lgP va fv σ) : PIo (lgP va fv) (oj_X2_recall_65 n call κ  x0 x2 t0 t1 σ) := by
  unfold oj_X2_recall_65
  repeat' (with_reducible (first | assumption | (refine PIoL_gd ?_) | (refine PIoL_pf ?_ (by decide) (fun _ _ => ?_)) | (refine PIoL_si ?_ (fun _ _ => ?_)) | (refine PIoL_sj ?_ (by assumption) (fun _ _ => ?_)) | (refine PIoL_sr ?_ (fun _ _ => ?_)) | (refine PIoL_cy ?_ (by first | exact Or.inl ⟨_, by assumption⟩ | (refine Or.inr ⟨_, ?_, rfl⟩; assumption)) (fun _ _ => ?_)) | (refine PIoL_be (fun _ _ => ?_)) | (refine PIoL_na ?_ (fun _ _ => ?_)) | (refine PIoL_no ?_ (fun _ _ => ?_)) | (refine PIoL_ite ?_ ?_) | (refine PIoL_some ?_) | (exact PIoL_none) | (refine PIoL_rn (cQoL.c45 hc _ _ _ ?_) (fun _ _ _ => ?_)) | (refine pioL_oj_X2_recall_128 hc  ?_)))
theorem pioL_ob_X2_recall  {x0 : Option Nat} {x1 : Int32} {σ : oSt} (hc : cQoL va fv call)  (h : lgP va fv σ) : PIo (lgP va fv) (ob_X2_recall n call κ  x0 x1 σ) := by
  unfold ob_X2_recall
  repeat' (with_reducible (first | assumption | (refine PIoL_gd ?_) | (refine PIoL_pf ?_ (by decide) (fun _ _ => ?_)) | (refine PIoL_si ?_ (fun _ _ => ?_)) | (refine PIoL_sj ?_ (by assumption) (fun _ _ => ?_)) | (refine PIoL_sr ?_ (fun _ _ => ?_)) | (refine PIoL_cy ?_ (by first | exact Or.inl ⟨_, by assumption⟩ | (refine Or.inr ⟨_, ?_, rfl⟩; assumption)) (fun _ _ => ?_)) | (refine PIoL_be (fun _ _ => ?_)) | (refine PIoL_na ?_ (fun _ _ => ?_)) | (refine PIoL_no ?_ (fun _ _ => ?_)) | (refine PIoL_ite ?_ ?_) | (refine PIoL_some ?_) | (exact PIoL_none) | (refine pioL_oj_X2_recall_65 hc  ?_)))
theorem pioL_ob_X1_side  {x0 : Option Nat} {x1 : Int32} {σ : oSt} (hc : cQoL va fv call)  (h : lgP va fv σ) : PIo (lgP va fv) (ob_X1_side n call κ  x0 x1 σ) := by
  unfold ob_X1_side
  repeat' (with_reducible (first | assumption | (refine PIoL_gd ?_) | (refine PIoL_pf ?_ (by decide) (fun _ _ => ?_)) | (refine PIoL_si ?_ (fun _ _ => ?_)) | (refine PIoL_sj ?_ (by assumption) (fun _ _ => ?_)) | (refine PIoL_sr ?_ (fun _ _ => ?_)) | (refine PIoL_cy ?_ (by first | exact Or.inl ⟨_, by assumption⟩ | (refine Or.inr ⟨_, ?_, rfl⟩; assumption)) (fun _ _ => ?_)) | (refine PIoL_be (fun _ _ => ?_)) | (refine PIoL_na ?_ (fun _ _ => ?_)) | (refine PIoL_no ?_ (fun _ _ => ?_)) | (refine PIoL_ite ?_ ?_) | (refine PIoL_some ?_) | (exact PIoL_none)))
theorem pioL_ob_X6_isLimited  {x0 : Option Nat} {x1 : Int32} {x2 : Int32} {x3 : Int64} {σ : oSt} (hc : cQoL va fv call)  (h : lgP va fv σ) : PIo (lgP va fv) (ob_X6_isLimited n call κ  x0 x1 x2 x3 σ) := by
  unfold ob_X6_isLimited
  repeat' (with_reducible (first | assumption | (refine PIoL_gd ?_) | (refine PIoL_pf ?_ (by decide) (fun _ _ => ?_)) | (refine PIoL_si ?_ (fun _ _ => ?_)) | (refine PIoL_sj ?_ (by assumption) (fun _ _ => ?_)) | (refine PIoL_sr ?_ (fun _ _ => ?_)) | (refine PIoL_cy ?_ (by first | exact Or.inl ⟨_, by assumption⟩ | (refine Or.inr ⟨_, ?_, rfl⟩; assumption)) (fun _ _ => ?_)) | (refine PIoL_be (fun _ _ => ?_)) | (refine PIoL_na ?_ (fun _ _ => ?_)) | (refine PIoL_no ?_ (fun _ _ => ?_)) | (refine PIoL_ite ?_ ?_) | (refine PIoL_some ?_) | (exact PIoL_none)))
theorem pioL_oj_X1_meet_248 {k62 : Option Nat → Option Nat → Int32 → Int32 → Int32 → Int32 → Int32 → oSt → oRs} {x0 : Option Nat} {x1 : Option Nat} {x2 : Int32} {x3 : Int32} {x4 : Int32} {x5 : Int32} {x6 : Int32} {σ : oSt} (hc : cQoL va fv call) (hk62 : ∀ (a0 : Option Nat) (a1 : Option Nat) (a2 : Int32) (a3 : Int32) (a4 : Int32) (a5 : Int32) (a6 : Int32), ∀ σ, lgP va fv σ → PIo (lgP va fv) (k62 a0 a1 a2 a3 a4 a5 a6 σ)) (h : lgP va fv σ) : PIo (lgP va fv) (oj_X1_meet_248 n call κ k62 x0 x1 x2 x3 x4 x5 x6 σ) := by
  unfold oj_X1_meet_248
  repeat' (with_reducible (first | assumption | (refine PIoL_gd ?_) | (refine PIoL_pf ?_ (by decide) (fun _ _ => ?_)) | (refine PIoL_si ?_ (fun _ _ => ?_)) | (refine PIoL_sj ?_ (by assumption) (fun _ _ => ?_)) | (refine PIoL_sr ?_ (fun _ _ => ?_)) | (refine PIoL_cy ?_ (by first | exact Or.inl ⟨_, by assumption⟩ | (refine Or.inr ⟨_, ?_, rfl⟩; assumption)) (fun _ _ => ?_)) | (refine PIoL_be (fun _ _ => ?_)) | (refine PIoL_na ?_ (fun _ _ => ?_)) | (refine PIoL_no ?_ (fun _ _ => ?_)) | (refine PIoL_ite ?_ ?_) | (refine PIoL_some ?_) | (exact PIoL_none) | (refine hk62 _ _ _ _ _ _ _ _ ?_)))
theorem pioL_oj_X1_meet_230 {k62 : Option Nat → Option Nat → Int32 → Int32 → Int32 → Int32 → Int32 → oSt → oRs} {x0 : Option Nat} {x1 : Option Nat} {x2 : Int32} {x3 : Int32} {x4 : Int32} {x5 : Int32} {x6 : Int32} {x7 : Int64} {x9 : Int32} {x10 : Int32} {x11 : Int32} {σ : oSt} (hc : cQoL va fv call) (hk62 : ∀ (a0 : Option Nat) (a1 : Option Nat) (a2 : Int32) (a3 : Int32) (a4 : Int32) (a5 : Int32) (a6 : Int32), ∀ σ, lgP va fv σ → PIo (lgP va fv) (k62 a0 a1 a2 a3 a4 a5 a6 σ)) (h : lgP va fv σ) : PIo (lgP va fv) (oj_X1_meet_230 n call κ k62 x0 x1 x2 x3 x4 x5 x6 x7 x9 x10 x11 σ) := by
  unfold oj_X1_meet_230
  repeat' (with_reducible (first | assumption | (refine PIoL_gd ?_) | (refine PIoL_pf ?_ (by decide) (fun _ _ => ?_)) | (refine PIoL_si ?_ (fun _ _ => ?_)) | (refine PIoL_sj ?_ (by assumption) (fun _ _ => ?_)) | (refine PIoL_sr ?_ (fun _ _ => ?_)) | (refine PIoL_cy ?_ (by first | exact Or.inl ⟨_, by assumption⟩ | (refine Or.inr ⟨_, ?_, rfl⟩; assumption)) (fun _ _ => ?_)) | (refine PIoL_be (fun _ _ => ?_)) | (refine PIoL_na ?_ (fun _ _ => ?_)) | (refine PIoL_no ?_ (fun _ _ => ?_)) | (refine PIoL_ite ?_ ?_) | (refine PIoL_some ?_) | (exact PIoL_none) | (refine PIoL_cv (cQoL.c44 hc _ _ _ _ _ ?_) (fun _ _ => ?_)) | (refine pioL_oj_X1_meet_248 hc hk62 ?_) | (refine hk62 _ _ _ _ _ _ _ _ ?_)))
theorem pioL_oj_X1_meet_225 {k62 : Option Nat → Option Nat → Int32 → Int32 → Int32 → Int32 → Int32 → oSt → oRs} {x0 : Option Nat} {x1 : Option Nat} {x2 : Int32} {x3 : Int32} {x5 : Int32} {x6 : Int32} {t0 : Int32} {σ : oSt} (hc : cQoL va fv call) (hk62 : ∀ (a0 : Option Nat) (a1 : Option Nat) (a2 : Int32) (a3 : Int32) (a4 : Int32) (a5 : Int32) (a6 : Int32), ∀ σ, lgP va fv σ → PIo (lgP va fv) (k62 a0 a1 a2 a3 a4 a5 a6 σ)) (h : lgP va fv σ) : PIo (lgP va fv) (oj_X1_meet_225 n call κ k62 x0 x1 x2 x3 x5 x6 t0 σ) := by
  unfold oj_X1_meet_225
  repeat' (with_reducible (first | assumption | (refine PIoL_gd ?_) | (refine PIoL_pf ?_ (by decide) (fun _ _ => ?_)) | (refine PIoL_si ?_ (fun _ _ => ?_)) | (refine PIoL_sj ?_ (by assumption) (fun _ _ => ?_)) | (refine PIoL_sr ?_ (fun _ _ => ?_)) | (refine PIoL_cy ?_ (by first | exact Or.inl ⟨_, by assumption⟩ | (refine Or.inr ⟨_, ?_, rfl⟩; assumption)) (fun _ _ => ?_)) | (refine PIoL_be (fun _ _ => ?_)) | (refine PIoL_na ?_ (fun _ _ => ?_)) | (refine PIoL_no ?_ (fun _ _ => ?_)) | (refine PIoL_ite ?_ ?_) | (refine PIoL_some ?_) | (exact PIoL_none) | (refine pioL_oj_X1_meet_248 hc hk62 ?_) | (refine hk62 _ _ _ _ _ _ _ _ ?_)))
theorem pioL_oj_X1_meet_224 {k62 : Option Nat → Option Nat → Int32 → Int32 → Int32 → Int32 → Int32 → oSt → oRs} {x0 : Option Nat} {x1 : Option Nat} {x2 : Int32} {x3 : Int32} {x5 : Int32} {x6 : Int32} {σ : oSt} (hc : cQoL va fv call) (hk62 : ∀ (a0 : Option Nat) (a1 : Option Nat) (a2 : Int32) (a3 : Int32) (a4 : Int32) (a5 : Int32) (a6 : Int32), ∀ σ, lgP va fv σ → PIo (lgP va fv) (k62 a0 a1 a2 a3 a4 a5 a6 σ)) (h : lgP va fv σ) : PIo (lgP va fv) (oj_X1_meet_224 n call κ k62 x0 x1 x2 x3 x5 x6 σ) := by
  unfold oj_X1_meet_224
  repeat' (with_reducible (first | assumption | (refine PIoL_gd ?_) | (refine PIoL_pf ?_ (by decide) (fun _ _ => ?_)) | (refine PIoL_si ?_ (fun _ _ => ?_)) | (refine PIoL_sj ?_ (by assumption) (fun _ _ => ?_)) | (refine PIoL_sr ?_ (fun _ _ => ?_)) | (refine PIoL_cy ?_ (by first | exact Or.inl ⟨_, by assumption⟩ | (refine Or.inr ⟨_, ?_, rfl⟩; assumption)) (fun _ _ => ?_)) | (refine PIoL_be (fun _ _ => ?_)) | (refine PIoL_na ?_ (fun _ _ => ?_)) | (refine PIoL_no ?_ (fun _ _ => ?_)) | (refine PIoL_ite ?_ ?_) | (refine PIoL_some ?_) | (exact PIoL_none) | (refine pioL_oj_X1_meet_225 hc hk62 ?_) | (refine hk62 _ _ _ _ _ _ _ _ ?_)))
theorem pioL_oj_X1_meet_188 {k62 : Option Nat → Option Nat → Int32 → Int32 → Int32 → Int32 → Int32 → oSt → oRs} {x0 : Option Nat} {x1 : Option Nat} {x2 : Int32} {x3 : Int32} {x4 : Int32} {x5 : Int32} {x6 : Int32} {x7 : Int64} {x9 : Int32} {x10 : Int32} {t0 : Int32} {σ : oSt} (hc : cQoL va fv call) (hk62 : ∀ (a0 : Option Nat) (a1 : Option Nat) (a2 : Int32) (a3 : Int32) (a4 : Int32) (a5 : Int32) (a6 : Int32), ∀ σ, lgP va fv σ → PIo (lgP va fv) (k62 a0 a1 a2 a3 a4 a5 a6 σ)) (h : lgP va fv σ) : PIo (lgP va fv) (oj_X1_meet_188 n call κ k62 x0 x1 x2 x3 x4 x5 x6 x7 x9 x10 t0 σ) := by
  unfold oj_X1_meet_188
  repeat' (with_reducible (first | assumption | (refine PIoL_gd ?_) | (refine PIoL_pf ?_ (by decide) (fun _ _ => ?_)) | (refine PIoL_si ?_ (fun _ _ => ?_)) | (refine PIoL_sj ?_ (by assumption) (fun _ _ => ?_)) | (refine PIoL_sr ?_ (fun _ _ => ?_)) | (refine PIoL_cy ?_ (by first | exact Or.inl ⟨_, by assumption⟩ | (refine Or.inr ⟨_, ?_, rfl⟩; assumption)) (fun _ _ => ?_)) | (refine PIoL_be (fun _ _ => ?_)) | (refine PIoL_na ?_ (fun _ _ => ?_)) | (refine PIoL_no ?_ (fun _ _ => ?_)) | (refine PIoL_ite ?_ ?_) | (refine PIoL_some ?_) | (exact PIoL_none) | (refine PIoL_in (cQoL.c48 hc _ _ _ _ _ ?_) (fun _ _ _ => ?_)) | (refine pioL_oj_X1_meet_230 hc hk62 ?_) | (refine pioL_oj_X1_meet_224 hc hk62 ?_) | (refine pioL_oj_X1_meet_225 hc hk62 ?_) | (refine hk62 _ _ _ _ _ _ _ _ ?_)))
theorem pioL_oj_X1_meet_183 {k62 : Option Nat → Option Nat → Int32 → Int32 → Int32 → Int32 → Int32 → oSt → oRs} {x0 : Option Nat} {x1 : Option Nat} {x2 : Int32} {x3 : Int32} {x4 : Int32} {x5 : Int32} {x6 : Int32} {x7 : Int64} {x9 : Int32} {x10 : Int32} {σ : oSt} (hc : cQoL va fv call) (hk62 : ∀ (a0 : Option Nat) (a1 : Option Nat) (a2 : Int32) (a3 : Int32) (a4 : Int32) (a5 : Int32) (a6 : Int32), ∀ σ, lgP va fv σ → PIo (lgP va fv) (k62 a0 a1 a2 a3 a4 a5 a6 σ)) (h : lgP va fv σ) : PIo (lgP va fv) (oj_X1_meet_183 n call κ k62 x0 x1 x2 x3 x4 x5 x6 x7 x9 x10 σ) := by
  unfold oj_X1_meet_183
  repeat' (with_reducible (first | assumption | (refine PIoL_gd ?_) | (refine PIoL_pf ?_ (by decide) (fun _ _ => ?_)) | (refine PIoL_si ?_ (fun _ _ => ?_)) | (refine PIoL_sj ?_ (by assumption) (fun _ _ => ?_)) | (refine PIoL_sr ?_ (fun _ _ => ?_)) | (refine PIoL_cy ?_ (by first | exact Or.inl ⟨_, by assumption⟩ | (refine Or.inr ⟨_, ?_, rfl⟩; assumption)) (fun _ _ => ?_)) | (refine PIoL_be (fun _ _ => ?_)) | (refine PIoL_na ?_ (fun _ _ => ?_)) | (refine PIoL_no ?_ (fun _ _ => ?_)) | (refine PIoL_ite ?_ ?_) | (refine PIoL_some ?_) | (exact PIoL_none) | (refine pioL_oj_X1_meet_188 hc hk62 ?_) | (refine hk62 _ _ _ _ _ _ _ _ ?_)))
theorem pioL_oj_X1_meet_180 {k62 : Option Nat → Option Nat → Int32 → Int32 → Int32 → Int32 → Int32 → oSt → oRs} {x0 : Option Nat} {x1 : Option Nat} {x2 : Int32} {x3 : Int32} {x4 : Int32} {x5 : Int32} {x6 : Int32} {x7 : Int64} {x9 : Int32} {x10 : Int32} {t0 : Int32} {t1 : Int32} {σ : oSt} (hc : cQoL va fv call) (hk62 : ∀ (a0 : Option Nat) (a1 : Option Nat) (a2 : Int32) (a3 : Int32) (a4 : Int32) (a5 : Int32) (a6 : Int32), ∀ σ, lgP va fv σ → PIo (lgP va fv) (k62 a0 a1 a2 a3 a4 a5 a6 σ)) (h : lgP va fv σ) : PIo (lgP va fv) (oj_X1_meet_180 n call κ k62 x0 x1 x2 x3 x4 x5 x6 x7 x9 x10 t0 t1 σ) := by
  unfold oj_X1_meet_180
  repeat' (with_reducible (first | assumption | (refine PIoL_gd ?_) | (refine PIoL_pf ?_ (by decide) (fun _ _ => ?_)) | (refine PIoL_si ?_ (fun _ _ => ?_)) | (refine PIoL_sj ?_ (by assumption) (fun _ _ => ?_)) | (refine PIoL_sr ?_ (fun _ _ => ?_)) | (refine PIoL_cy ?_ (by first | exact Or.inl ⟨_, by assumption⟩ | (refine Or.inr ⟨_, ?_, rfl⟩; assumption)) (fun _ _ => ?_)) | (refine PIoL_be (fun _ _ => ?_)) | (refine PIoL_na ?_ (fun _ _ => ?_)) | (refine PIoL_no ?_ (fun _ _ => ?_)) | (refine PIoL_ite ?_ ?_) | (refine PIoL_some ?_) | (exact PIoL_none) | (refine pioL_oj_X1_meet_183 hc hk62 ?_) | (refine pioL_oj_X1_meet_188 hc hk62 ?_) | (refine hk62 _ _ _ _ _ _ _ _ ?_)))
theorem pioL_oj_X1_meet_170 {k62 : Option Nat → Option Nat → Int32 → Int32 → Int32 → Int32 → Int32 → oSt → oRs} {x0 : Option Nat} {x1 : Option Nat} {x2 : Int32} {x3 : Int32} {x4 : Int32} {x5 : Int32} {x6 : Int32} {x7 : Int64} {x9 : Int32} {x10 : Int32} {t0 : Int32} {σ : oSt} (hc : cQoL va fv call) (hk62 : ∀ (a0 : Option Nat) (a1 : Option Nat) (a2 : Int32) (a3 : Int32) (a4 : Int32) (a5 : Int32) (a6 : Int32), ∀ σ, lgP va fv σ → PIo (lgP va fv) (k62 a0 a1 a2 a3 a4 a5 a6 σ)) (h : lgP va fv σ) : PIo (lgP va fv) (oj_X1_meet_170 n call κ k62 x0 x1 x2 x3 x4 x5 x6 x7 x9 x10 t0 σ) := by
  unfold oj_X1_meet_170
  repeat' (with_reducible (first | assumption | (refine PIoL_gd ?_) | (refine PIoL_pf ?_ (by decide) (fun _ _ => ?_)) | (refine PIoL_si ?_ (fun _ _ => ?_)) | (refine PIoL_sj ?_ (by assumption) (fun _ _ => ?_)) | (refine PIoL_sr ?_ (fun _ _ => ?_)) | (refine PIoL_cy ?_ (by first | exact Or.inl ⟨_, by assumption⟩ | (refine Or.inr ⟨_, ?_, rfl⟩; assumption)) (fun _ _ => ?_)) | (refine PIoL_be (fun _ _ => ?_)) | (refine PIoL_na ?_ (fun _ _ => ?_)) | (refine PIoL_no ?_ (fun _ _ => ?_)) | (refine PIoL_ite ?_ ?_) | (refine PIoL_some ?_) | (exact PIoL_none) | (refine pioL_oj_X1_meet_180 hc hk62 ?_) | (refine hk62 _ _ _ _ _ _ _ _ ?_)))
theorem pioL_oj_X1_meet_165 {k62 : Option Nat → Option Nat → Int32 → Int32 → Int32 → Int32 → Int32 → oSt → oRs} {x0 : Option Nat} {x1 : Option Nat} {x2 : Int32} {x3 : Int32} {x4 : Int32} {x5 : Int32} {x6 : Int32} {x7 : Int64} {x9 : Int32} {x10 : Int32} {σ : oSt} (hc : cQoL va fv call) (hk62 : ∀ (a0 : Option Nat) (a1 : Option Nat) (a2 : Int32) (a3 : Int32) (a4 : Int32) (a5 : Int32) (a6 : Int32), ∀ σ, lgP va fv σ → PIo (lgP va fv) (k62 a0 a1 a2 a3 a4 a5 a6 σ)) (h : lgP va fv σ) : PIo (lgP va fv) (oj_X1_meet_165 n call κ k62 x0 x1 x2 x3 x4 x5 x6 x7 x9 x10 σ) := by
  unfold oj_X1_meet_165
  repeat' (with_reducible (first | assumption | (refine PIoL_gd ?_) | (refine PIoL_pf ?_ (by decide) (fun _ _ => ?_)) | (refine PIoL_si ?_ (fun _ _ => ?_)) | (refine PIoL_sj ?_ (by assumption) (fun _ _ => ?_)) | (refine PIoL_sr ?_ (fun _ _ => ?_)) | (refine PIoL_cy ?_ (by first | exact Or.inl ⟨_, by assumption⟩ | (refine Or.inr ⟨_, ?_, rfl⟩; assumption)) (fun _ _ => ?_)) | (refine PIoL_be (fun _ _ => ?_)) | (refine PIoL_na ?_ (fun _ _ => ?_)) | (refine PIoL_no ?_ (fun _ _ => ?_)) | (refine PIoL_ite ?_ ?_) | (refine PIoL_some ?_) | (exact PIoL_none) | (refine pioL_oj_X1_meet_170 hc hk62 ?_) | (refine hk62 _ _ _ _ _ _ _ _ ?_)))
theorem pioL_oj_X1_meet_137 {k62 : Option Nat → Option Nat → Int32 → Int32 → Int32 → Int32 → Int32 → oSt → oRs} {x0 : Option Nat} {x1 : Option Nat} {x2 : Int32} {x3 : Int32} {x4 : Int32} {x5 : Int32} {x6 : Int32} {x7 : Int64} {x9 : Int32} {x10 : Int32} {σ : oSt} (hc : cQoL va fv call) (hk62 : ∀ (a0 : Option Nat) (a1 : Option Nat) (a2 : Int32) (a3 : Int32) (a4 : Int32) (a5 : Int32) (a6 : Int32), ∀ σ, lgP va fv σ → PIo (lgP va fv) (k62 a0 a1 a2 a3 a4 a5 a6 σ)) (h : lgP va fv σ) : PIo (lgP va fv) (oj_X1_meet_137 n call κ k62 x0 x1 x2 x3 x4 x5 x6 x7 x9 x10 σ) := by
  unfold oj_X1_meet_137
  repeat' (with_reducible (first | assumption | (refine PIoL_gd ?_) | (refine PIoL_pf ?_ (by decide) (fun _ _ => ?_)) | (refine PIoL_si ?_ (fun _ _ => ?_)) | (refine PIoL_sj ?_ (by assumption) (fun _ _ => ?_)) | (refine PIoL_sr ?_ (fun _ _ => ?_)) | (refine PIoL_cy ?_ (by first | exact Or.inl ⟨_, by assumption⟩ | (refine Or.inr ⟨_, ?_, rfl⟩; assumption)) (fun _ _ => ?_)) | (refine PIoL_be (fun _ _ => ?_)) | (refine PIoL_na ?_ (fun _ _ => ?_)) | (refine PIoL_no ?_ (fun _ _ => ?_)) | (refine PIoL_ite ?_ ?_) | (refine PIoL_some ?_) | (exact PIoL_none) | (refine pioL_oj_X1_meet_183 hc hk62 ?_) | (refine pioL_oj_X1_meet_165 hc hk62 ?_) | (refine pioL_oj_X1_meet_170 hc hk62 ?_) | (refine hk62 _ _ _ _ _ _ _ _ ?_)))
theorem pioL_oj_X1_meet_95 {k62 : Option Nat → Option Nat → Int32 → Int32 → Int32 → Int32 → Int32 → oSt → oRs} {x0 : Option Nat} {x1 : Option Nat} {x2 : Int32} {x3 : Int32} {x4 : Int32} {x5 : Int32} {x6 : Int32} {x7 : Int64} {t0 : Int32} {t1 : Int32} {σ : oSt} (hc : cQoL va fv call) (hk62 : ∀ (a0 : Option Nat) (a1 : Option Nat) (a2 : Int32) (a3 : Int32) (a4 : Int32) (a5 : Int32) (a6 : Int32), ∀ σ, lgP va fv σ → PIo (lgP va fv) (k62 a0 a1 a2 a3 a4 a5 a6 σ)) (h : lgP va fv σ) : PIo (lgP va fv) (oj_X1_meet_95 n call κ k62 x0 x1 x2 x3 x4 x5 x6 x7 t0 t1 σ) := by
  unfold oj_X1_meet_95
  repeat' (with_reducible (first | assumption | (refine PIoL_gd ?_) | (refine PIoL_pf ?_ (by decide) (fun _ _ => ?_)) | (refine PIoL_si ?_ (fun _ _ => ?_)) | (refine PIoL_sj ?_ (by assumption) (fun _ _ => ?_)) | (refine PIoL_sr ?_ (fun _ _ => ?_)) | (refine PIoL_cy ?_ (by first | exact Or.inl ⟨_, by assumption⟩ | (refine Or.inr ⟨_, ?_, rfl⟩; assumption)) (fun _ _ => ?_)) | (refine PIoL_be (fun _ _ => ?_)) | (refine PIoL_na ?_ (fun _ _ => ?_)) | (refine PIoL_no ?_ (fun _ _ => ?_)) | (refine PIoL_ite ?_ ?_) | (refine PIoL_some ?_) | (exact PIoL_none) | (refine PIoL_in (cQoL.c47 hc _ _ _ ?_) (fun _ _ _ => ?_)) | (refine pioL_oj_X1_meet_137 hc hk62 ?_) | (refine hk62 _ _ _ _ _ _ _ _ ?_)))
theorem pioL_ol_X1_meet_62  (hc : cQoL va fv call)  : ∀ (t : Nat) (x0 : Option Nat) (x1 : Option Nat) (x2 : Int32) (x3 : Int32) (x4 : Int32) (x5 : Int32) (x6 : Int32) (σ : oSt), lgP va fv σ → PIo (lgP va fv) (ol_X1_meet_62 n call κ  t x0 x1 x2 x3 x4 x5 x6 σ) := by
  intro t
  induction t with
  | zero => intros; exact PIoL_none
  | succ t ih =>
    intro x0 x1 x2 x3 x4 x5 x6 σ h
    rw [ol_X1_meet_62]
    repeat' (with_reducible (first | assumption | (refine PIoL_gd ?_) | (refine PIoL_pf ?_ (by decide) (fun _ _ => ?_)) | (refine PIoL_si ?_ (fun _ _ => ?_)) | (refine PIoL_sj ?_ (by assumption) (fun _ _ => ?_)) | (refine PIoL_sr ?_ (fun _ _ => ?_)) | (refine PIoL_cy ?_ (by first | exact Or.inl ⟨_, by assumption⟩ | (refine Or.inr ⟨_, ?_, rfl⟩; assumption)) (fun _ _ => ?_)) | (refine PIoL_be (fun _ _ => ?_)) | (refine PIoL_na ?_ (fun _ _ => ?_)) | (refine PIoL_no ?_ (fun _ _ => ?_)) | (refine PIoL_ite ?_ ?_) | (refine PIoL_some ?_) | (exact PIoL_none) | (refine pioL_oj_X1_meet_95 hc ih ?_)))
theorem pioL_oj_X1_meet_57  {x0 : Option Nat} {x1 : Option Nat} {x2 : Int32} {x3 : Int32} {x4 : Int32} {t0 : Int32} {σ : oSt} (hc : cQoL va fv call)  (h : lgP va fv σ) : PIo (lgP va fv) (oj_X1_meet_57 n call κ  x0 x1 x2 x3 x4 t0 σ) := by
  unfold oj_X1_meet_57
  repeat' (with_reducible (first | assumption | (refine PIoL_gd ?_) | (refine PIoL_pf ?_ (by decide) (fun _ _ => ?_)) | (refine PIoL_si ?_ (fun _ _ => ?_)) | (refine PIoL_sj ?_ (by assumption) (fun _ _ => ?_)) | (refine PIoL_sr ?_ (fun _ _ => ?_)) | (refine PIoL_cy ?_ (by first | exact Or.inl ⟨_, by assumption⟩ | (refine Or.inr ⟨_, ?_, rfl⟩; assumption)) (fun _ _ => ?_)) | (refine PIoL_be (fun _ _ => ?_)) | (refine PIoL_na ?_ (fun _ _ => ?_)) | (refine PIoL_no ?_ (fun _ _ => ?_)) | (refine PIoL_ite ?_ ?_) | (refine PIoL_some ?_) | (exact PIoL_none) | (refine pioL_ol_X1_meet_62 hc  _ _ _ _ _ _ _ _ _ ?_)))
theorem pioL_oj_X1_meet_52  {x0 : Option Nat} {x1 : Option Nat} {x2 : Int32} {x3 : Int32} {x4 : Int32} {σ : oSt} (hc : cQoL va fv call)  (h : lgP va fv σ) : PIo (lgP va fv) (oj_X1_meet_52 n call κ  x0 x1 x2 x3 x4 σ) := by
  unfold oj_X1_meet_52
  repeat' (with_reducible (first | assumption | (refine PIoL_gd ?_) | (refine PIoL_pf ?_ (by decide) (fun _ _ => ?_)) | (refine PIoL_si ?_ (fun _ _ => ?_)) | (refine PIoL_sj ?_ (by assumption) (fun _ _ => ?_)) | (refine PIoL_sr ?_ (fun _ _ => ?_)) | (refine PIoL_cy ?_ (by first | exact Or.inl ⟨_, by assumption⟩ | (refine Or.inr ⟨_, ?_, rfl⟩; assumption)) (fun _ _ => ?_)) | (refine PIoL_be (fun _ _ => ?_)) | (refine PIoL_na ?_ (fun _ _ => ?_)) | (refine PIoL_no ?_ (fun _ _ => ?_)) | (refine PIoL_ite ?_ ?_) | (refine PIoL_some ?_) | (exact PIoL_none) | (refine pioL_oj_X1_meet_57 hc  ?_)))
theorem pioL_oj_X1_meet_31  {x0 : Option Nat} {x1 : Option Nat} {x2 : Int32} {x3 : Int32} {σ : oSt} (hc : cQoL va fv call)  (h : lgP va fv σ) : PIo (lgP va fv) (oj_X1_meet_31 n call κ  x0 x1 x2 x3 σ) := by
  unfold oj_X1_meet_31
  repeat' (with_reducible (first | assumption | (refine PIoL_gd ?_) | (refine PIoL_pf ?_ (by decide) (fun _ _ => ?_)) | (refine PIoL_si ?_ (fun _ _ => ?_)) | (refine PIoL_sj ?_ (by assumption) (fun _ _ => ?_)) | (refine PIoL_sr ?_ (fun _ _ => ?_)) | (refine PIoL_cy ?_ (by first | exact Or.inl ⟨_, by assumption⟩ | (refine Or.inr ⟨_, ?_, rfl⟩; assumption)) (fun _ _ => ?_)) | (refine PIoL_be (fun _ _ => ?_)) | (refine PIoL_na ?_ (fun _ _ => ?_)) | (refine PIoL_no ?_ (fun _ _ => ?_)) | (refine PIoL_ite ?_ ?_) | (refine PIoL_some ?_) | (exact PIoL_none) | (refine pioL_oj_X1_meet_52 hc  ?_) | (refine pioL_oj_X1_meet_57 hc  ?_)))
theorem pioL_ob_X1_meet  {x0 : Option Nat} {x1 : Option Nat} {x2 : Int32} {x3 : Int32} {σ : oSt} (hc : cQoL va fv call)  (h : lgP va fv σ) : PIo (lgP va fv) (ob_X1_meet n call κ  x0 x1 x2 x3 σ) := by
  unfold ob_X1_meet
  repeat' (with_reducible (first | assumption | (refine PIoL_gd ?_) | (refine PIoL_pf ?_ (by decide) (fun _ _ => ?_)) | (refine PIoL_si ?_ (fun _ _ => ?_)) | (refine PIoL_sj ?_ (by assumption) (fun _ _ => ?_)) | (refine PIoL_sr ?_ (fun _ _ => ?_)) | (refine PIoL_cy ?_ (by first | exact Or.inl ⟨_, by assumption⟩ | (refine Or.inr ⟨_, ?_, rfl⟩; assumption)) (fun _ _ => ?_)) | (refine PIoL_be (fun _ _ => ?_)) | (refine PIoL_na ?_ (fun _ _ => ?_)) | (refine PIoL_no ?_ (fun _ _ => ?_)) | (refine PIoL_ite ?_ ?_) | (refine PIoL_some ?_) | (exact PIoL_none) | (refine pioL_oj_X1_meet_31 hc  ?_)))
theorem pioL_ol_X1_learn_30  (hc : cQoL va fv call)  : ∀ (t : Nat) (x0 : Option Nat) (x1 : Option Nat) (x2 : Int32) (x3 : Int32) (σ : oSt), lgP va fv σ → PIo (lgP va fv) (ol_X1_learn_30 n call κ  t x0 x1 x2 x3 σ) := by
  intro t
  induction t with
  | zero => intros; exact PIoL_none
  | succ t ih =>
    intro x0 x1 x2 x3 σ h
    rw [ol_X1_learn_30]
    repeat' (with_reducible (first | assumption | (refine PIoL_gd ?_) | (refine PIoL_pf ?_ (by decide) (fun _ _ => ?_)) | (refine PIoL_si ?_ (fun _ _ => ?_)) | (refine PIoL_sj ?_ (by assumption) (fun _ _ => ?_)) | (refine PIoL_sr ?_ (fun _ _ => ?_)) | (refine PIoL_cy ?_ (by first | exact Or.inl ⟨_, by assumption⟩ | (refine Or.inr ⟨_, ?_, rfl⟩; assumption)) (fun _ _ => ?_)) | (refine PIoL_be (fun _ _ => ?_)) | (refine PIoL_na ?_ (fun _ _ => ?_)) | (refine PIoL_no ?_ (fun _ _ => ?_)) | (refine PIoL_ite ?_ ?_) | (refine PIoL_some ?_) | (exact PIoL_none) | (refine PIoL_cv (cQoL.c46 hc _ _ _ ?_) (fun _ _ => ?_)) | (refine PIoL_in (cQoL.c49 hc _ _ _ _ _ ?_) (fun _ _ _ => ?_)) | (refine ih _ _ _ _ _ ?_)))
theorem pioL_oj_X1_learn_28  {x0 : Option Nat} {x1 : Option Nat} {x2 : Int32} {σ : oSt} (hc : cQoL va fv call)  (h : lgP va fv σ) : PIo (lgP va fv) (oj_X1_learn_28 n call κ  x0 x1 x2 σ) := by
  unfold oj_X1_learn_28
  repeat' (with_reducible (first | assumption | (refine PIoL_gd ?_) | (refine PIoL_pf ?_ (by decide) (fun _ _ => ?_)) | (refine PIoL_si ?_ (fun _ _ => ?_)) | (refine PIoL_sj ?_ (by assumption) (fun _ _ => ?_)) | (refine PIoL_sr ?_ (fun _ _ => ?_)) | (refine PIoL_cy ?_ (by first | exact Or.inl ⟨_, by assumption⟩ | (refine Or.inr ⟨_, ?_, rfl⟩; assumption)) (fun _ _ => ?_)) | (refine PIoL_be (fun _ _ => ?_)) | (refine PIoL_na ?_ (fun _ _ => ?_)) | (refine PIoL_no ?_ (fun _ _ => ?_)) | (refine PIoL_ite ?_ ?_) | (refine PIoL_some ?_) | (exact PIoL_none) | (refine pioL_ol_X1_learn_30 hc  _ _ _ _ _ _ ?_)))
theorem pioL_ob_X1_learn  {x0 : Option Nat} {x1 : Option Nat} {x2 : Int32} {σ : oSt} (hc : cQoL va fv call)  (h : lgP va fv σ) : PIo (lgP va fv) (ob_X1_learn n call κ  x0 x1 x2 σ) := by
  unfold ob_X1_learn
  repeat' (with_reducible (first | assumption | (refine PIoL_gd ?_) | (refine PIoL_pf ?_ (by decide) (fun _ _ => ?_)) | (refine PIoL_si ?_ (fun _ _ => ?_)) | (refine PIoL_sj ?_ (by assumption) (fun _ _ => ?_)) | (refine PIoL_sr ?_ (fun _ _ => ?_)) | (refine PIoL_cy ?_ (by first | exact Or.inl ⟨_, by assumption⟩ | (refine Or.inr ⟨_, ?_, rfl⟩; assumption)) (fun _ _ => ?_)) | (refine PIoL_be (fun _ _ => ?_)) | (refine PIoL_na ?_ (fun _ _ => ?_)) | (refine PIoL_no ?_ (fun _ _ => ?_)) | (refine PIoL_ite ?_ ?_) | (refine PIoL_some ?_) | (exact PIoL_none) | (refine PIoL_cv (cQoL.c44 hc _ _ _ _ _ ?_) (fun _ _ => ?_)) | (refine pioL_oj_X1_learn_28 hc  ?_)))
theorem pioL_ob_X1_postpone  {x0 : Option Nat} {x1 : Option Nat} {x2 : Int32} {σ : oSt} (hc : cQoL va fv call)  (h : lgP va fv σ) : PIo (lgP va fv) (ob_X1_postpone n call κ  x0 x1 x2 σ) := by
  unfold ob_X1_postpone
  repeat' (with_reducible (first | assumption | (refine PIoL_gd ?_) | (refine PIoL_pf ?_ (by decide) (fun _ _ => ?_)) | (refine PIoL_si ?_ (fun _ _ => ?_)) | (refine PIoL_sj ?_ (by assumption) (fun _ _ => ?_)) | (refine PIoL_sr ?_ (fun _ _ => ?_)) | (refine PIoL_cy ?_ (by first | exact Or.inl ⟨_, by assumption⟩ | (refine Or.inr ⟨_, ?_, rfl⟩; assumption)) (fun _ _ => ?_)) | (refine PIoL_be (fun _ _ => ?_)) | (refine PIoL_na ?_ (fun _ _ => ?_)) | (refine PIoL_no ?_ (fun _ _ => ?_)) | (refine PIoL_ite ?_ ?_) | (refine PIoL_some ?_) | (exact PIoL_none)))
theorem pioL_oj_X1_choose_38 {k2 : Option Nat → Option Nat → Int32 → Int32 → oSt → oRs} {x0 : Option Nat} {x1 : Option Nat} {x2 : Int32} {x3 : Int32} {σ : oSt} (hc : cQoL va fv call) (hk2 : ∀ (a0 : Option Nat) (a1 : Option Nat) (a2 : Int32) (a3 : Int32), ∀ σ, lgP va fv σ → PIo (lgP va fv) (k2 a0 a1 a2 a3 σ)) (h : lgP va fv σ) : PIo (lgP va fv) (oj_X1_choose_38 n call κ k2 x0 x1 x2 x3 σ) := by
  unfold oj_X1_choose_38
  repeat' (with_reducible (first | assumption | (refine PIoL_gd ?_) | (refine PIoL_pf ?_ (by decide) (fun _ _ => ?_)) | (refine PIoL_si ?_ (fun _ _ => ?_)) | (refine PIoL_sj ?_ (by assumption) (fun _ _ => ?_)) | (refine PIoL_sr ?_ (fun _ _ => ?_)) | (refine PIoL_cy ?_ (by first | exact Or.inl ⟨_, by assumption⟩ | (refine Or.inr ⟨_, ?_, rfl⟩; assumption)) (fun _ _ => ?_)) | (refine PIoL_be (fun _ _ => ?_)) | (refine PIoL_na ?_ (fun _ _ => ?_)) | (refine PIoL_no ?_ (fun _ _ => ?_)) | (refine PIoL_ite ?_ ?_) | (refine PIoL_some ?_) | (exact PIoL_none) | (refine hk2 _ _ _ _ _ ?_)))
theorem pioL_ol_X1_choose_2  (hc : cQoL va fv call)  : ∀ (t : Nat) (x0 : Option Nat) (x1 : Option Nat) (x2 : Int32) (x3 : Int32) (σ : oSt), lgP va fv σ → PIo (lgP va fv) (ol_X1_choose_2 n call κ  t x0 x1 x2 x3 σ) := by
  intro t
  induction t with
  | zero => intros; exact PIoL_none
  | succ t ih =>
    intro x0 x1 x2 x3 σ h
    rw [ol_X1_choose_2]
    repeat' (with_reducible (first | assumption | (refine PIoL_gd ?_) | (refine PIoL_pf ?_ (by decide) (fun _ _ => ?_)) | (refine PIoL_si ?_ (fun _ _ => ?_)) | (refine PIoL_sj ?_ (by assumption) (fun _ _ => ?_)) | (refine PIoL_sr ?_ (fun _ _ => ?_)) | (refine PIoL_cy ?_ (by first | exact Or.inl ⟨_, by assumption⟩ | (refine Or.inr ⟨_, ?_, rfl⟩; assumption)) (fun _ _ => ?_)) | (refine PIoL_be (fun _ _ => ?_)) | (refine PIoL_na ?_ (fun _ _ => ?_)) | (refine PIoL_no ?_ (fun _ _ => ?_)) | (refine PIoL_ite ?_ ?_) | (refine PIoL_some ?_) | (exact PIoL_none) | (refine pioL_oj_X1_choose_38 hc ih ?_)))
theorem pioL_ob_X1_choose  {x0 : Option Nat} {x1 : Option Nat} {x2 : Int32} {σ : oSt} (hc : cQoL va fv call)  (h : lgP va fv σ) : PIo (lgP va fv) (ob_X1_choose n call κ  x0 x1 x2 σ) := by
  unfold ob_X1_choose
  repeat' (with_reducible (first | assumption | (refine PIoL_gd ?_) | (refine PIoL_pf ?_ (by decide) (fun _ _ => ?_)) | (refine PIoL_si ?_ (fun _ _ => ?_)) | (refine PIoL_sj ?_ (by assumption) (fun _ _ => ?_)) | (refine PIoL_sr ?_ (fun _ _ => ?_)) | (refine PIoL_cy ?_ (by first | exact Or.inl ⟨_, by assumption⟩ | (refine Or.inr ⟨_, ?_, rfl⟩; assumption)) (fun _ _ => ?_)) | (refine PIoL_be (fun _ _ => ?_)) | (refine PIoL_na ?_ (fun _ _ => ?_)) | (refine PIoL_no ?_ (fun _ _ => ?_)) | (refine PIoL_ite ?_ ?_) | (refine PIoL_some ?_) | (exact PIoL_none) | (refine pioL_ol_X1_choose_2 hc  _ _ _ _ _ _ ?_)))
theorem pioL_ob_X1_opposite  {x0 : Int32} {σ : oSt} (hc : cQoL va fv call)  (h : lgP va fv σ) : PIo (lgP va fv) (ob_X1_opposite n call κ  x0 σ) := by
  unfold ob_X1_opposite
  repeat' (with_reducible (first | assumption | (refine PIoL_gd ?_) | (refine PIoL_pf ?_ (by decide) (fun _ _ => ?_)) | (refine PIoL_si ?_ (fun _ _ => ?_)) | (refine PIoL_sj ?_ (by assumption) (fun _ _ => ?_)) | (refine PIoL_sr ?_ (fun _ _ => ?_)) | (refine PIoL_cy ?_ (by first | exact Or.inl ⟨_, by assumption⟩ | (refine Or.inr ⟨_, ?_, rfl⟩; assumption)) (fun _ _ => ?_)) | (refine PIoL_be (fun _ _ => ?_)) | (refine PIoL_na ?_ (fun _ _ => ?_)) | (refine PIoL_no ?_ (fun _ _ => ?_)) | (refine PIoL_ite ?_ ?_) | (refine PIoL_some ?_) | (exact PIoL_none)))
theorem pioL_oj_X1_limit_170  {x0 : Option Nat} {x4 : Int64} {x6 : Int32} {x7 : Int32} {t0 : Int32} {σ : oSt} (hc : cQoL va fv call)  (h : lgP va fv σ) : PIo (lgP va fv) (oj_X1_limit_170 n call κ  x0 x4 x6 x7 t0 σ) := by
  unfold oj_X1_limit_170
  repeat' (with_reducible (first | assumption | (refine PIoL_gd ?_) | (refine PIoL_pf ?_ (by decide) (fun _ _ => ?_)) | (refine PIoL_si ?_ (fun _ _ => ?_)) | (refine PIoL_sj ?_ (by assumption) (fun _ _ => ?_)) | (refine PIoL_sr ?_ (fun _ _ => ?_)) | (refine PIoL_cy ?_ (by first | exact Or.inl ⟨_, by assumption⟩ | (refine Or.inr ⟨_, ?_, rfl⟩; assumption)) (fun _ _ => ?_)) | (refine PIoL_be (fun _ _ => ?_)) | (refine PIoL_na ?_ (fun _ _ => ?_)) | (refine PIoL_no ?_ (fun _ _ => ?_)) | (refine PIoL_ite ?_ ?_) | (refine PIoL_some ?_) | (exact PIoL_none) | (refine PIoL_cv (cQoL.c44 hc _ _ _ _ _ ?_) (fun _ _ => ?_))))
theorem pioL_oj_X1_limit_169  {x0 : Option Nat} {x4 : Int64} {x6 : Int32} {x7 : Int32} {σ : oSt} (hc : cQoL va fv call)  (h : lgP va fv σ) : PIo (lgP va fv) (oj_X1_limit_169 n call κ  x0 x4 x6 x7 σ) := by
  unfold oj_X1_limit_169
  repeat' (with_reducible (first | assumption | (refine PIoL_gd ?_) | (refine PIoL_pf ?_ (by decide) (fun _ _ => ?_)) | (refine PIoL_si ?_ (fun _ _ => ?_)) | (refine PIoL_sj ?_ (by assumption) (fun _ _ => ?_)) | (refine PIoL_sr ?_ (fun _ _ => ?_)) | (refine PIoL_cy ?_ (by first | exact Or.inl ⟨_, by assumption⟩ | (refine Or.inr ⟨_, ?_, rfl⟩; assumption)) (fun _ _ => ?_)) | (refine PIoL_be (fun _ _ => ?_)) | (refine PIoL_na ?_ (fun _ _ => ?_)) | (refine PIoL_no ?_ (fun _ _ => ?_)) | (refine PIoL_ite ?_ ?_) | (refine PIoL_some ?_) | (exact PIoL_none) | (refine pioL_oj_X1_limit_170 hc  ?_)))
theorem pioL_oj_X1_limit_46  {t0 : Option Nat} {t1 : Int32} {σ : oSt} (hc : cQoL va fv call)  (h : lgP va fv σ) : PIo (lgP va fv) (oj_X1_limit_46 n call κ  t0 t1 σ) := by
  unfold oj_X1_limit_46
  repeat' (with_reducible (first | assumption | (refine PIoL_gd ?_) | (refine PIoL_pf ?_ (by decide) (fun _ _ => ?_)) | (refine PIoL_si ?_ (fun _ _ => ?_)) | (refine PIoL_sj ?_ (by assumption) (fun _ _ => ?_)) | (refine PIoL_sr ?_ (fun _ _ => ?_)) | (refine PIoL_cy ?_ (by first | exact Or.inl ⟨_, by assumption⟩ | (refine Or.inr ⟨_, ?_, rfl⟩; assumption)) (fun _ _ => ?_)) | (refine PIoL_be (fun _ _ => ?_)) | (refine PIoL_na ?_ (fun _ _ => ?_)) | (refine PIoL_no ?_ (fun _ _ => ?_)) | (refine PIoL_ite ?_ ?_) | (refine PIoL_some ?_) | (exact PIoL_none)))
theorem pioL_oj_X1_limit_41  {t0 : Option Nat} {σ : oSt} (hc : cQoL va fv call)  (h : lgP va fv σ) : PIo (lgP va fv) (oj_X1_limit_41 n call κ  t0 σ) := by
  unfold oj_X1_limit_41
  repeat' (with_reducible (first | assumption | (refine PIoL_gd ?_) | (refine PIoL_pf ?_ (by decide) (fun _ _ => ?_)) | (refine PIoL_si ?_ (fun _ _ => ?_)) | (refine PIoL_sj ?_ (by assumption) (fun _ _ => ?_)) | (refine PIoL_sr ?_ (fun _ _ => ?_)) | (refine PIoL_cy ?_ (by first | exact Or.inl ⟨_, by assumption⟩ | (refine Or.inr ⟨_, ?_, rfl⟩; assumption)) (fun _ _ => ?_)) | (refine PIoL_be (fun _ _ => ?_)) | (refine PIoL_na ?_ (fun _ _ => ?_)) | (refine PIoL_no ?_ (fun _ _ => ?_)) | (refine PIoL_ite ?_ ?_) | (refine PIoL_some ?_) | (exact PIoL_none) | (refine pioL_oj_X1_limit_46 hc  ?_)))
theorem pioL_ob_X1_limit  {x0 : Option Nat} {x1 : Option Nat} {x2 : Int32} {x3 : Int32} {σ : oSt} (hc : cQoL va fv call)  (h : lgP va fv σ) : PIo (lgP va fv) (ob_X1_limit n call κ  x0 x1 x2 x3 σ) := by
  unfold ob_X1_limit
  repeat' (with_reducible (first | assumption | (refine PIoL_gd ?_) | (refine PIoL_pf ?_ (by decide) (fun _ _ => ?_)) | (refine PIoL_si ?_ (fun _ _ => ?_)) | (refine PIoL_sj ?_ (by assumption) (fun _ _ => ?_)) | (refine PIoL_sr ?_ (fun _ _ => ?_)) | (refine PIoL_cy ?_ (by first | exact Or.inl ⟨_, by assumption⟩ | (refine Or.inr ⟨_, ?_, rfl⟩; assumption)) (fun _ _ => ?_)) | (refine PIoL_be (fun _ _ => ?_)) | (refine PIoL_na ?_ (fun _ _ => ?_)) | (refine PIoL_no ?_ (fun _ _ => ?_)) | (refine PIoL_ite ?_ ?_) | (refine PIoL_some ?_) | (exact PIoL_none) | (refine PIoL_in (cQoL.c38 hc _ _ ?_) (fun _ _ _ => ?_)) | (refine PIoL_in (cQoL.c47 hc _ _ _ ?_) (fun _ _ _ => ?_)) | (refine pioL_oj_X1_limit_46 hc  ?_) | (refine pioL_oj_X1_limit_41 hc  ?_) | (refine pioL_oj_X1_limit_170 hc  ?_) | (refine pioL_oj_X1_limit_169 hc  ?_)))
theorem pioL_oj_X1_compare_65  {x0 : Option Nat} {x1 : Option Nat} {x3 : Int32} {σ : oSt} (hc : cQoL va fv call)  (h : lgP va fv σ) : PIo (lgP va fv) (oj_X1_compare_65 n call κ  x0 x1 x3 σ) := by
  unfold oj_X1_compare_65
  repeat' (with_reducible (first | assumption | (refine PIoL_gd ?_) | (refine PIoL_pf ?_ (by decide) (fun _ _ => ?_)) | (refine PIoL_si ?_ (fun _ _ => ?_)) | (refine PIoL_sj ?_ (by assumption) (fun _ _ => ?_)) | (refine PIoL_sr ?_ (fun _ _ => ?_)) | (refine PIoL_cy ?_ (by first | exact Or.inl ⟨_, by assumption⟩ | (refine Or.inr ⟨_, ?_, rfl⟩; assumption)) (fun _ _ => ?_)) | (refine PIoL_be (fun _ _ => ?_)) | (refine PIoL_na ?_ (fun _ _ => ?_)) | (refine PIoL_no ?_ (fun _ _ => ?_)) | (refine PIoL_ite ?_ ?_) | (refine PIoL_some ?_) | (exact PIoL_none) | (refine PIoL_cv (cQoL.c54 hc _ _ _ _ _ ?_) (fun _ _ => ?_))))
theorem pioL_oj_X1_compare_62  {x0 : Option Nat} {x1 : Option Nat} {x3 : Int32} {t0 : Option Nat} {t1 : Option Nat} {t2 : Int32} {t3 : Int32} {σ : oSt} (hc : cQoL va fv call)  (h : lgP va fv σ) : PIo (lgP va fv) (oj_X1_compare_62 n call κ  x0 x1 x3 t0 t1 t2 t3 σ) := by
  unfold oj_X1_compare_62
  repeat' (with_reducible (first | assumption | (refine PIoL_gd ?_) | (refine PIoL_pf ?_ (by decide) (fun _ _ => ?_)) | (refine PIoL_si ?_ (fun _ _ => ?_)) | (refine PIoL_sj ?_ (by assumption) (fun _ _ => ?_)) | (refine PIoL_sr ?_ (fun _ _ => ?_)) | (refine PIoL_cy ?_ (by first | exact Or.inl ⟨_, by assumption⟩ | (refine Or.inr ⟨_, ?_, rfl⟩; assumption)) (fun _ _ => ?_)) | (refine PIoL_be (fun _ _ => ?_)) | (refine PIoL_na ?_ (fun _ _ => ?_)) | (refine PIoL_no ?_ (fun _ _ => ?_)) | (refine PIoL_ite ?_ ?_) | (refine PIoL_some ?_) | (exact PIoL_none) | (refine PIoL_cv (cQoL.c54 hc _ _ _ _ _ ?_) (fun _ _ => ?_)) | (refine pioL_oj_X1_compare_65 hc  ?_)))
theorem pioL_oj_X1_compare_18  {x0 : Option Nat} {x1 : Option Nat} {x2 : Int32} {t0 : Int32} {σ : oSt} (hc : cQoL va fv call)  (h : lgP va fv σ) : PIo (lgP va fv) (oj_X1_compare_18 n call κ  x0 x1 x2 t0 σ) := by
  unfold oj_X1_compare_18
  repeat' (with_reducible (first | assumption | (refine PIoL_gd ?_) | (refine PIoL_pf ?_ (by decide) (fun _ _ => ?_)) | (refine PIoL_si ?_ (fun _ _ => ?_)) | (refine PIoL_sj ?_ (by assumption) (fun _ _ => ?_)) | (refine PIoL_sr ?_ (fun _ _ => ?_)) | (refine PIoL_cy ?_ (by first | exact Or.inl ⟨_, by assumption⟩ | (refine Or.inr ⟨_, ?_, rfl⟩; assumption)) (fun _ _ => ?_)) | (refine PIoL_be (fun _ _ => ?_)) | (refine PIoL_na ?_ (fun _ _ => ?_)) | (refine PIoL_no ?_ (fun _ _ => ?_)) | (refine PIoL_ite ?_ ?_) | (refine PIoL_some ?_) | (exact PIoL_none) | (refine PIoL_cv (cQoL.c51 hc _ _ _ _ ?_) (fun _ _ => ?_)) | (refine pioL_oj_X1_compare_65 hc  ?_) | (refine pioL_oj_X1_compare_62 hc  ?_)))
theorem pioL_ob_X1_compare  {x0 : Option Nat} {x1 : Option Nat} {x2 : Int32} {σ : oSt} (hc : cQoL va fv call)  (h : lgP va fv σ) : PIo (lgP va fv) (ob_X1_compare n call κ  x0 x1 x2 σ) := by
  unfold ob_X1_compare
  repeat' (with_reducible (first | assumption | (refine PIoL_gd ?_) | (refine PIoL_pf ?_ (by decide) (fun _ _ => ?_)) | (refine PIoL_si ?_ (fun _ _ => ?_)) | (refine PIoL_sj ?_ (by assumption) (fun _ _ => ?_)) | (refine PIoL_sr ?_ (fun _ _ => ?_)) | (refine PIoL_cy ?_ (by first | exact Or.inl ⟨_, by assumption⟩ | (refine Or.inr ⟨_, ?_, rfl⟩; assumption)) (fun _ _ => ?_)) | (refine PIoL_be (fun _ _ => ?_)) | (refine PIoL_na ?_ (fun _ _ => ?_)) | (refine PIoL_no ?_ (fun _ _ => ?_)) | (refine PIoL_ite ?_ ?_) | (refine PIoL_some ?_) | (exact PIoL_none) | (refine PIoL_in (cQoL.c53 hc _ _ ?_) (fun _ _ _ => ?_)) | (refine pioL_oj_X1_compare_18 hc  ?_)))
theorem pioL_oj_X1_assume_196  {t0 : Option Nat} {σ : oSt} (hc : cQoL va fv call)  (h : lgP va fv σ) : PIo (lgP va fv) (oj_X1_assume_196 n call κ  t0 σ) := by
  unfold oj_X1_assume_196
  repeat' (with_reducible (first | assumption | (refine PIoL_gd ?_) | (refine PIoL_pf ?_ (by decide) (fun _ _ => ?_)) | (refine PIoL_si ?_ (fun _ _ => ?_)) | (refine PIoL_sj ?_ (by assumption) (fun _ _ => ?_)) | (refine PIoL_sr ?_ (fun _ _ => ?_)) | (refine PIoL_cy ?_ (by first | exact Or.inl ⟨_, by assumption⟩ | (refine Or.inr ⟨_, ?_, rfl⟩; assumption)) (fun _ _ => ?_)) | (refine PIoL_be (fun _ _ => ?_)) | (refine PIoL_na ?_ (fun _ _ => ?_)) | (refine PIoL_no ?_ (fun _ _ => ?_)) | (refine PIoL_ite ?_ ?_) | (refine PIoL_some ?_) | (exact PIoL_none)))
theorem pioL_oj_X1_assume_192  {x2 : Int32} {t0 : Option Nat} {t1 : Int32} {σ : oSt} (hc : cQoL va fv call)  (h : lgP va fv σ) : PIo (lgP va fv) (oj_X1_assume_192 n call κ  x2 t0 t1 σ) := by
  unfold oj_X1_assume_192
  repeat' (with_reducible (first | assumption | (refine PIoL_gd ?_) | (refine PIoL_pf ?_ (by decide) (fun _ _ => ?_)) | (refine PIoL_si ?_ (fun _ _ => ?_)) | (refine PIoL_sj ?_ (by assumption) (fun _ _ => ?_)) | (refine PIoL_sr ?_ (fun _ _ => ?_)) | (refine PIoL_cy ?_ (by first | exact Or.inl ⟨_, by assumption⟩ | (refine Or.inr ⟨_, ?_, rfl⟩; assumption)) (fun _ _ => ?_)) | (refine PIoL_be (fun _ _ => ?_)) | (refine PIoL_na ?_ (fun _ _ => ?_)) | (refine PIoL_no ?_ (fun _ _ => ?_)) | (refine PIoL_ite ?_ ?_) | (refine PIoL_some ?_) | (exact PIoL_none) | (refine pioL_oj_X1_assume_196 hc  ?_)))
theorem pioL_ol_X1_assume_106  (hc : cQoL va fv call)  : ∀ (t : Nat) (x0 : Option Nat) (x1 : Option Nat) (x2 : Int32) (x3 : Int32) (σ : oSt), lgP va fv σ → PIo (lgP va fv) (ol_X1_assume_106 n call κ  t x0 x1 x2 x3 σ) := by
  intro t
  induction t with
  | zero => intros; exact PIoL_none
  | succ t ih =>
    intro x0 x1 x2 x3 σ h
    rw [ol_X1_assume_106]
    repeat' (with_reducible (first | assumption | (refine PIoL_gd ?_) | (refine PIoL_pf ?_ (by decide) (fun _ _ => ?_)) | (refine PIoL_si ?_ (fun _ _ => ?_)) | (refine PIoL_sj ?_ (by assumption) (fun _ _ => ?_)) | (refine PIoL_sr ?_ (fun _ _ => ?_)) | (refine PIoL_cy ?_ (by first | exact Or.inl ⟨_, by assumption⟩ | (refine Or.inr ⟨_, ?_, rfl⟩; assumption)) (fun _ _ => ?_)) | (refine PIoL_be (fun _ _ => ?_)) | (refine PIoL_na ?_ (fun _ _ => ?_)) | (refine PIoL_no ?_ (fun _ _ => ?_)) | (refine PIoL_ite ?_ ?_) | (refine PIoL_some ?_) | (exact PIoL_none) | (refine PIoL_cv (cQoL.c56 hc _ _ _ _ ?_) (fun _ _ => ?_)) | (refine PIoL_in (cQoL.c236 hc _ _ ?_) (fun _ _ _ => ?_)) | (refine PIoL_rn (cQoL.c234 hc _ _ _ ?_) (fun _ _ _ => ?_)) | (refine ih _ _ _ _ _ ?_)))
theorem pioL_oj_X1_assume_91  {x0 : Option Nat} {x1 : Option Nat} {x2 : Int32} {t0 : Int32} {σ : oSt} (hc : cQoL va fv call)  (h : lgP va fv σ) : PIo (lgP va fv) (oj_X1_assume_91 n call κ  x0 x1 x2 t0 σ) := by
  unfold oj_X1_assume_91
  repeat' (with_reducible (first | assumption | (refine PIoL_gd ?_) | (refine PIoL_pf ?_ (by decide) (fun _ _ => ?_)) | (refine PIoL_si ?_ (fun _ _ => ?_)) | (refine PIoL_sj ?_ (by assumption) (fun _ _ => ?_)) | (refine PIoL_sr ?_ (fun _ _ => ?_)) | (refine PIoL_cy ?_ (by first | exact Or.inl ⟨_, by assumption⟩ | (refine Or.inr ⟨_, ?_, rfl⟩; assumption)) (fun _ _ => ?_)) | (refine PIoL_be (fun _ _ => ?_)) | (refine PIoL_na ?_ (fun _ _ => ?_)) | (refine PIoL_no ?_ (fun _ _ => ?_)) | (refine PIoL_ite ?_ ?_) | (refine PIoL_some ?_) | (exact PIoL_none) | (refine PIoL_cv (cQoL.c51 hc _ _ _ _ ?_) (fun _ _ => ?_)) | (refine pioL_ol_X1_assume_106 hc  _ _ _ _ _ _ ?_)))
theorem pioL_oj_X1_assume_70  {t0 : Option Nat} {t1 : Option Nat} {t2 : Int32} {σ : oSt} (hc : cQoL va fv call)  (h : lgP va fv σ) : PIo (lgP va fv) (oj_X1_assume_70 n call κ  t0 t1 t2 σ) := by
  unfold oj_X1_assume_70
  repeat' (with_reducible (first | assumption | (refine PIoL_gd ?_) | (refine PIoL_pf ?_ (by decide) (fun _ _ => ?_)) | (refine PIoL_si ?_ (fun _ _ => ?_)) | (refine PIoL_sj ?_ (by assumption) (fun _ _ => ?_)) | (refine PIoL_sr ?_ (fun _ _ => ?_)) | (refine PIoL_cy ?_ (by first | exact Or.inl ⟨_, by assumption⟩ | (refine Or.inr ⟨_, ?_, rfl⟩; assumption)) (fun _ _ => ?_)) | (refine PIoL_be (fun _ _ => ?_)) | (refine PIoL_na ?_ (fun _ _ => ?_)) | (refine PIoL_no ?_ (fun _ _ => ?_)) | (refine PIoL_ite ?_ ?_) | (refine PIoL_some ?_) | (exact PIoL_none) | (refine PIoL_cv (cQoL.c56 hc _ _ _ _ ?_) (fun _ _ => ?_))))
theorem pioL_ob_X1_assume  {x0 : Option Nat} {x1 : Option Nat} {x2 : Int32} {σ : oSt} (hc : cQoL va fv call)  (h : lgP va fv σ) : PIo (lgP va fv) (ob_X1_assume n call κ  x0 x1 x2 σ) := by
  unfold ob_X1_assume
  repeat' (with_reducible (first | assumption | (refine PIoL_gd ?_) | (refine PIoL_pf ?_ (by decide) (fun _ _ => ?_)) | (refine PIoL_si ?_ (fun _ _ => ?_)) | (refine PIoL_sj ?_ (by assumption) (fun _ _ => ?_)) | (refine PIoL_sr ?_ (fun _ _ => ?_)) | (refine PIoL_cy ?_ (by first | exact Or.inl ⟨_, by assumption⟩ | (refine Or.inr ⟨_, ?_, rfl⟩; assumption)) (fun _ _ => ?_)) | (refine PIoL_be (fun _ _ => ?_)) | (refine PIoL_na ?_ (fun _ _ => ?_)) | (refine PIoL_no ?_ (fun _ _ => ?_)) | (refine PIoL_ite ?_ ?_) | (refine PIoL_some ?_) | (exact PIoL_none) | (refine PIoL_cv (cQoL.c52 hc _ _ _ _ ?_) (fun _ _ => ?_)) | (refine PIoL_cv (cQoL.c55 hc _ _ _ _ ?_) (fun _ _ => ?_)) | (refine pioL_oj_X1_assume_70 hc  ?_) | (refine pioL_oj_X1_assume_91 hc  ?_) | (refine pioL_oj_X1_assume_192 hc  ?_) | (refine pioL_oj_X1_assume_196 hc  ?_)))
theorem pioL_oj_X1_begin_176 {k104 : Option Nat → Option Nat → oSt → oRs} {x0 : Option Nat} {x4 : Option Nat} {σ : oSt} (hc : cQoL va fv call) (hk104 : ∀ (a0 : Option Nat) (a1 : Option Nat), ∀ σ, lgP va fv σ → PIo (lgP va fv) (k104 a0 a1 σ)) (h : lgP va fv σ) : PIo (lgP va fv) (oj_X1_begin_176 n call κ k104 x0 x4 σ) := by
  unfold oj_X1_begin_176
  repeat' (with_reducible (first | assumption | (refine PIoL_gd ?_) | (refine PIoL_pf ?_ (by decide) (fun _ _ => ?_)) | (refine PIoL_si ?_ (fun _ _ => ?_)) | (refine PIoL_sj ?_ (by assumption) (fun _ _ => ?_)) | (refine PIoL_sr ?_ (fun _ _ => ?_)) | (refine PIoL_cy ?_ (by first | exact Or.inl ⟨_, by assumption⟩ | (refine Or.inr ⟨_, ?_, rfl⟩; assumption)) (fun _ _ => ?_)) | (refine PIoL_be (fun _ _ => ?_)) | (refine PIoL_na ?_ (fun _ _ => ?_)) | (refine PIoL_no ?_ (fun _ _ => ?_)) | (refine PIoL_ite ?_ ?_) | (refine PIoL_some ?_) | (exact PIoL_none) | (refine hk104 _ _ _ ?_)))
theorem pioL_ol_X1_begin_104  (hc : cQoL va fv call)  : ∀ (t : Nat) (x0 : Option Nat) (x1 : Option Nat) (σ : oSt), lgP va fv σ → PIo (lgP va fv) (ol_X1_begin_104 n call κ  t x0 x1 σ) := by
  intro t
  induction t with
  | zero => intros; exact PIoL_none
  | succ t ih =>
    intro x0 x1 σ h
    rw [ol_X1_begin_104]
    repeat' (with_reducible (first | assumption | (refine PIoL_gd ?_) | (refine PIoL_pf ?_ (by decide) (fun _ _ => ?_)) | (refine PIoL_si ?_ (fun _ _ => ?_)) | (refine PIoL_sj ?_ (by assumption) (fun _ _ => ?_)) | (refine PIoL_sr ?_ (fun _ _ => ?_)) | (refine PIoL_cy ?_ (by first | exact Or.inl ⟨_, by assumption⟩ | (refine Or.inr ⟨_, ?_, rfl⟩; assumption)) (fun _ _ => ?_)) | (refine PIoL_be (fun _ _ => ?_)) | (refine PIoL_na ?_ (fun _ _ => ?_)) | (refine PIoL_no ?_ (fun _ _ => ?_)) | (refine PIoL_ite ?_ ?_) | (refine PIoL_some ?_) | (exact PIoL_none) | (refine PIoL_cv (cQoL.c50 hc _ _ _ _ ?_) (fun _ _ => ?_)) | (refine PIoL_cv (cQoL.c56 hc _ _ _ _ ?_) (fun _ _ => ?_)) | (refine PIoL_in (cQoL.c6 hc _ _ ?_) (fun _ _ _ => ?_)) | (refine pioL_oj_X1_begin_176 hc ih ?_)))
theorem pioL_oj_X1_begin_101  {x0 : Option Nat} {x1 : Option Nat} {σ : oSt} (hc : cQoL va fv call)  (h : lgP va fv σ) : PIo (lgP va fv) (oj_X1_begin_101 n call κ  x0 x1 σ) := by
  unfold oj_X1_begin_101
  repeat' (with_reducible (first | assumption | (refine PIoL_gd ?_) | (refine PIoL_pf ?_ (by decide) (fun _ _ => ?_)) | (refine PIoL_si ?_ (fun _ _ => ?_)) | (refine PIoL_sj ?_ (by assumption) (fun _ _ => ?_)) | (refine PIoL_sr ?_ (fun _ _ => ?_)) | (refine PIoL_cy ?_ (by first | exact Or.inl ⟨_, by assumption⟩ | (refine Or.inr ⟨_, ?_, rfl⟩; assumption)) (fun _ _ => ?_)) | (refine PIoL_be (fun _ _ => ?_)) | (refine PIoL_na ?_ (fun _ _ => ?_)) | (refine PIoL_no ?_ (fun _ _ => ?_)) | (refine PIoL_ite ?_ ?_) | (refine PIoL_some ?_) | (exact PIoL_none) | (refine pioL_ol_X1_begin_104 hc  _ _ _ _ ?_)))
theorem pioL_oj_X1_begin_73 {k25 : Option Nat → Option Nat → Option Nat → Int32 → Option Nat → oSt → oRs} {x0 : Option Nat} {x1 : Option Nat} {x2 : Option Nat} {x3 : Int32} {x4 : Option Nat} {σ : oSt} (hc : cQoL va fv call) (hk25 : ∀ (a0 : Option Nat) (a1 : Option Nat) (a2 : Option Nat) (a3 : Int32) (a4 : Option Nat), ∀ σ, lgP va fv σ → PIo (lgP va fv) (k25 a0 a1 a2 a3 a4 σ)) (h : lgP va fv σ) : PIo (lgP va fv) (oj_X1_begin_73 n call κ k25 x0 x1 x2 x3 x4 σ) := by
  unfold oj_X1_begin_73
  repeat' (with_reducible (first | assumption | (refine PIoL_gd ?_) | (refine PIoL_pf ?_ (by decide) (fun _ _ => ?_)) | (refine PIoL_si ?_ (fun _ _ => ?_)) | (refine PIoL_sj ?_ (by assumption) (fun _ _ => ?_)) | (refine PIoL_sr ?_ (fun _ _ => ?_)) | (refine PIoL_cy ?_ (by first | exact Or.inl ⟨_, by assumption⟩ | (refine Or.inr ⟨_, ?_, rfl⟩; assumption)) (fun _ _ => ?_)) | (refine PIoL_be (fun _ _ => ?_)) | (refine PIoL_na ?_ (fun _ _ => ?_)) | (refine PIoL_no ?_ (fun _ _ => ?_)) | (refine PIoL_ite ?_ ?_) | (refine PIoL_some ?_) | (exact PIoL_none) | (refine hk25 _ _ _ _ _ _ ?_)))
theorem pioL_ol_X1_begin_25  (hc : cQoL va fv call)  : ∀ (t : Nat) (x0 : Option Nat) (x1 : Option Nat) (x2 : Option Nat) (x3 : Int32) (x4 : Option Nat) (σ : oSt), lgP va fv σ → PIo (lgP va fv) (ol_X1_begin_25 n call κ  t x0 x1 x2 x3 x4 σ) := by
  intro t
  induction t with
  | zero => intros; exact PIoL_none
  | succ t ih =>
    intro x0 x1 x2 x3 x4 σ h
    rw [ol_X1_begin_25]
    repeat' (with_reducible (first | assumption | (refine PIoL_gd ?_) | (refine PIoL_pf ?_ (by decide) (fun _ _ => ?_)) | (refine PIoL_si ?_ (fun _ _ => ?_)) | (refine PIoL_sj ?_ (by assumption) (fun _ _ => ?_)) | (refine PIoL_sr ?_ (fun _ _ => ?_)) | (refine PIoL_cy ?_ (by first | exact Or.inl ⟨_, by assumption⟩ | (refine Or.inr ⟨_, ?_, rfl⟩; assumption)) (fun _ _ => ?_)) | (refine PIoL_be (fun _ _ => ?_)) | (refine PIoL_na ?_ (fun _ _ => ?_)) | (refine PIoL_no ?_ (fun _ _ => ?_)) | (refine PIoL_ite ?_ ?_) | (refine PIoL_some ?_) | (exact PIoL_none) | (refine PIoL_cv (cQoL.c41 hc _ _ _ ?_) (fun _ _ => ?_)) | (refine PIoL_cv (cQoL.c50 hc _ _ _ _ ?_) (fun _ _ => ?_)) | (refine PIoL_in (cQoL.c6 hc _ _ ?_) (fun _ _ _ => ?_)) | (refine pioL_oj_X1_begin_101 hc  ?_) | (refine pioL_oj_X1_begin_73 hc ih ?_)))
theorem pioL_ob_X1_begin  {x0 : Option Nat} {x1 : Option Nat} {x2 : Option Nat} {σ : oSt} (hc : cQoL va fv call)  (h : lgP va fv σ) : PIo (lgP va fv) (ob_X1_begin n call κ  x0 x1 x2 σ) := by
  unfold ob_X1_begin
  repeat' (with_reducible (first | assumption | (refine PIoL_gd ?_) | (refine PIoL_pf ?_ (by decide) (fun _ _ => ?_)) | (refine PIoL_si ?_ (fun _ _ => ?_)) | (refine PIoL_sj ?_ (by assumption) (fun _ _ => ?_)) | (refine PIoL_sr ?_ (fun _ _ => ?_)) | (refine PIoL_cy ?_ (by first | exact Or.inl ⟨_, by assumption⟩ | (refine Or.inr ⟨_, ?_, rfl⟩; assumption)) (fun _ _ => ?_)) | (refine PIoL_be (fun _ _ => ?_)) | (refine PIoL_na ?_ (fun _ _ => ?_)) | (refine PIoL_no ?_ (fun _ _ => ?_)) | (refine PIoL_ite ?_ ?_) | (refine PIoL_some ?_) | (exact PIoL_none) | (refine pioL_ol_X1_begin_25 hc  _ _ _ _ _ _ _ ?_)))
theorem pioL_oj_X6_close_90  {x0 : Option Nat} {σ : oSt} (hc : cQoL va fv call)  (h : lgP va fv σ) : PIo (lgP va fv) (oj_X6_close_90 n call κ  x0 σ) := by
  unfold oj_X6_close_90
  repeat' (with_reducible (first | assumption | (refine PIoL_gd ?_) | (refine PIoL_pf ?_ (by decide) (fun _ _ => ?_)) | (refine PIoL_si ?_ (fun _ _ => ?_)) | (refine PIoL_sj ?_ (by assumption) (fun _ _ => ?_)) | (refine PIoL_sr ?_ (fun _ _ => ?_)) | (refine PIoL_cy ?_ (by first | exact Or.inl ⟨_, by assumption⟩ | (refine Or.inr ⟨_, ?_, rfl⟩; assumption)) (fun _ _ => ?_)) | (refine PIoL_be (fun _ _ => ?_)) | (refine PIoL_na ?_ (fun _ _ => ?_)) | (refine PIoL_no ?_ (fun _ _ => ?_)) | (refine PIoL_ite ?_ ?_) | (refine PIoL_some ?_) | (exact PIoL_none) | (refine PIoL_cv (cQoL.c43 hc _ _ ?_) (fun _ _ => ?_))))
theorem pioL_oj_X6_close_75 {k7 : Option Nat → Int32 → oSt → oRs} {k31 : Option Nat → Int32 → Int32 → oSt → oRs} {x0 : Option Nat} {x1 : Int32} {x2 : Int32} {t0 : Option Nat} {t1 : Int32} {σ : oSt} (hc : cQoL va fv call) (hk7 : ∀ (a0 : Option Nat) (a1 : Int32), ∀ σ, lgP va fv σ → PIo (lgP va fv) (k7 a0 a1 σ)) (hk31 : ∀ (a0 : Option Nat) (a1 : Int32) (a2 : Int32), ∀ σ, lgP va fv σ → PIo (lgP va fv) (k31 a0 a1 a2 σ)) (h : lgP va fv σ) : PIo (lgP va fv) (oj_X6_close_75 n call κ k7 k31 x0 x1 x2 t0 t1 σ) := by
  unfold oj_X6_close_75
  repeat' (with_reducible (first | assumption | (refine PIoL_gd ?_) | (refine PIoL_pf ?_ (by decide) (fun _ _ => ?_)) | (refine PIoL_si ?_ (fun _ _ => ?_)) | (refine PIoL_sj ?_ (by assumption) (fun _ _ => ?_)) | (refine PIoL_sr ?_ (fun _ _ => ?_)) | (refine PIoL_cy ?_ (by first | exact Or.inl ⟨_, by assumption⟩ | (refine Or.inr ⟨_, ?_, rfl⟩; assumption)) (fun _ _ => ?_)) | (refine PIoL_be (fun _ _ => ?_)) | (refine PIoL_na ?_ (fun _ _ => ?_)) | (refine PIoL_no ?_ (fun _ _ => ?_)) | (refine PIoL_ite ?_ ?_) | (refine PIoL_some ?_) | (exact PIoL_none) | (refine hk7 _ _ _ ?_) | (refine hk31 _ _ _ _ ?_)))
theorem pioL_oj_X6_close_70 {k7 : Option Nat → Int32 → oSt → oRs} {k31 : Option Nat → Int32 → Int32 → oSt → oRs} {x0 : Option Nat} {x1 : Int32} {x2 : Int32} {t0 : Option Nat} {σ : oSt} (hc : cQoL va fv call) (hk7 : ∀ (a0 : Option Nat) (a1 : Int32), ∀ σ, lgP va fv σ → PIo (lgP va fv) (k7 a0 a1 σ)) (hk31 : ∀ (a0 : Option Nat) (a1 : Int32) (a2 : Int32), ∀ σ, lgP va fv σ → PIo (lgP va fv) (k31 a0 a1 a2 σ)) (h : lgP va fv σ) : PIo (lgP va fv) (oj_X6_close_70 n call κ k7 k31 x0 x1 x2 t0 σ) := by
  unfold oj_X6_close_70
  repeat' (with_reducible (first | assumption | (refine PIoL_gd ?_) | (refine PIoL_pf ?_ (by decide) (fun _ _ => ?_)) | (refine PIoL_si ?_ (fun _ _ => ?_)) | (refine PIoL_sj ?_ (by assumption) (fun _ _ => ?_)) | (refine PIoL_sr ?_ (fun _ _ => ?_)) | (refine PIoL_cy ?_ (by first | exact Or.inl ⟨_, by assumption⟩ | (refine Or.inr ⟨_, ?_, rfl⟩; assumption)) (fun _ _ => ?_)) | (refine PIoL_be (fun _ _ => ?_)) | (refine PIoL_na ?_ (fun _ _ => ?_)) | (refine PIoL_no ?_ (fun _ _ => ?_)) | (refine PIoL_ite ?_ ?_) | (refine PIoL_some ?_) | (exact PIoL_none) | (refine pioL_oj_X6_close_75 hc hk7 hk31 ?_) | (refine hk7 _ _ _ ?_) | (refine hk31 _ _ _ _ ?_)))
theorem pioL_ol_X6_close_31 {k7 : Option Nat → Int32 → oSt → oRs} (hc : cQoL va fv call) (hk7 : ∀ (a0 : Option Nat) (a1 : Int32), ∀ σ, lgP va fv σ → PIo (lgP va fv) (k7 a0 a1 σ)) : ∀ (t : Nat) (x0 : Option Nat) (x1 : Int32) (x2 : Int32) (σ : oSt), lgP va fv σ → PIo (lgP va fv) (ol_X6_close_31 n call κ k7 t x0 x1 x2 σ) := by
  intro t
  induction t with
  | zero => intros; exact PIoL_none
  | succ t ih =>
    intro x0 x1 x2 σ h
    rw [ol_X6_close_31]
    repeat' (with_reducible (first | assumption | (refine PIoL_gd ?_) | (refine PIoL_pf ?_ (by decide) (fun _ _ => ?_)) | (refine PIoL_si ?_ (fun _ _ => ?_)) | (refine PIoL_sj ?_ (by assumption) (fun _ _ => ?_)) | (refine PIoL_sr ?_ (fun _ _ => ?_)) | (refine PIoL_cy ?_ (by first | exact Or.inl ⟨_, by assumption⟩ | (refine Or.inr ⟨_, ?_, rfl⟩; assumption)) (fun _ _ => ?_)) | (refine PIoL_be (fun _ _ => ?_)) | (refine PIoL_na ?_ (fun _ _ => ?_)) | (refine PIoL_no ?_ (fun _ _ => ?_)) | (refine PIoL_ite ?_ ?_) | (refine PIoL_some ?_) | (exact PIoL_none) | (refine pioL_oj_X6_close_75 hc hk7 ih ?_) | (refine pioL_oj_X6_close_70 hc hk7 ih ?_) | (refine hk7 _ _ _ ?_)))
theorem pioL_ol_X6_close_7  (hc : cQoL va fv call)  : ∀ (t : Nat) (x0 : Option Nat) (x1 : Int32) (σ : oSt), lgP va fv σ → PIo (lgP va fv) (ol_X6_close_7 n call κ  t x0 x1 σ) := by
  intro t
  induction t with
  | zero => intros; exact PIoL_none
  | succ t ih =>
    intro x0 x1 σ h
    rw [ol_X6_close_7]
    repeat' (with_reducible (first | assumption | (refine PIoL_gd ?_) | (refine PIoL_pf ?_ (by decide) (fun _ _ => ?_)) | (refine PIoL_si ?_ (fun _ _ => ?_)) | (refine PIoL_sj ?_ (by assumption) (fun _ _ => ?_)) | (refine PIoL_sr ?_ (fun _ _ => ?_)) | (refine PIoL_cy ?_ (by first | exact Or.inl ⟨_, by assumption⟩ | (refine Or.inr ⟨_, ?_, rfl⟩; assumption)) (fun _ _ => ?_)) | (refine PIoL_be (fun _ _ => ?_)) | (refine PIoL_na ?_ (fun _ _ => ?_)) | (refine PIoL_no ?_ (fun _ _ => ?_)) | (refine PIoL_ite ?_ ?_) | (refine PIoL_some ?_) | (exact PIoL_none) | (refine PIoL_cv (cQoL.c42 hc _ _ _ _ _ ?_) (fun _ _ => ?_)) | (refine pioL_oj_X6_close_90 hc  ?_) | (refine pioL_ol_X6_close_31 hc ih _ _ _ _ _ ?_)))
theorem pioL_ob_X6_close  {x0 : Option Nat} {σ : oSt} (hc : cQoL va fv call)  (h : lgP va fv σ) : PIo (lgP va fv) (ob_X6_close n call κ  x0 σ) := by
  unfold ob_X6_close
  repeat' (with_reducible (first | assumption | (refine PIoL_gd ?_) | (refine PIoL_pf ?_ (by decide) (fun _ _ => ?_)) | (refine PIoL_si ?_ (fun _ _ => ?_)) | (refine PIoL_sj ?_ (by assumption) (fun _ _ => ?_)) | (refine PIoL_sr ?_ (fun _ _ => ?_)) | (refine PIoL_cy ?_ (by first | exact Or.inl ⟨_, by assumption⟩ | (refine Or.inr ⟨_, ?_, rfl⟩; assumption)) (fun _ _ => ?_)) | (refine PIoL_be (fun _ _ => ?_)) | (refine PIoL_na ?_ (fun _ _ => ?_)) | (refine PIoL_no ?_ (fun _ _ => ?_)) | (refine PIoL_ite ?_ ?_) | (refine PIoL_some ?_) | (exact PIoL_none) | (refine pioL_ol_X6_close_7 hc  _ _ _ _ ?_)))
theorem pioL_oj_X1_conclude_81 {k25 : Option Nat → Option Nat → Int32 → Int32 → oSt → oRs} {x0 : Option Nat} {x1 : Option Nat} {x2 : Int32} {x3 : Int32} {σ : oSt} (hc : cQoL va fv call) (hk25 : ∀ (a0 : Option Nat) (a1 : Option Nat) (a2 : Int32) (a3 : Int32), ∀ σ, lgP va fv σ → PIo (lgP va fv) (k25 a0 a1 a2 a3 σ)) (h : lgP va fv σ) : PIo (lgP va fv) (oj_X1_conclude_81 n call κ k25 x0 x1 x2 x3 σ) := by
  unfold oj_X1_conclude_81
  repeat' (with_reducible (first | assumption | (refine PIoL_gd ?_) | (refine PIoL_pf ?_ (by decide) (fun _ _ => ?_)) | (refine PIoL_si ?_ (fun _ _ => ?_)) | (refine PIoL_sj ?_ (by assumption) (fun _ _ => ?_)) | (refine PIoL_sr ?_ (fun _ _ => ?_)) | (refine PIoL_cy ?_ (by first | exact Or.inl ⟨_, by assumption⟩ | (refine Or.inr ⟨_, ?_, rfl⟩; assumption)) (fun _ _ => ?_)) | (refine PIoL_be (fun _ _ => ?_)) | (refine PIoL_na ?_ (fun _ _ => ?_)) | (refine PIoL_no ?_ (fun _ _ => ?_)) | (refine PIoL_ite ?_ ?_) | (refine PIoL_some ?_) | (exact PIoL_none) | (refine hk25 _ _ _ _ _ ?_)))
theorem pioL_ol_X1_conclude_25  (hc : cQoL va fv call)  : ∀ (t : Nat) (x0 : Option Nat) (x1 : Option Nat) (x2 : Int32) (x3 : Int32) (σ : oSt), lgP va fv σ → PIo (lgP va fv) (ol_X1_conclude_25 n call κ  t x0 x1 x2 x3 σ) := by
  intro t
  induction t with
  | zero => intros; exact PIoL_none
  | succ t ih =>
    intro x0 x1 x2 x3 σ h
    rw [ol_X1_conclude_25]
    repeat' (with_reducible (first | assumption | (refine PIoL_gd ?_) | (refine PIoL_pf ?_ (by decide) (fun _ _ => ?_)) | (refine PIoL_si ?_ (fun _ _ => ?_)) | (refine PIoL_sj ?_ (by assumption) (fun _ _ => ?_)) | (refine PIoL_sr ?_ (fun _ _ => ?_)) | (refine PIoL_cy ?_ (by first | exact Or.inl ⟨_, by assumption⟩ | (refine Or.inr ⟨_, ?_, rfl⟩; assumption)) (fun _ _ => ?_)) | (refine PIoL_be (fun _ _ => ?_)) | (refine PIoL_na ?_ (fun _ _ => ?_)) | (refine PIoL_no ?_ (fun _ _ => ?_)) | (refine PIoL_ite ?_ ?_) | (refine PIoL_some ?_) | (exact PIoL_none) | (refine PIoL_cv (cQoL.c46 hc _ _ _ ?_) (fun _ _ => ?_)) | (refine PIoL_in (cQoL.c49 hc _ _ _ _ _ ?_) (fun _ _ _ => ?_)) | (refine pioL_oj_X1_conclude_81 hc ih ?_)))
theorem pioL_ob_X1_conclude  {x0 : Option Nat} {σ : oSt} (hc : cQoL va fv call)  (h : lgP va fv σ) : PIo (lgP va fv) (ob_X1_conclude n call κ  x0 σ) := by
  unfold ob_X1_conclude
  repeat' (with_reducible (first | assumption | (refine PIoL_gd ?_) | (refine PIoL_pf ?_ (by decide) (fun _ _ => ?_)) | (refine PIoL_si ?_ (fun _ _ => ?_)) | (refine PIoL_sj ?_ (by assumption) (fun _ _ => ?_)) | (refine PIoL_sr ?_ (fun _ _ => ?_)) | (refine PIoL_cy ?_ (by first | exact Or.inl ⟨_, by assumption⟩ | (refine Or.inr ⟨_, ?_, rfl⟩; assumption)) (fun _ _ => ?_)) | (refine PIoL_be (fun _ _ => ?_)) | (refine PIoL_na ?_ (fun _ _ => ?_)) | (refine PIoL_no ?_ (fun _ _ => ?_)) | (refine PIoL_ite ?_ ?_) | (refine PIoL_some ?_) | (exact PIoL_none) | (refine pioL_ol_X1_conclude_25 hc  _ _ _ _ _ _ ?_)))
theorem pioL_ob_X1_isDecided  {x0 : Option Nat} {σ : oSt} (hc : cQoL va fv call)  (h : lgP va fv σ) : PIo (lgP va fv) (ob_X1_isDecided n call κ  x0 σ) := by
  unfold ob_X1_isDecided
  repeat' (with_reducible (first | assumption | (refine PIoL_gd ?_) | (refine PIoL_pf ?_ (by decide) (fun _ _ => ?_)) | (refine PIoL_si ?_ (fun _ _ => ?_)) | (refine PIoL_sj ?_ (by assumption) (fun _ _ => ?_)) | (refine PIoL_sr ?_ (fun _ _ => ?_)) | (refine PIoL_cy ?_ (by first | exact Or.inl ⟨_, by assumption⟩ | (refine Or.inr ⟨_, ?_, rfl⟩; assumption)) (fun _ _ => ?_)) | (refine PIoL_be (fun _ _ => ?_)) | (refine PIoL_na ?_ (fun _ _ => ?_)) | (refine PIoL_no ?_ (fun _ _ => ?_)) | (refine PIoL_ite ?_ ?_) | (refine PIoL_some ?_) | (exact PIoL_none)))
theorem pioL_ob_X6_rise  {x0 : Option Nat} {σ : oSt} (hc : cQoL va fv call)  (h : lgP va fv σ) : PIo (lgP va fv) (ob_X6_rise n call κ  x0 σ) := by
  unfold ob_X6_rise
  repeat' (with_reducible (first | assumption | (refine PIoL_gd ?_) | (refine PIoL_pf ?_ (by decide) (fun _ _ => ?_)) | (refine PIoL_si ?_ (fun _ _ => ?_)) | (refine PIoL_sj ?_ (by assumption) (fun _ _ => ?_)) | (refine PIoL_sr ?_ (fun _ _ => ?_)) | (refine PIoL_cy ?_ (by first | exact Or.inl ⟨_, by assumption⟩ | (refine Or.inr ⟨_, ?_, rfl⟩; assumption)) (fun _ _ => ?_)) | (refine PIoL_be (fun _ _ => ?_)) | (refine PIoL_na ?_ (fun _ _ => ?_)) | (refine PIoL_no ?_ (fun _ _ => ?_)) | (refine PIoL_ite ?_ ?_) | (refine PIoL_some ?_) | (exact PIoL_none) | (refine PIoL_cv (cQoL.c40 hc _ _ _ ?_) (fun _ _ => ?_))))
theorem pioL_ob_X6_sink  {x0 : Option Nat} {σ : oSt} (hc : cQoL va fv call)  (h : lgP va fv σ) : PIo (lgP va fv) (ob_X6_sink n call κ  x0 σ) := by
  unfold ob_X6_sink
  repeat' (with_reducible (first | assumption | (refine PIoL_gd ?_) | (refine PIoL_pf ?_ (by decide) (fun _ _ => ?_)) | (refine PIoL_si ?_ (fun _ _ => ?_)) | (refine PIoL_sj ?_ (by assumption) (fun _ _ => ?_)) | (refine PIoL_sr ?_ (fun _ _ => ?_)) | (refine PIoL_cy ?_ (by first | exact Or.inl ⟨_, by assumption⟩ | (refine Or.inr ⟨_, ?_, rfl⟩; assumption)) (fun _ _ => ?_)) | (refine PIoL_be (fun _ _ => ?_)) | (refine PIoL_na ?_ (fun _ _ => ?_)) | (refine PIoL_no ?_ (fun _ _ => ?_)) | (refine PIoL_ite ?_ ?_) | (refine PIoL_some ?_) | (exact PIoL_none)))
theorem pioL_oj_X1_explore_146 {k76 : Option Nat → Int32 → Option Nat → Int32 → Int32 → Int32 → Int32 → Int32 → oSt → oRs} {x0 : Option Nat} {x1 : Int32} {x2 : Option Nat} {x3 : Int32} {x4 : Int32} {x5 : Int32} {x6 : Int32} {x7 : Int32} {σ : oSt} (hc : cQoL va fv call) (hk76 : ∀ (a0 : Option Nat) (a1 : Int32) (a2 : Option Nat) (a3 : Int32) (a4 : Int32) (a5 : Int32) (a6 : Int32) (a7 : Int32), ∀ σ, lgP va fv σ → PIo (lgP va fv) (k76 a0 a1 a2 a3 a4 a5 a6 a7 σ)) (h : lgP va fv σ) : PIo (lgP va fv) (oj_X1_explore_146 n call κ k76 x0 x1 x2 x3 x4 x5 x6 x7 σ) := by
  unfold oj_X1_explore_146
  repeat' (with_reducible (first | assumption | (refine PIoL_gd ?_) | (refine PIoL_pf ?_ (by decide) (fun _ _ => ?_)) | (refine PIoL_si ?_ (fun _ _ => ?_)) | (refine PIoL_sj ?_ (by assumption) (fun _ _ => ?_)) | (refine PIoL_sr ?_ (fun _ _ => ?_)) | (refine PIoL_cy ?_ (by first | exact Or.inl ⟨_, by assumption⟩ | (refine Or.inr ⟨_, ?_, rfl⟩; assumption)) (fun _ _ => ?_)) | (refine PIoL_be (fun _ _ => ?_)) | (refine PIoL_na ?_ (fun _ _ => ?_)) | (refine PIoL_no ?_ (fun _ _ => ?_)) | (refine PIoL_ite ?_ ?_) | (refine PIoL_some ?_) | (exact PIoL_none) | (refine PIoL_cv (cQoL.c62 hc _ _ ?_) (fun _ _ => ?_)) | (refine PIoL_cv (cQoL.c63 hc _ _ _ ?_) (fun _ _ => ?_)) | (refine hk76 _ _ _ _ _ _ _ _ _ ?_)))
theorem pioL_oj_X1_explore_122 {k76 : Option Nat → Int32 → Option Nat → Int32 → Int32 → Int32 → Int32 → Int32 → oSt → oRs} {x0 : Option Nat} {x1 : Int32} {x2 : Option Nat} {x3 : Int32} {x4 : Int32} {x5 : Int32} {x6 : Int32} {x7 : Int32} {t0 : Option Nat} {t1 : Option Nat} {t2 : Int32} {σ : oSt} (hc : cQoL va fv call) (hk76 : ∀ (a0 : Option Nat) (a1 : Int32) (a2 : Option Nat) (a3 : Int32) (a4 : Int32) (a5 : Int32) (a6 : Int32) (a7 : Int32), ∀ σ, lgP va fv σ → PIo (lgP va fv) (k76 a0 a1 a2 a3 a4 a5 a6 a7 σ)) (h : lgP va fv σ) : PIo (lgP va fv) (oj_X1_explore_122 n call κ k76 x0 x1 x2 x3 x4 x5 x6 x7 t0 t1 t2 σ) := by
  unfold oj_X1_explore_122
  repeat' (with_reducible (first | assumption | (refine PIoL_gd ?_) | (refine PIoL_pf ?_ (by decide) (fun _ _ => ?_)) | (refine PIoL_si ?_ (fun _ _ => ?_)) | (refine PIoL_sj ?_ (by assumption) (fun _ _ => ?_)) | (refine PIoL_sr ?_ (fun _ _ => ?_)) | (refine PIoL_cy ?_ (by first | exact Or.inl ⟨_, by assumption⟩ | (refine Or.inr ⟨_, ?_, rfl⟩; assumption)) (fun _ _ => ?_)) | (refine PIoL_be (fun _ _ => ?_)) | (refine PIoL_na ?_ (fun _ _ => ?_)) | (refine PIoL_no ?_ (fun _ _ => ?_)) | (refine PIoL_ite ?_ ?_) | (refine PIoL_some ?_) | (exact PIoL_none) | (refine PIoL_cv (cQoL.c54 hc _ _ _ _ _ ?_) (fun _ _ => ?_)) | (refine pioL_oj_X1_explore_146 hc hk76 ?_) | (refine hk76 _ _ _ _ _ _ _ _ _ ?_)))
theorem pioL_ol_X1_explore_76  (hc : cQoL va fv call)  : ∀ (t : Nat) (x0 : Option Nat) (x1 : Int32) (x2 : Option Nat) (x3 : Int32) (x4 : Int32) (x5 : Int32) (x6 : Int32) (x7 : Int32) (σ : oSt), lgP va fv σ → PIo (lgP va fv) (ol_X1_explore_76 n call κ  t x0 x1 x2 x3 x4 x5 x6 x7 σ) := by
  intro t
  induction t with
  | zero => intros; exact PIoL_none
  | succ t ih =>
    intro x0 x1 x2 x3 x4 x5 x6 x7 σ h
    rw [ol_X1_explore_76]
    repeat' (with_reducible (first | assumption | (refine PIoL_gd ?_) | (refine PIoL_pf ?_ (by decide) (fun _ _ => ?_)) | (refine PIoL_si ?_ (fun _ _ => ?_)) | (refine PIoL_sj ?_ (by assumption) (fun _ _ => ?_)) | (refine PIoL_sr ?_ (fun _ _ => ?_)) | (refine PIoL_cy ?_ (by first | exact Or.inl ⟨_, by assumption⟩ | (refine Or.inr ⟨_, ?_, rfl⟩; assumption)) (fun _ _ => ?_)) | (refine PIoL_be (fun _ _ => ?_)) | (refine PIoL_na ?_ (fun _ _ => ?_)) | (refine PIoL_no ?_ (fun _ _ => ?_)) | (refine PIoL_ite ?_ ?_) | (refine PIoL_some ?_) | (exact PIoL_none) | (refine PIoL_cv (cQoL.c56 hc _ _ _ _ ?_) (fun _ _ => ?_)) | (refine PIoL_cv (cQoL.c61 hc _ _ ?_) (fun _ _ => ?_)) | (refine PIoL_in (cQoL.c60 hc _ _ ?_) (fun _ _ _ => ?_)) | (refine PIoL_rn (cQoL.c234 hc _ _ _ ?_) (fun _ _ _ => ?_)) | (refine pioL_oj_X1_explore_122 hc ih ?_) | (refine pioL_oj_X1_explore_146 hc ih ?_)))
theorem pioL_oj_X1_explore_71  {x0 : Option Nat} {x1 : Int32} {x2 : Option Nat} {x3 : Int32} {x4 : Int32} {x5 : Int32} {t0 : Int32} {σ : oSt} (hc : cQoL va fv call)  (h : lgP va fv σ) : PIo (lgP va fv) (oj_X1_explore_71 n call κ  x0 x1 x2 x3 x4 x5 t0 σ) := by
  unfold oj_X1_explore_71
  repeat' (with_reducible (first | assumption | (refine PIoL_gd ?_) | (refine PIoL_pf ?_ (by decide) (fun _ _ => ?_)) | (refine PIoL_si ?_ (fun _ _ => ?_)) | (refine PIoL_sj ?_ (by assumption) (fun _ _ => ?_)) | (refine PIoL_sr ?_ (fun _ _ => ?_)) | (refine PIoL_cy ?_ (by first | exact Or.inl ⟨_, by assumption⟩ | (refine Or.inr ⟨_, ?_, rfl⟩; assumption)) (fun _ _ => ?_)) | (refine PIoL_be (fun _ _ => ?_)) | (refine PIoL_na ?_ (fun _ _ => ?_)) | (refine PIoL_no ?_ (fun _ _ => ?_)) | (refine PIoL_ite ?_ ?_) | (refine PIoL_some ?_) | (exact PIoL_none) | (refine pioL_ol_X1_explore_76 hc  _ _ _ _ _ _ _ _ _ _ ?_)))
theorem pioL_ob_X1_explore  {x0 : Option Nat} {x1 : Int32} {σ : oSt} (hc : cQoL va fv call)  (h : lgP va fv σ) : PIo (lgP va fv) (ob_X1_explore n call κ  x0 x1 σ) := by
  unfold ob_X1_explore
  repeat' (with_reducible (first | assumption | (refine PIoL_gd ?_) | (refine PIoL_pf ?_ (by decide) (fun _ _ => ?_)) | (refine PIoL_si ?_ (fun _ _ => ?_)) | (refine PIoL_sj ?_ (by assumption) (fun _ _ => ?_)) | (refine PIoL_sr ?_ (fun _ _ => ?_)) | (refine PIoL_cy ?_ (by first | exact Or.inl ⟨_, by assumption⟩ | (refine Or.inr ⟨_, ?_, rfl⟩; assumption)) (fun _ _ => ?_)) | (refine PIoL_be (fun _ _ => ?_)) | (refine PIoL_na ?_ (fun _ _ => ?_)) | (refine PIoL_no ?_ (fun _ _ => ?_)) | (refine PIoL_ite ?_ ?_) | (refine PIoL_some ?_) | (exact PIoL_none) | (refine PIoL_cv (cQoL.c59 hc _ _ ?_) (fun _ _ => ?_)) | (refine PIoL_in (cQoL.c236 hc _ _ ?_) (fun _ _ _ => ?_)) | (refine pioL_oj_X1_explore_71 hc  ?_)))
theorem pioL_oj_X1_isSure_18  {x0 : Option Nat} {x1 : Option Nat} {x2 : Option Nat} {t0 : Option Nat} {t1 : Int32} {σ : oSt} (hc : cQoL va fv call)  (h : lgP va fv σ) : PIo (lgP va fv) (oj_X1_isSure_18 n call κ  x0 x1 x2 t0 t1 σ) := by
  unfold oj_X1_isSure_18
  repeat' (with_reducible (first | assumption | (refine PIoL_gd ?_) | (refine PIoL_pf ?_ (by decide) (fun _ _ => ?_)) | (refine PIoL_si ?_ (fun _ _ => ?_)) | (refine PIoL_sj ?_ (by assumption) (fun _ _ => ?_)) | (refine PIoL_sr ?_ (fun _ _ => ?_)) | (refine PIoL_cy ?_ (by first | exact Or.inl ⟨_, by assumption⟩ | (refine Or.inr ⟨_, ?_, rfl⟩; assumption)) (fun _ _ => ?_)) | (refine PIoL_be (fun _ _ => ?_)) | (refine PIoL_na ?_ (fun _ _ => ?_)) | (refine PIoL_no ?_ (fun _ _ => ?_)) | (refine PIoL_ite ?_ ?_) | (refine PIoL_some ?_) | (exact PIoL_none) | (refine PIoL_cv (cQoL.c56 hc _ _ _ _ ?_) (fun _ _ => ?_)) | (refine PIoL_cv (cQoL.c57 hc _ _ _ _ ?_) (fun _ _ => ?_)) | (refine PIoL_cv (cQoL.c58 hc _ _ ?_) (fun _ _ => ?_)) | (refine PIoL_cv (cQoL.c63 hc _ _ _ ?_) (fun _ _ => ?_))))
theorem pioL_ob_X1_isSure  {x0 : Option Nat} {x1 : Option Nat} {x2 : Option Nat} {σ : oSt} (hc : cQoL va fv call)  (h : lgP va fv σ) : PIo (lgP va fv) (ob_X1_isSure n call κ  x0 x1 x2 σ) := by
  unfold ob_X1_isSure
  repeat' (with_reducible (first | assumption | (refine PIoL_gd ?_) | (refine PIoL_pf ?_ (by decide) (fun _ _ => ?_)) | (refine PIoL_si ?_ (fun _ _ => ?_)) | (refine PIoL_sj ?_ (by assumption) (fun _ _ => ?_)) | (refine PIoL_sr ?_ (fun _ _ => ?_)) | (refine PIoL_cy ?_ (by first | exact Or.inl ⟨_, by assumption⟩ | (refine Or.inr ⟨_, ?_, rfl⟩; assumption)) (fun _ _ => ?_)) | (refine PIoL_be (fun _ _ => ?_)) | (refine PIoL_na ?_ (fun _ _ => ?_)) | (refine PIoL_no ?_ (fun _ _ => ?_)) | (refine PIoL_ite ?_ ?_) | (refine PIoL_some ?_) | (exact PIoL_none) | (refine PIoL_in (cQoL.c39 hc _ _ ?_) (fun _ _ _ => ?_)) | (refine pioL_oj_X1_isSure_18 hc  ?_)))
theorem pioL_oj_X0_findDoubt_69 {k2 : Option Nat → Int32 → oSt → oRs} {x0 : Option Nat} {x1 : Int32} {σ : oSt} (hc : cQoL va fv call) (hk2 : ∀ (a0 : Option Nat) (a1 : Int32), ∀ σ, lgP va fv σ → PIo (lgP va fv) (k2 a0 a1 σ)) (h : lgP va fv σ) : PIo (lgP va fv) (oj_X0_findDoubt_69 n call κ k2 x0 x1 σ) := by
  unfold oj_X0_findDoubt_69
  repeat' (with_reducible (first | assumption | (refine PIoL_gd ?_) | (refine PIoL_pf ?_ (by decide) (fun _ _ => ?_)) | (refine PIoL_si ?_ (fun _ _ => ?_)) | (refine PIoL_sj ?_ (by assumption) (fun _ _ => ?_)) | (refine PIoL_sr ?_ (fun _ _ => ?_)) | (refine PIoL_cy ?_ (by first | exact Or.inl ⟨_, by assumption⟩ | (refine Or.inr ⟨_, ?_, rfl⟩; assumption)) (fun _ _ => ?_)) | (refine PIoL_be (fun _ _ => ?_)) | (refine PIoL_na ?_ (fun _ _ => ?_)) | (refine PIoL_no ?_ (fun _ _ => ?_)) | (refine PIoL_ite ?_ ?_) | (refine PIoL_some ?_) | (exact PIoL_none) | (refine hk2 _ _ _ ?_)))
theorem pioL_oj_X0_findDoubt_43 {k2 : Option Nat → Int32 → oSt → oRs} {x0 : Option Nat} {x1 : Int32} {x2 : Option Nat} {σ : oSt} (hc : cQoL va fv call) (hk2 : ∀ (a0 : Option Nat) (a1 : Int32), ∀ σ, lgP va fv σ → PIo (lgP va fv) (k2 a0 a1 σ)) (h : lgP va fv σ) : PIo (lgP va fv) (oj_X0_findDoubt_43 n call κ k2 x0 x1 x2 σ) := by
  unfold oj_X0_findDoubt_43
  repeat' (with_reducible (first | assumption | (refine PIoL_gd ?_) | (refine PIoL_pf ?_ (by decide) (fun _ _ => ?_)) | (refine PIoL_si ?_ (fun _ _ => ?_)) | (refine PIoL_sj ?_ (by assumption) (fun _ _ => ?_)) | (refine PIoL_sr ?_ (fun _ _ => ?_)) | (refine PIoL_cy ?_ (by first | exact Or.inl ⟨_, by assumption⟩ | (refine Or.inr ⟨_, ?_, rfl⟩; assumption)) (fun _ _ => ?_)) | (refine PIoL_be (fun _ _ => ?_)) | (refine PIoL_na ?_ (fun _ _ => ?_)) | (refine PIoL_no ?_ (fun _ _ => ?_)) | (refine PIoL_ite ?_ ?_) | (refine PIoL_some ?_) | (exact PIoL_none) | (refine PIoL_in (cQoL.c64 hc _ _ _ _ ?_) (fun _ _ _ => ?_)) | (refine pioL_oj_X0_findDoubt_69 hc hk2 ?_) | (refine hk2 _ _ _ ?_)))
theorem pioL_ol_X0_findDoubt_2  (hc : cQoL va fv call)  : ∀ (t : Nat) (x0 : Option Nat) (x1 : Int32) (σ : oSt), lgP va fv σ → PIo (lgP va fv) (ol_X0_findDoubt_2 n call κ  t x0 x1 σ) := by
  intro t
  induction t with
  | zero => intros; exact PIoL_none
  | succ t ih =>
    intro x0 x1 σ h
    rw [ol_X0_findDoubt_2]
    repeat' (with_reducible (first | assumption | (refine PIoL_gd ?_) | (refine PIoL_pf ?_ (by decide) (fun _ _ => ?_)) | (refine PIoL_si ?_ (fun _ _ => ?_)) | (refine PIoL_sj ?_ (by assumption) (fun _ _ => ?_)) | (refine PIoL_sr ?_ (fun _ _ => ?_)) | (refine PIoL_cy ?_ (by first | exact Or.inl ⟨_, by assumption⟩ | (refine Or.inr ⟨_, ?_, rfl⟩; assumption)) (fun _ _ => ?_)) | (refine PIoL_be (fun _ _ => ?_)) | (refine PIoL_na ?_ (fun _ _ => ?_)) | (refine PIoL_no ?_ (fun _ _ => ?_)) | (refine PIoL_ite ?_ ?_) | (refine PIoL_some ?_) | (exact PIoL_none) | (refine PIoL_in (cQoL.c236 hc _ _ ?_) (fun _ _ _ => ?_)) | (refine PIoL_rn (cQoL.c234 hc _ _ _ ?_) (fun _ _ _ => ?_)) | (refine pioL_oj_X0_findDoubt_43 hc ih ?_) | (refine pioL_oj_X0_findDoubt_69 hc ih ?_)))
theorem pioL_ob_X0_findDoubt  {x0 : Option Nat} {σ : oSt} (hc : cQoL va fv call)  (h : lgP va fv σ) : PIo (lgP va fv) (ob_X0_findDoubt n call κ  x0 σ) := by
  unfold ob_X0_findDoubt
  repeat' (with_reducible (first | assumption | (refine PIoL_gd ?_) | (refine PIoL_pf ?_ (by decide) (fun _ _ => ?_)) | (refine PIoL_si ?_ (fun _ _ => ?_)) | (refine PIoL_sj ?_ (by assumption) (fun _ _ => ?_)) | (refine PIoL_sr ?_ (fun _ _ => ?_)) | (refine PIoL_cy ?_ (by first | exact Or.inl ⟨_, by assumption⟩ | (refine Or.inr ⟨_, ?_, rfl⟩; assumption)) (fun _ _ => ?_)) | (refine PIoL_be (fun _ _ => ?_)) | (refine PIoL_na ?_ (fun _ _ => ?_)) | (refine PIoL_no ?_ (fun _ _ => ?_)) | (refine PIoL_ite ?_ ?_) | (refine PIoL_some ?_) | (exact PIoL_none) | (refine pioL_ol_X0_findDoubt_2 hc  _ _ _ _ ?_)))
theorem pioL_oj_X0_lastChange_69 {k30 : Int32 → Option Nat → oSt → oRs} {x2 : Int32} {x3 : Option Nat} {σ : oSt} (hc : cQoL va fv call) (hk30 : ∀ (a0 : Int32) (a1 : Option Nat), ∀ σ, lgP va fv σ → PIo (lgP va fv) (k30 a0 a1 σ)) (h : lgP va fv σ) : PIo (lgP va fv) (oj_X0_lastChange_69 n call κ k30 x2 x3 σ) := by
  unfold oj_X0_lastChange_69
  repeat' (with_reducible (first | assumption | (refine PIoL_gd ?_) | (refine PIoL_pf ?_ (by decide) (fun _ _ => ?_)) | (refine PIoL_si ?_ (fun _ _ => ?_)) | (refine PIoL_sj ?_ (by assumption) (fun _ _ => ?_)) | (refine PIoL_sr ?_ (fun _ _ => ?_)) | (refine PIoL_cy ?_ (by first | exact Or.inl ⟨_, by assumption⟩ | (refine Or.inr ⟨_, ?_, rfl⟩; assumption)) (fun _ _ => ?_)) | (refine PIoL_be (fun _ _ => ?_)) | (refine PIoL_na ?_ (fun _ _ => ?_)) | (refine PIoL_no ?_ (fun _ _ => ?_)) | (refine PIoL_ite ?_ ?_) | (refine PIoL_some ?_) | (exact PIoL_none) | (refine hk30 _ _ _ ?_)))
theorem pioL_ol_X0_lastChange_30  (hc : cQoL va fv call)  : ∀ (t : Nat) (x0 : Int32) (x1 : Option Nat) (σ : oSt), lgP va fv σ → PIo (lgP va fv) (ol_X0_lastChange_30 n call κ  t x0 x1 σ) := by
  intro t
  induction t with
  | zero => intros; exact PIoL_none
  | succ t ih =>
    intro x0 x1 σ h
    rw [ol_X0_lastChange_30]
    repeat' (with_reducible (first | assumption | (refine PIoL_gd ?_) | (refine PIoL_pf ?_ (by decide) (fun _ _ => ?_)) | (refine PIoL_si ?_ (fun _ _ => ?_)) | (refine PIoL_sj ?_ (by assumption) (fun _ _ => ?_)) | (refine PIoL_sr ?_ (fun _ _ => ?_)) | (refine PIoL_cy ?_ (by first | exact Or.inl ⟨_, by assumption⟩ | (refine Or.inr ⟨_, ?_, rfl⟩; assumption)) (fun _ _ => ?_)) | (refine PIoL_be (fun _ _ => ?_)) | (refine PIoL_na ?_ (fun _ _ => ?_)) | (refine PIoL_no ?_ (fun _ _ => ?_)) | (refine PIoL_ite ?_ ?_) | (refine PIoL_some ?_) | (exact PIoL_none) | (refine pioL_oj_X0_lastChange_69 hc ih ?_)))
theorem pioL_ob_X0_lastChange  {x0 : Option Nat} {x1 : Int32} {σ : oSt} (hc : cQoL va fv call)  (h : lgP va fv σ) : PIo (lgP va fv) (ob_X0_lastChange n call κ  x0 x1 σ) := by
  unfold ob_X0_lastChange
  repeat' (with_reducible (first | assumption | (refine PIoL_gd ?_) | (refine PIoL_pf ?_ (by decide) (fun _ _ => ?_)) | (refine PIoL_si ?_ (fun _ _ => ?_)) | (refine PIoL_sj ?_ (by assumption) (fun _ _ => ?_)) | (refine PIoL_sr ?_ (fun _ _ => ?_)) | (refine PIoL_cy ?_ (by first | exact Or.inl ⟨_, by assumption⟩ | (refine Or.inr ⟨_, ?_, rfl⟩; assumption)) (fun _ _ => ?_)) | (refine PIoL_be (fun _ _ => ?_)) | (refine PIoL_na ?_ (fun _ _ => ?_)) | (refine PIoL_no ?_ (fun _ _ => ?_)) | (refine PIoL_ite ?_ ?_) | (refine PIoL_some ?_) | (exact PIoL_none) | (refine PIoL_rn (cQoL.c234 hc _ _ _ ?_) (fun _ _ _ => ?_)) | (refine pioL_ol_X0_lastChange_30 hc  _ _ _ _ ?_)))
theorem pioL_ob_X1_weaken  {x0 : Option Nat} {x1 : Option Nat} {x2 : Option Nat} {x3 : Option Nat} {σ : oSt} (hc : cQoL va fv call)  (h : lgP va fv σ) : PIo (lgP va fv) (ob_X1_weaken n call κ  x0 x1 x2 x3 σ) := by
  unfold ob_X1_weaken
  repeat' (with_reducible (first | assumption | (refine PIoL_gd ?_) | (refine PIoL_pf ?_ (by decide) (fun _ _ => ?_)) | (refine PIoL_si ?_ (fun _ _ => ?_)) | (refine PIoL_sj ?_ (by assumption) (fun _ _ => ?_)) | (refine PIoL_sr ?_ (fun _ _ => ?_)) | (refine PIoL_cy ?_ (by first | exact Or.inl ⟨_, by assumption⟩ | (refine Or.inr ⟨_, ?_, rfl⟩; assumption)) (fun _ _ => ?_)) | (refine PIoL_be (fun _ _ => ?_)) | (refine PIoL_na ?_ (fun _ _ => ?_)) | (refine PIoL_no ?_ (fun _ _ => ?_)) | (refine PIoL_ite ?_ ?_) | (refine PIoL_some ?_) | (exact PIoL_none) | (refine PIoL_cv (cQoL.c57 hc _ _ _ _ ?_) (fun _ _ => ?_)) | (refine PIoL_cv (cQoL.c58 hc _ _ ?_) (fun _ _ => ?_)) | (refine PIoL_cv (cQoL.c63 hc _ _ _ ?_) (fun _ _ => ?_))))
theorem pioL_oj_X0_weakenAll_140 {k17 : Option Nat → Option Nat → Int32 → Int32 → Int32 → oSt → oRs} {k33 : Option Nat → Option Nat → Int32 → Int32 → Int32 → Int32 → oSt → oRs} {x0 : Option Nat} {x1 : Option Nat} {x2 : Int32} {x3 : Int32} {x4 : Int32} {x5 : Int32} {σ : oSt} (hc : cQoL va fv call) (hk17 : ∀ (a0 : Option Nat) (a1 : Option Nat) (a2 : Int32) (a3 : Int32) (a4 : Int32), ∀ σ, lgP va fv σ → PIo (lgP va fv) (k17 a0 a1 a2 a3 a4 σ)) (hk33 : ∀ (a0 : Option Nat) (a1 : Option Nat) (a2 : Int32) (a3 : Int32) (a4 : Int32) (a5 : Int32), ∀ σ, lgP va fv σ → PIo (lgP va fv) (k33 a0 a1 a2 a3 a4 a5 σ)) (h : lgP va fv σ) : PIo (lgP va fv) (oj_X0_weakenAll_140 n call κ k17 k33 x0 x1 x2 x3 x4 x5 σ) := by
  unfold oj_X0_weakenAll_140
  repeat' (with_reducible (first | assumption | (refine PIoL_gd ?_) | (refine PIoL_pf ?_ (by decide) (fun _ _ => ?_)) | (refine PIoL_si ?_ (fun _ _ => ?_)) | (refine PIoL_sj ?_ (by assumption) (fun _ _ => ?_)) | (refine PIoL_sr ?_ (fun _ _ => ?_)) | (refine PIoL_cy ?_ (by first | exact Or.inl ⟨_, by assumption⟩ | (refine Or.inr ⟨_, ?_, rfl⟩; assumption)) (fun _ _ => ?_)) | (refine PIoL_be (fun _ _ => ?_)) | (refine PIoL_na ?_ (fun _ _ => ?_)) | (refine PIoL_no ?_ (fun _ _ => ?_)) | (refine PIoL_ite ?_ ?_) | (refine PIoL_some ?_) | (exact PIoL_none) | (refine hk17 _ _ _ _ _ _ ?_) | (refine hk33 _ _ _ _ _ _ _ ?_)))
theorem pioL_ol_X0_weakenAll_33 {k17 : Option Nat → Option Nat → Int32 → Int32 → Int32 → oSt → oRs} (hc : cQoL va fv call) (hk17 : ∀ (a0 : Option Nat) (a1 : Option Nat) (a2 : Int32) (a3 : Int32) (a4 : Int32), ∀ σ, lgP va fv σ → PIo (lgP va fv) (k17 a0 a1 a2 a3 a4 σ)) : ∀ (t : Nat) (x0 : Option Nat) (x1 : Option Nat) (x2 : Int32) (x3 : Int32) (x4 : Int32) (x5 : Int32) (σ : oSt), lgP va fv σ → PIo (lgP va fv) (ol_X0_weakenAll_33 n call κ k17 t x0 x1 x2 x3 x4 x5 σ) := by
  intro t
  induction t with
  | zero => intros; exact PIoL_none
  | succ t ih =>
    intro x0 x1 x2 x3 x4 x5 σ h
    rw [ol_X0_weakenAll_33]
    repeat' (with_reducible (first | assumption | (refine PIoL_gd ?_) | (refine PIoL_pf ?_ (by decide) (fun _ _ => ?_)) | (refine PIoL_si ?_ (fun _ _ => ?_)) | (refine PIoL_sj ?_ (by assumption) (fun _ _ => ?_)) | (refine PIoL_sr ?_ (fun _ _ => ?_)) | (refine PIoL_cy ?_ (by first | exact Or.inl ⟨_, by assumption⟩ | (refine Or.inr ⟨_, ?_, rfl⟩; assumption)) (fun _ _ => ?_)) | (refine PIoL_be (fun _ _ => ?_)) | (refine PIoL_na ?_ (fun _ _ => ?_)) | (refine PIoL_no ?_ (fun _ _ => ?_)) | (refine PIoL_ite ?_ ?_) | (refine PIoL_some ?_) | (exact PIoL_none) | (refine PIoL_in (cQoL.c66 hc _ _ _ ?_) (fun _ _ _ => ?_)) | (refine PIoL_in (cQoL.c67 hc _ _ _ _ _ ?_) (fun _ _ _ => ?_)) | (refine PIoL_rn (cQoL.c234 hc _ _ _ ?_) (fun _ _ _ => ?_)) | (refine pioL_oj_X0_weakenAll_140 hc hk17 ih ?_) | (refine hk17 _ _ _ _ _ _ ?_)))
theorem pioL_ol_X0_weakenAll_17  (hc : cQoL va fv call)  : ∀ (t : Nat) (x0 : Option Nat) (x1 : Option Nat) (x2 : Int32) (x3 : Int32) (x4 : Int32) (σ : oSt), lgP va fv σ → PIo (lgP va fv) (ol_X0_weakenAll_17 n call κ  t x0 x1 x2 x3 x4 σ) := by
  intro t
  induction t with
  | zero => intros; exact PIoL_none
  | succ t ih =>
    intro x0 x1 x2 x3 x4 σ h
    rw [ol_X0_weakenAll_17]
    repeat' (with_reducible (first | assumption | (refine PIoL_gd ?_) | (refine PIoL_pf ?_ (by decide) (fun _ _ => ?_)) | (refine PIoL_si ?_ (fun _ _ => ?_)) | (refine PIoL_sj ?_ (by assumption) (fun _ _ => ?_)) | (refine PIoL_sr ?_ (fun _ _ => ?_)) | (refine PIoL_cy ?_ (by first | exact Or.inl ⟨_, by assumption⟩ | (refine Or.inr ⟨_, ?_, rfl⟩; assumption)) (fun _ _ => ?_)) | (refine PIoL_be (fun _ _ => ?_)) | (refine PIoL_na ?_ (fun _ _ => ?_)) | (refine PIoL_no ?_ (fun _ _ => ?_)) | (refine PIoL_ite ?_ ?_) | (refine PIoL_some ?_) | (exact PIoL_none) | (refine pioL_ol_X0_weakenAll_33 hc ih _ _ _ _ _ _ _ _ ?_)))
theorem pioL_ob_X0_weakenAll  {x0 : Option Nat} {σ : oSt} (hc : cQoL va fv call)  (h : lgP va fv σ) : PIo (lgP va fv) (ob_X0_weakenAll n call κ  x0 σ) := by
  unfold ob_X0_weakenAll
  repeat' (with_reducible (first | assumption | (refine PIoL_gd ?_) | (refine PIoL_pf ?_ (by decide) (fun _ _ => ?_)) | (refine PIoL_si ?_ (fun _ _ => ?_)) | (refine PIoL_sj ?_ (by assumption) (fun _ _ => ?_)) | (refine PIoL_sr ?_ (fun _ _ => ?_)) | (refine PIoL_cy ?_ (by first | exact Or.inl ⟨_, by assumption⟩ | (refine Or.inr ⟨_, ?_, rfl⟩; assumption)) (fun _ _ => ?_)) | (refine PIoL_be (fun _ _ => ?_)) | (refine PIoL_na ?_ (fun _ _ => ?_)) | (refine PIoL_no ?_ (fun _ _ => ?_)) | (refine PIoL_ite ?_ ?_) | (refine PIoL_some ?_) | (exact PIoL_none) | (refine PIoL_in (cQoL.c236 hc _ _ ?_) (fun _ _ _ => ?_)) | (refine pioL_ol_X0_weakenAll_17 hc  _ _ _ _ _ _ _ ?_)))
theorem pioL_oj_X12_accepted_60  {x0 : Option Nat} {σ : oSt} (hc : cQoL va fv call)  (h : lgP va fv σ) : PIo (lgP va fv) (oj_X12_accepted_60 n call κ  x0 σ) := by
  unfold oj_X12_accepted_60
  repeat' (with_reducible (first | assumption | (refine PIoL_gd ?_) | (refine PIoL_pf ?_ (by decide) (fun _ _ => ?_)) | (refine PIoL_si ?_ (fun _ _ => ?_)) | (refine PIoL_sj ?_ (by assumption) (fun _ _ => ?_)) | (refine PIoL_sr ?_ (fun _ _ => ?_)) | (refine PIoL_cy ?_ (by first | exact Or.inl ⟨_, by assumption⟩ | (refine Or.inr ⟨_, ?_, rfl⟩; assumption)) (fun _ _ => ?_)) | (refine PIoL_be (fun _ _ => ?_)) | (refine PIoL_na ?_ (fun _ _ => ?_)) | (refine PIoL_no ?_ (fun _ _ => ?_)) | (refine PIoL_ite ?_ ?_) | (refine PIoL_some ?_) | (exact PIoL_none)))
theorem pioL_ob_X12_accepted  {x0 : Option Nat} {σ : oSt} (hc : cQoL va fv call)  (h : lgP va fv σ) : PIo (lgP va fv) (ob_X12_accepted n call κ  x0 σ) := by
  unfold ob_X12_accepted
  repeat' (with_reducible (first | assumption | (refine PIoL_gd ?_) | (refine PIoL_pf ?_ (by decide) (fun _ _ => ?_)) | (refine PIoL_si ?_ (fun _ _ => ?_)) | (refine PIoL_sj ?_ (by assumption) (fun _ _ => ?_)) | (refine PIoL_sr ?_ (fun _ _ => ?_)) | (refine PIoL_cy ?_ (by first | exact Or.inl ⟨_, by assumption⟩ | (refine Or.inr ⟨_, ?_, rfl⟩; assumption)) (fun _ _ => ?_)) | (refine PIoL_be (fun _ _ => ?_)) | (refine PIoL_na ?_ (fun _ _ => ?_)) | (refine PIoL_no ?_ (fun _ _ => ?_)) | (refine PIoL_ite ?_ ?_) | (refine PIoL_some ?_) | (exact PIoL_none) | (refine PIoL_cv (cQoL.c0 hc _ _ _ _ _ ?_) (fun _ _ => ?_)) | (refine PIoL_cv (cQoL.c37 hc _ _ ?_) (fun _ _ => ?_)) | (refine PIoL_cv (cQoL.c65 hc _ _ ?_) (fun _ _ => ?_)) | (refine PIoL_cv (cQoL.c68 hc _ _ ?_) (fun _ _ => ?_)) | (refine pioL_oj_X12_accepted_60 hc  ?_)))
theorem pioL_ob_J15_checkIndex_7cf53  {x0 : Int32} {x1 : Int32} {σ : oSt} (hc : cQoL va fv call)  (h : lgP va fv σ) : PIo (lgP va fv) (ob_J15_checkIndex_7cf53 n call κ  x0 x1 σ) := by
  unfold ob_J15_checkIndex_7cf53
  repeat' (with_reducible (first | assumption | (refine PIoL_gd ?_) | (refine PIoL_pf ?_ (by decide) (fun _ _ => ?_)) | (refine PIoL_si ?_ (fun _ _ => ?_)) | (refine PIoL_sj ?_ (by assumption) (fun _ _ => ?_)) | (refine PIoL_sr ?_ (fun _ _ => ?_)) | (refine PIoL_cy ?_ (by first | exact Or.inl ⟨_, by assumption⟩ | (refine Or.inr ⟨_, ?_, rfl⟩; assumption)) (fun _ _ => ?_)) | (refine PIoL_be (fun _ _ => ?_)) | (refine PIoL_na ?_ (fun _ _ => ?_)) | (refine PIoL_no ?_ (fun _ _ => ?_)) | (refine PIoL_ite ?_ ?_) | (refine PIoL_some ?_) | (exact PIoL_none) | (refine PIoL_in (cQoL.c206 hc _ _ _ _ ?_) (fun _ _ _ => ?_))))
theorem pioL_oj_J3_checkIndex_8e157_9  {x0 : Int32} {x1 : Int32} {x2 : Option Nat} {σ : oSt} (hc : cQoL va fv call)  (h : lgP va fv σ) : PIo (lgP va fv) (oj_J3_checkIndex_8e157_9 n call κ  x0 x1 x2 σ) := by
  unfold oj_J3_checkIndex_8e157_9
  repeat' (with_reducible (first | assumption | (refine PIoL_gd ?_) | (refine PIoL_pf ?_ (by decide) (fun _ _ => ?_)) | (refine PIoL_si ?_ (fun _ _ => ?_)) | (refine PIoL_sj ?_ (by assumption) (fun _ _ => ?_)) | (refine PIoL_sr ?_ (fun _ _ => ?_)) | (refine PIoL_cy ?_ (by first | exact Or.inl ⟨_, by assumption⟩ | (refine Or.inr ⟨_, ?_, rfl⟩; assumption)) (fun _ _ => ?_)) | (refine PIoL_be (fun _ _ => ?_)) | (refine PIoL_na ?_ (fun _ _ => ?_)) | (refine PIoL_no ?_ (fun _ _ => ?_)) | (refine PIoL_ite ?_ ?_) | (refine PIoL_some ?_) | (exact PIoL_none)))
theorem pioL_ob_J3_checkIndex_8e157  {x0 : Int32} {x1 : Int32} {x2 : Option Nat} {σ : oSt} (hc : cQoL va fv call)  (h : lgP va fv σ) : PIo (lgP va fv) (ob_J3_checkIndex_8e157 n call κ  x0 x1 x2 σ) := by
  unfold ob_J3_checkIndex_8e157
  repeat' (with_reducible (first | assumption | (refine PIoL_gd ?_) | (refine PIoL_pf ?_ (by decide) (fun _ _ => ?_)) | (refine PIoL_si ?_ (fun _ _ => ?_)) | (refine PIoL_sj ?_ (by assumption) (fun _ _ => ?_)) | (refine PIoL_sr ?_ (fun _ _ => ?_)) | (refine PIoL_cy ?_ (by first | exact Or.inl ⟨_, by assumption⟩ | (refine Or.inr ⟨_, ?_, rfl⟩; assumption)) (fun _ _ => ?_)) | (refine PIoL_be (fun _ _ => ?_)) | (refine PIoL_na ?_ (fun _ _ => ?_)) | (refine PIoL_no ?_ (fun _ _ => ?_)) | (refine PIoL_ite ?_ ?_) | (refine PIoL_some ?_) | (exact PIoL_none) | (refine pioL_oj_J3_checkIndex_8e157_9 hc  ?_)))
theorem pioL_ob_Jx4a65c_init_da8c8  {x0 : Option Nat} {σ : oSt} (hc : cQoL va fv call)  (h : lgP va fv σ) : PIo (lgP va fv) (ob_Jx4a65c_init_da8c8 n call κ  x0 σ) := by
  unfold ob_Jx4a65c_init_da8c8
  repeat' (with_reducible (first | assumption | (refine PIoL_gd ?_) | (refine PIoL_pf ?_ (by decide) (fun _ _ => ?_)) | (refine PIoL_si ?_ (fun _ _ => ?_)) | (refine PIoL_sj ?_ (by assumption) (fun _ _ => ?_)) | (refine PIoL_sr ?_ (fun _ _ => ?_)) | (refine PIoL_cy ?_ (by first | exact Or.inl ⟨_, by assumption⟩ | (refine Or.inr ⟨_, ?_, rfl⟩; assumption)) (fun _ _ => ?_)) | (refine PIoL_be (fun _ _ => ?_)) | (refine PIoL_na ?_ (fun _ _ => ?_)) | (refine PIoL_no ?_ (fun _ _ => ?_)) | (refine PIoL_ite ?_ ?_) | (refine PIoL_some ?_) | (exact PIoL_none) | (refine PIoL_cv (cQoL.c225 hc _ _ ?_) (fun _ _ => ?_))))
theorem pioL_ob_Jxc12de_init_da8c8  {x0 : Option Nat} {σ : oSt} (hc : cQoL va fv call)  (h : lgP va fv σ) : PIo (lgP va fv) (ob_Jxc12de_init_da8c8 n call κ  x0 σ) := by
  unfold ob_Jxc12de_init_da8c8
  repeat' (with_reducible (first | assumption | (refine PIoL_gd ?_) | (refine PIoL_pf ?_ (by decide) (fun _ _ => ?_)) | (refine PIoL_si ?_ (fun _ _ => ?_)) | (refine PIoL_sj ?_ (by assumption) (fun _ _ => ?_)) | (refine PIoL_sr ?_ (fun _ _ => ?_)) | (refine PIoL_cy ?_ (by first | exact Or.inl ⟨_, by assumption⟩ | (refine Or.inr ⟨_, ?_, rfl⟩; assumption)) (fun _ _ => ?_)) | (refine PIoL_be (fun _ _ => ?_)) | (refine PIoL_na ?_ (fun _ _ => ?_)) | (refine PIoL_no ?_ (fun _ _ => ?_)) | (refine PIoL_ite ?_ ?_) | (refine PIoL_some ?_) | (exact PIoL_none) | (refine PIoL_cv (cQoL.c226 hc _ _ ?_) (fun _ _ => ?_))))
theorem pioL_ob_Jxa1e45_init_da8c8  {x0 : Option Nat} {σ : oSt} (hc : cQoL va fv call)  (h : lgP va fv σ) : PIo (lgP va fv) (ob_Jxa1e45_init_da8c8 n call κ  x0 σ) := by
  unfold ob_Jxa1e45_init_da8c8
  repeat' (with_reducible (first | assumption | (refine PIoL_gd ?_) | (refine PIoL_pf ?_ (by decide) (fun _ _ => ?_)) | (refine PIoL_si ?_ (fun _ _ => ?_)) | (refine PIoL_sj ?_ (by assumption) (fun _ _ => ?_)) | (refine PIoL_sr ?_ (fun _ _ => ?_)) | (refine PIoL_cy ?_ (by first | exact Or.inl ⟨_, by assumption⟩ | (refine Or.inr ⟨_, ?_, rfl⟩; assumption)) (fun _ _ => ?_)) | (refine PIoL_be (fun _ _ => ?_)) | (refine PIoL_na ?_ (fun _ _ => ?_)) | (refine PIoL_no ?_ (fun _ _ => ?_)) | (refine PIoL_ite ?_ ?_) | (refine PIoL_some ?_) | (exact PIoL_none)))
theorem pioL_ob_Jx4a65c_add_9ea2d  {x0 : Option Nat} {x1 : Option Nat} {σ : oSt} (hc : cQoL va fv call)  (h : lgP va fv σ) : PIo (lgP va fv) (ob_Jx4a65c_add_9ea2d n call κ  x0 x1 σ) := by
  unfold ob_Jx4a65c_add_9ea2d
  repeat' (with_reducible (first | assumption | (refine PIoL_gd ?_) | (refine PIoL_pf ?_ (by decide) (fun _ _ => ?_)) | (refine PIoL_si ?_ (fun _ _ => ?_)) | (refine PIoL_sj ?_ (by assumption) (fun _ _ => ?_)) | (refine PIoL_sr ?_ (fun _ _ => ?_)) | (refine PIoL_cy ?_ (by first | exact Or.inl ⟨_, by assumption⟩ | (refine Or.inr ⟨_, ?_, rfl⟩; assumption)) (fun _ _ => ?_)) | (refine PIoL_be (fun _ _ => ?_)) | (refine PIoL_na ?_ (fun _ _ => ?_)) | (refine PIoL_no ?_ (fun _ _ => ?_)) | (refine PIoL_ite ?_ ?_) | (refine PIoL_some ?_) | (exact PIoL_none) | (refine PIoL_cv (cQoL.c228 hc _ _ _ _ _ ?_) (fun _ _ => ?_))))
theorem pioL_oj_Jx4a65c_add_72be8_11  {x0 : Option Nat} {x1 : Option Nat} {x2 : Option Nat} {x3 : Int32} {σ : oSt} (hc : cQoL va fv call)  (h : lgP va fv σ) : PIo (lgP va fv) (oj_Jx4a65c_add_72be8_11 n call κ  x0 x1 x2 x3 σ) := by
  unfold oj_Jx4a65c_add_72be8_11
  repeat' (with_reducible (first | assumption | (refine PIoL_gd ?_) | (refine PIoL_pf ?_ (by decide) (fun _ _ => ?_)) | (refine PIoL_si ?_ (fun _ _ => ?_)) | (refine PIoL_sj ?_ (by assumption) (fun _ _ => ?_)) | (refine PIoL_sr ?_ (fun _ _ => ?_)) | (refine PIoL_cy ?_ (by first | exact Or.inl ⟨_, by assumption⟩ | (refine Or.inr ⟨_, ?_, rfl⟩; assumption)) (fun _ _ => ?_)) | (refine PIoL_be (fun _ _ => ?_)) | (refine PIoL_na ?_ (fun _ _ => ?_)) | (refine PIoL_no ?_ (fun _ _ => ?_)) | (refine PIoL_ite ?_ ?_) | (refine PIoL_some ?_) | (exact PIoL_none)))
theorem pioL_ob_Jx4a65c_add_72be8  {x0 : Option Nat} {x1 : Option Nat} {x2 : Option Nat} {x3 : Int32} {σ : oSt} (hc : cQoL va fv call)  (h : lgP va fv σ) : PIo (lgP va fv) (ob_Jx4a65c_add_72be8 n call κ  x0 x1 x2 x3 σ) := by
  unfold ob_Jx4a65c_add_72be8
  repeat' (with_reducible (first | assumption | (refine PIoL_gd ?_) | (refine PIoL_pf ?_ (by decide) (fun _ _ => ?_)) | (refine PIoL_si ?_ (fun _ _ => ?_)) | (refine PIoL_sj ?_ (by assumption) (fun _ _ => ?_)) | (refine PIoL_sr ?_ (fun _ _ => ?_)) | (refine PIoL_cy ?_ (by first | exact Or.inl ⟨_, by assumption⟩ | (refine Or.inr ⟨_, ?_, rfl⟩; assumption)) (fun _ _ => ?_)) | (refine PIoL_be (fun _ _ => ?_)) | (refine PIoL_na ?_ (fun _ _ => ?_)) | (refine PIoL_no ?_ (fun _ _ => ?_)) | (refine PIoL_ite ?_ ?_) | (refine PIoL_some ?_) | (exact PIoL_none) | (refine PIoL_rn (cQoL.c229 hc _ _ ?_) (fun _ _ _ => ?_)) | (refine pioL_oj_Jx4a65c_add_72be8_11 hc  ?_)))
theorem pioL_ob_Jx4a65c_grow_d5877  {x0 : Option Nat} {σ : oSt} (hc : cQoL va fv call)  (h : lgP va fv σ) : PIo (lgP va fv) (ob_Jx4a65c_grow_d5877 n call κ  x0 σ) := by
  unfold ob_Jx4a65c_grow_d5877
  repeat' (with_reducible (first | assumption | (refine PIoL_gd ?_) | (refine PIoL_pf ?_ (by decide) (fun _ _ => ?_)) | (refine PIoL_si ?_ (fun _ _ => ?_)) | (refine PIoL_sj ?_ (by assumption) (fun _ _ => ?_)) | (refine PIoL_sr ?_ (fun _ _ => ?_)) | (refine PIoL_cy ?_ (by first | exact Or.inl ⟨_, by assumption⟩ | (refine Or.inr ⟨_, ?_, rfl⟩; assumption)) (fun _ _ => ?_)) | (refine PIoL_be (fun _ _ => ?_)) | (refine PIoL_na ?_ (fun _ _ => ?_)) | (refine PIoL_no ?_ (fun _ _ => ?_)) | (refine PIoL_ite ?_ ?_) | (refine PIoL_some ?_) | (exact PIoL_none) | (refine PIoL_rn (cQoL.c230 hc _ _ _ ?_) (fun _ _ _ => ?_))))
theorem pioL_oj_Jx4a65c_grow_92f84_20  {x0 : Option Nat} {x1 : Int32} {x2 : Int32} {σ : oSt} (hc : cQoL va fv call)  (h : lgP va fv σ) : PIo (lgP va fv) (oj_Jx4a65c_grow_92f84_20 n call κ  x0 x1 x2 σ) := by
  unfold oj_Jx4a65c_grow_92f84_20
  repeat' (with_reducible (first | assumption | (refine PIoL_gd ?_) | (refine PIoL_pf ?_ (by decide) (fun _ _ => ?_)) | (refine PIoL_si ?_ (fun _ _ => ?_)) | (refine PIoL_sj ?_ (by assumption) (fun _ _ => ?_)) | (refine PIoL_sr ?_ (fun _ _ => ?_)) | (refine PIoL_cy ?_ (by first | exact Or.inl ⟨_, by assumption⟩ | (refine Or.inr ⟨_, ?_, rfl⟩; assumption)) (fun _ _ => ?_)) | (refine PIoL_be (fun _ _ => ?_)) | (refine PIoL_na ?_ (fun _ _ => ?_)) | (refine PIoL_no ?_ (fun _ _ => ?_)) | (refine PIoL_ite ?_ ?_) | (refine PIoL_some ?_) | (exact PIoL_none) | (refine PIoL_in (cQoL.c231 hc _ _ _ _ ?_) (fun _ _ _ => ?_)) | (refine PIoL_rn (cQoL.c232 hc _ _ _ ?_) (fun _ _ _ => ?_))))
theorem pioL_ob_Jx4a65c_grow_92f84  {x0 : Option Nat} {x1 : Int32} {σ : oSt} (hc : cQoL va fv call)  (h : lgP va fv σ) : PIo (lgP va fv) (ob_Jx4a65c_grow_92f84 n call κ  x0 x1 σ) := by
  unfold ob_Jx4a65c_grow_92f84
  repeat' (with_reducible (first | assumption | (refine PIoL_gd ?_) | (refine PIoL_pf ?_ (by decide) (fun _ _ => ?_)) | (refine PIoL_si ?_ (fun _ _ => ?_)) | (refine PIoL_sj ?_ (by assumption) (fun _ _ => ?_)) | (refine PIoL_sr ?_ (fun _ _ => ?_)) | (refine PIoL_cy ?_ (by first | exact Or.inl ⟨_, by assumption⟩ | (refine Or.inr ⟨_, ?_, rfl⟩; assumption)) (fun _ _ => ?_)) | (refine PIoL_be (fun _ _ => ?_)) | (refine PIoL_na ?_ (fun _ _ => ?_)) | (refine PIoL_no ?_ (fun _ _ => ?_)) | (refine PIoL_ite ?_ ?_) | (refine PIoL_some ?_) | (exact PIoL_none) | (refine pioL_oj_Jx4a65c_grow_92f84_20 hc  ?_)))
theorem pioL_oj_J8_newLength_cabcc_21  {x0 : Int32} {x1 : Int32} {σ : oSt} (hc : cQoL va fv call)  (h : lgP va fv σ) : PIo (lgP va fv) (oj_J8_newLength_cabcc_21 n call κ  x0 x1 σ) := by
  unfold oj_J8_newLength_cabcc_21
  repeat' (with_reducible (first | assumption | (refine PIoL_gd ?_) | (refine PIoL_pf ?_ (by decide) (fun _ _ => ?_)) | (refine PIoL_si ?_ (fun _ _ => ?_)) | (refine PIoL_sj ?_ (by assumption) (fun _ _ => ?_)) | (refine PIoL_sr ?_ (fun _ _ => ?_)) | (refine PIoL_cy ?_ (by first | exact Or.inl ⟨_, by assumption⟩ | (refine Or.inr ⟨_, ?_, rfl⟩; assumption)) (fun _ _ => ?_)) | (refine PIoL_be (fun _ _ => ?_)) | (refine PIoL_na ?_ (fun _ _ => ?_)) | (refine PIoL_no ?_ (fun _ _ => ?_)) | (refine PIoL_ite ?_ ?_) | (refine PIoL_some ?_) | (exact PIoL_none)))
theorem pioL_ob_J8_newLength_cabcc  {x0 : Int32} {x1 : Int32} {x2 : Int32} {σ : oSt} (hc : cQoL va fv call)  (h : lgP va fv σ) : PIo (lgP va fv) (ob_J8_newLength_cabcc n call κ  x0 x1 x2 σ) := by
  unfold ob_J8_newLength_cabcc
  repeat' (with_reducible (first | assumption | (refine PIoL_gd ?_) | (refine PIoL_pf ?_ (by decide) (fun _ _ => ?_)) | (refine PIoL_si ?_ (fun _ _ => ?_)) | (refine PIoL_sj ?_ (by assumption) (fun _ _ => ?_)) | (refine PIoL_sr ?_ (fun _ _ => ?_)) | (refine PIoL_cy ?_ (by first | exact Or.inl ⟨_, by assumption⟩ | (refine Or.inr ⟨_, ?_, rfl⟩; assumption)) (fun _ _ => ?_)) | (refine PIoL_be (fun _ _ => ?_)) | (refine PIoL_na ?_ (fun _ _ => ?_)) | (refine PIoL_no ?_ (fun _ _ => ?_)) | (refine PIoL_ite ?_ ?_) | (refine PIoL_some ?_) | (exact PIoL_none) | (refine pioL_oj_J8_newLength_cabcc_21 hc  ?_)))
theorem pioL_ob_J7_copyOf_1904c  {x0 : Option Nat} {x1 : Int32} {σ : oSt} (hc : cQoL va fv call)  (h : lgP va fv σ) : PIo (lgP va fv) (ob_J7_copyOf_1904c n call κ  x0 x1 σ) := by
  unfold ob_J7_copyOf_1904c
  repeat' (with_reducible (first | assumption | (refine PIoL_gd ?_) | (refine PIoL_pf ?_ (by decide) (fun _ _ => ?_)) | (refine PIoL_si ?_ (fun _ _ => ?_)) | (refine PIoL_sj ?_ (by assumption) (fun _ _ => ?_)) | (refine PIoL_sr ?_ (fun _ _ => ?_)) | (refine PIoL_cy ?_ (by first | exact Or.inl ⟨_, by assumption⟩ | (refine Or.inr ⟨_, ?_, rfl⟩; assumption)) (fun _ _ => ?_)) | (refine PIoL_be (fun _ _ => ?_)) | (refine PIoL_na ?_ (fun _ _ => ?_)) | (refine PIoL_no ?_ (fun _ _ => ?_)) | (refine PIoL_ite ?_ ?_) | (refine PIoL_some ?_) | (exact PIoL_none) | (refine PIoL_rn (cQoL.c233 hc _ _ _ _ ?_) (fun _ _ _ => ?_))))
theorem pioL_ob_J7_copyOf_6403c  {x0 : Option Nat} {x1 : Int32} {x2 : Option Nat} {σ : oSt} (hc : cQoL va fv call)  (h : lgP va fv σ) : PIo (lgP va fv) (ob_J7_copyOf_6403c n call κ  x0 x1 x2 σ) := by
  unfold ob_J7_copyOf_6403c
  repeat' (with_reducible (first | assumption | (refine PIoL_gd ?_) | (refine PIoL_pf ?_ (by decide) (fun _ _ => ?_)) | (refine PIoL_si ?_ (fun _ _ => ?_)) | (refine PIoL_sj ?_ (by assumption) (fun _ _ => ?_)) | (refine PIoL_sr ?_ (fun _ _ => ?_)) | (refine PIoL_cy ?_ (by first | exact Or.inl ⟨_, by assumption⟩ | (refine Or.inr ⟨_, ?_, rfl⟩; assumption)) (fun _ _ => ?_)) | (refine PIoL_be (fun _ _ => ?_)) | (refine PIoL_na ?_ (fun _ _ => ?_)) | (refine PIoL_no ?_ (fun _ _ => ?_)) | (refine PIoL_ite ?_ ?_) | (refine PIoL_some ?_) | (exact PIoL_none)))
theorem pioL_ob_Jx4a65c_get_915e3  {x0 : Option Nat} {x1 : Int32} {σ : oSt} (hc : cQoL va fv call)  (h : lgP va fv σ) : PIo (lgP va fv) (ob_Jx4a65c_get_915e3 n call κ  x0 x1 σ) := by
  unfold ob_Jx4a65c_get_915e3
  repeat' (with_reducible (first | assumption | (refine PIoL_gd ?_) | (refine PIoL_pf ?_ (by decide) (fun _ _ => ?_)) | (refine PIoL_si ?_ (fun _ _ => ?_)) | (refine PIoL_sj ?_ (by assumption) (fun _ _ => ?_)) | (refine PIoL_sr ?_ (fun _ _ => ?_)) | (refine PIoL_cy ?_ (by first | exact Or.inl ⟨_, by assumption⟩ | (refine Or.inr ⟨_, ?_, rfl⟩; assumption)) (fun _ _ => ?_)) | (refine PIoL_be (fun _ _ => ?_)) | (refine PIoL_na ?_ (fun _ _ => ?_)) | (refine PIoL_no ?_ (fun _ _ => ?_)) | (refine PIoL_ite ?_ ?_) | (refine PIoL_some ?_) | (exact PIoL_none) | (refine PIoL_in (cQoL.c205 hc _ _ _ ?_) (fun _ _ _ => ?_)) | (refine PIoL_rn (cQoL.c235 hc _ _ _ ?_) (fun _ _ _ => ?_))))
theorem pioL_ob_Jx4a65c_elementData_915e3  {x0 : Option Nat} {x1 : Int32} {σ : oSt} (hc : cQoL va fv call)  (h : lgP va fv σ) : PIo (lgP va fv) (ob_Jx4a65c_elementData_915e3 n call κ  x0 x1 σ) := by
  unfold ob_Jx4a65c_elementData_915e3
  repeat' (with_reducible (first | assumption | (refine PIoL_gd ?_) | (refine PIoL_pf ?_ (by decide) (fun _ _ => ?_)) | (refine PIoL_si ?_ (fun _ _ => ?_)) | (refine PIoL_sj ?_ (by assumption) (fun _ _ => ?_)) | (refine PIoL_sr ?_ (fun _ _ => ?_)) | (refine PIoL_cy ?_ (by first | exact Or.inl ⟨_, by assumption⟩ | (refine Or.inr ⟨_, ?_, rfl⟩; assumption)) (fun _ _ => ?_)) | (refine PIoL_be (fun _ _ => ?_)) | (refine PIoL_na ?_ (fun _ _ => ?_)) | (refine PIoL_no ?_ (fun _ _ => ?_)) | (refine PIoL_ite ?_ ?_) | (refine PIoL_some ?_) | (exact PIoL_none)))
theorem pioL_ob_Jx4a65c_size_8abf5  {x0 : Option Nat} {σ : oSt} (hc : cQoL va fv call)  (h : lgP va fv σ) : PIo (lgP va fv) (ob_Jx4a65c_size_8abf5 n call κ  x0 σ) := by
  unfold ob_Jx4a65c_size_8abf5
  repeat' (with_reducible (first | assumption | (refine PIoL_gd ?_) | (refine PIoL_pf ?_ (by decide) (fun _ _ => ?_)) | (refine PIoL_si ?_ (fun _ _ => ?_)) | (refine PIoL_sj ?_ (by assumption) (fun _ _ => ?_)) | (refine PIoL_sr ?_ (fun _ _ => ?_)) | (refine PIoL_cy ?_ (by first | exact Or.inl ⟨_, by assumption⟩ | (refine Or.inr ⟨_, ?_, rfl⟩; assumption)) (fun _ _ => ?_)) | (refine PIoL_be (fun _ _ => ?_)) | (refine PIoL_na ?_ (fun _ _ => ?_)) | (refine PIoL_no ?_ (fun _ _ => ?_)) | (refine PIoL_ite ?_ ?_) | (refine PIoL_some ?_) | (exact PIoL_none)))
theorem pioL_ob_J7_copyOf_59c91  {x0 : Option Nat} {x1 : Int32} {σ : oSt} (hc : cQoL va fv call)  (h : lgP va fv σ) : PIo (lgP va fv) (ob_J7_copyOf_59c91 n call κ  x0 x1 σ) := by
  unfold ob_J7_copyOf_59c91
  repeat' (with_reducible (first | assumption | (refine PIoL_gd ?_) | (refine PIoL_pf ?_ (by decide) (fun _ _ => ?_)) | (refine PIoL_si ?_ (fun _ _ => ?_)) | (refine PIoL_sj ?_ (by assumption) (fun _ _ => ?_)) | (refine PIoL_sr ?_ (fun _ _ => ?_)) | (refine PIoL_cy ?_ (by first | exact Or.inl ⟨_, by assumption⟩ | (refine Or.inr ⟨_, ?_, rfl⟩; assumption)) (fun _ _ => ?_)) | (refine PIoL_be (fun _ _ => ?_)) | (refine PIoL_na ?_ (fun _ _ => ?_)) | (refine PIoL_no ?_ (fun _ _ => ?_)) | (refine PIoL_ite ?_ ?_) | (refine PIoL_some ?_) | (exact PIoL_none)))
/-- **all of them, however deep** -/
theorem cQoL_oF (T : Nat) : ∀ n, cQoL va fv (oF κ T n) := by
  intro n
  induction n with
  | zero =>
    refine ⟨?_, ?_, ?_, ?_, ?_, ?_, ?_, ?_, ?_, ?_, ?_, ?_, ?_, ?_, ?_, ?_, ?_, ?_, ?_, ?_, ?_, ?_, ?_, ?_, ?_, ?_, ?_, ?_, ?_, ?_, ?_, ?_, ?_, ?_, ?_, ?_, ?_, ?_, ?_, ?_, ?_, ?_, ?_, ?_, ?_, ?_, ?_, ?_, ?_, ?_, ?_, ?_, ?_, ?_, ?_, ?_, ?_, ?_, ?_, ?_, ?_, ?_, ?_, ?_, ?_, ?_, ?_, ?_, ?_, ?_, ?_, ?_, ?_, ?_, ?_, ?_, ?_, ?_, ?_, ?_, ?_, ?_, ?_, ?_, ?_, ?_, ?_⟩ <;> (intros; exact fun w e => by cases e)
  | succ n hc =>
    refine ⟨?_, ?_, ?_, ?_, ?_, ?_, ?_, ?_, ?_, ?_, ?_, ?_, ?_, ?_, ?_, ?_, ?_, ?_, ?_, ?_, ?_, ?_, ?_, ?_, ?_, ?_, ?_, ?_, ?_, ?_, ?_, ?_, ?_, ?_, ?_, ?_, ?_, ?_, ?_, ?_, ?_, ?_, ?_, ?_, ?_, ?_, ?_, ?_, ?_, ?_, ?_, ?_, ?_, ?_, ?_, ?_, ?_, ?_, ?_, ?_, ?_, ?_, ?_, ?_, ?_, ?_, ?_, ?_, ?_, ?_, ?_, ?_, ?_, ?_, ?_, ?_, ?_, ?_, ?_, ?_, ?_, ?_, ?_, ?_, ?_, ?_, ?_⟩
    · intro x0 x1 x2 x3 σ h
      rw [oE_X0_init]
      exact pioL_ob_X0_init hc h
    · intro x0 x1 σ h
      rw [oE_X2_init]
      exact pioL_ob_X2_init hc h
    · intro x0 x1 x2 σ h
      rw [oE_X8_init]
      exact pioL_ob_X8_init hc h
    · intro x0 x1 x2 x3 σ h
      rw [oE_X2_init_]
      exact pioL_ob_X2_init_ hc h
    · intro x0 x1 σ h
      rw [oE_X2_answered]
      exact pioL_ob_X2_answered hc h
    · intro x0 σ h
      rw [oE_X2_taken]
      exact pioL_ob_X2_taken hc h
    · intro x0 σ h
      rw [oE_X4_isMeasured]
      exact pioL_ob_X4_isMeasured hc h
    · intro x0 x1 x2 σ h
      rw [oE_X4_init]
      exact pioL_ob_X4_init hc h
    · intro x0 σ h
      rw [oE_X9_init]
      exact pioL_ob_X9_init hc h
    · intro x0 x1 σ h
      rw [oE_X9_append]
      exact pioL_ob_X9_append hc h
    · intro x0 x1 x2 σ h
      rw [oE_X9_add]
      exact pioL_ob_X9_add hc h
    · intro x0 x1 x2 σ h
      rw [oE_X9_of]
      exact pioL_ob_X9_of hc h
    · intro x0 x1 x2 x3 σ h
      rw [oE_X0_fit]
      exact pioL_ob_X0_fit hc h
    · intro x0 x1 x2 x3 σ h
      rw [oE_X8_init_]
      exact pioL_ob_X8_init_ hc h
    · intro x0 σ h
      rw [oE_X9_isTerm]
      exact pioL_ob_X9_isTerm hc h
    · intro x0 x1 σ h
      rw [oE_X2_makeRoom]
      exact pioL_ob_X2_makeRoom hc h
    · intro x0 x1 x2 σ h
      rw [oE_X2_say]
      exact pioL_ob_X2_say hc h
    · intro x0 x1 σ h
      rw [oE_X2_of]
      exact pioL_ob_X2_of hc h
    · intro x0 x1 σ h
      rw [oE_X0_product]
      exact pioL_ob_X0_product hc h
    · intro x0 σ h
      rw [oE_X0_remainder]
      exact pioL_ob_X0_remainder hc h
    · intro x0 σ h
      rw [oE_X0_plain]
      exact pioL_ob_X0_plain hc h
    · intro x0 x1 σ h
      rw [oE_X10_root]
      exact pioL_ob_X10_root hc h
    · intro x0 x1 σ h
      rw [oE_X10_kindOf]
      exact pioL_ob_X10_kindOf hc h
    · intro x0 x1 σ h
      rw [oE_X10_takenBy]
      exact pioL_ob_X10_takenBy hc h
    · intro x0 x1 σ h
      rw [oE_X10_answeredBy]
      exact pioL_ob_X10_answeredBy hc h
    · intro x0 x1 x2 σ h
      rw [oE_X0_instance]
      exact pioL_ob_X0_instance hc h
    · intro x0 x1 σ h
      rw [oE_X0_sayInstances]
      exact pioL_ob_X0_sayInstances hc h
    · intro x0 x1 x2 x3 σ h
      rw [oE_X0_shape]
      exact pioL_ob_X0_shape hc h
    · intro x0 x1 x2 x3 σ h
      rw [oE_X0_template]
      exact pioL_ob_X0_template hc h
    · intro x0 x1 x2 x3 σ h
      rw [oE_X0_fitBody]
      exact pioL_ob_X0_fitBody hc h
    · intro x0 x1 x2 σ h
      rw [oE_X0_walk]
      exact pioL_ob_X0_walk hc h
    · intro x0 x1 x2 σ h
      rw [oE_X0_walkCall]
      exact pioL_ob_X0_walkCall hc h
    · intro x0 x1 x2 σ h
      rw [oE_X0_walkFunction]
      exact pioL_ob_X0_walkFunction hc h
    · intro x0 x1 x2 σ h
      rw [oE_X0_walkIf]
      exact pioL_ob_X0_walkIf hc h
    · intro x0 x1 x2 σ h
      rw [oE_X0_walkLet]
      exact pioL_ob_X0_walkLet hc h
    · intro x0 x1 x2 σ h
      rw [oE_X0_walkMatch]
      exact pioL_ob_X0_walkMatch hc h
    · intro x0 x1 x2 σ h
      rw [oE_X0_walkRec]
      exact pioL_ob_X0_walkRec hc h
    · intro x0 σ h
      rw [oE_X0_gather]
      exact pioL_ob_X0_gather hc h
    · intro x0 σ h
      rw [oE_X9_isFact]
      exact pioL_ob_X9_isFact hc h
    · intro x0 σ h
      rw [oE_X1_isFormed]
      exact pioL_ob_X1_isFormed hc h
    · intro x0 x1 σ h
      rw [oE_X6_makeRoom]
      exact pioL_ob_X6_makeRoom hc h
    · intro x0 x1 σ h
      rw [oE_X6_reset]
      exact pioL_ob_X6_reset hc h
    · intro x0 x1 x2 x3 σ h
      rw [oE_X6_lead]
      exact pioL_ob_X6_lead hc h
    · intro x0 σ h
      rw [oE_X6_tighten]
      exact pioL_ob_X6_tighten hc h
    · intro x0 x1 x2 x3 σ h
      rw [oE_X6_limit]
      exact pioL_ob_X6_limit hc h
    · intro x0 x1 σ h
      rw [oE_X2_insteadOf]
      exact pioL_ob_X2_insteadOf hc h
    · intro x0 x1 σ h
      rw [oE_X2_recall]
      exact pioL_ob_X2_recall hc h
    · intro x0 x1 σ h
      rw [oE_X1_side]
      exact pioL_ob_X1_side hc h
    · intro x0 x1 x2 x3 σ h
      rw [oE_X6_isLimited]
      exact pioL_ob_X6_isLimited hc h
    · intro x0 x1 x2 x3 σ h
      rw [oE_X1_meet]
      exact pioL_ob_X1_meet hc h
    · intro x0 x1 x2 σ h
      rw [oE_X1_learn]
      exact pioL_ob_X1_learn hc h
    · intro x0 x1 x2 σ h
      rw [oE_X1_postpone]
      exact pioL_ob_X1_postpone hc h
    · intro x0 x1 x2 σ h
      rw [oE_X1_choose]
      exact pioL_ob_X1_choose hc h
    · intro x0 σ h
      rw [oE_X1_opposite]
      exact pioL_ob_X1_opposite hc h
    · intro x0 x1 x2 x3 σ h
      rw [oE_X1_limit]
      exact pioL_ob_X1_limit hc h
    · intro x0 x1 x2 σ h
      rw [oE_X1_compare]
      exact pioL_ob_X1_compare hc h
    · intro x0 x1 x2 σ h
      rw [oE_X1_assume]
      exact pioL_ob_X1_assume hc h
    · intro x0 x1 x2 σ h
      rw [oE_X1_begin]
      exact pioL_ob_X1_begin hc h
    · intro x0 σ h
      rw [oE_X6_close]
      exact pioL_ob_X6_close hc h
    · intro x0 σ h
      rw [oE_X1_conclude]
      exact pioL_ob_X1_conclude hc h
    · intro x0 σ h
      rw [oE_X1_isDecided]
      exact pioL_ob_X1_isDecided hc h
    · intro x0 σ h
      rw [oE_X6_rise]
      exact pioL_ob_X6_rise hc h
    · intro x0 σ h
      rw [oE_X6_sink]
      exact pioL_ob_X6_sink hc h
    · intro x0 x1 σ h
      rw [oE_X1_explore]
      exact pioL_ob_X1_explore hc h
    · intro x0 x1 x2 σ h
      rw [oE_X1_isSure]
      exact pioL_ob_X1_isSure hc h
    · intro x0 σ h
      rw [oE_X0_findDoubt]
      exact pioL_ob_X0_findDoubt hc h
    · intro x0 x1 σ h
      rw [oE_X0_lastChange]
      exact pioL_ob_X0_lastChange hc h
    · intro x0 x1 x2 x3 σ h
      rw [oE_X1_weaken]
      exact pioL_ob_X1_weaken hc h
    · intro x0 σ h
      rw [oE_X0_weakenAll]
      exact pioL_ob_X0_weakenAll hc h
    · intro x0 σ h
      rw [oE_X12_accepted]
      exact pioL_ob_X12_accepted hc h
    · intro x0 x1 σ h
      rw [oE_J15_checkIndex_7cf53]
      exact pioL_ob_J15_checkIndex_7cf53 hc h
    · intro x0 x1 x2 σ h
      rw [oE_J3_checkIndex_8e157]
      exact pioL_ob_J3_checkIndex_8e157 hc h
    · intro x0 σ h
      rw [oE_Jx4a65c_init_da8c8]
      exact pioL_ob_Jx4a65c_init_da8c8 hc h
    · intro x0 σ h
      rw [oE_Jxc12de_init_da8c8]
      exact pioL_ob_Jxc12de_init_da8c8 hc h
    · intro x0 σ h
      rw [oE_Jxa1e45_init_da8c8]
      exact pioL_ob_Jxa1e45_init_da8c8 hc h
    · intro x0 x1 σ h
      rw [oE_Jx4a65c_add_9ea2d]
      exact pioL_ob_Jx4a65c_add_9ea2d hc h
    · intro x0 x1 x2 x3 σ h
      rw [oE_Jx4a65c_add_72be8]
      exact pioL_ob_Jx4a65c_add_72be8 hc h
    · intro x0 σ h
      rw [oE_Jx4a65c_grow_d5877]
      exact pioL_ob_Jx4a65c_grow_d5877 hc h
    · intro x0 x1 σ h
      rw [oE_Jx4a65c_grow_92f84]
      exact pioL_ob_Jx4a65c_grow_92f84 hc h
    · intro x0 x1 x2 σ h
      rw [oE_J8_newLength_cabcc]
      exact pioL_ob_J8_newLength_cabcc hc h
    · intro x0 x1 σ h
      rw [oE_J7_copyOf_1904c]
      exact pioL_ob_J7_copyOf_1904c hc h
    · intro x0 x1 x2 σ h
      rw [oE_J7_copyOf_6403c]
      exact pioL_ob_J7_copyOf_6403c hc h
    · intro x0 x1 σ h
      rw [oE_Jx4a65c_get_915e3]
      exact pioL_ob_Jx4a65c_get_915e3 hc h
    · intro x0 x1 σ h
      rw [oE_Jx4a65c_elementData_915e3]
      exact pioL_ob_Jx4a65c_elementData_915e3 hc h
    · intro x0 σ h
      rw [oE_Jx4a65c_size_8abf5]
      exact pioL_ob_Jx4a65c_size_8abf5 hc h
    · intro x0 x1 σ h
      rw [oE_J7_copyOf_59c91]
      exact pioL_ob_J7_copyOf_59c91 hc h
    · intro x0 x1 σ h
      rw [oE_J7_copyOf_c38d5]
      exact pir_copyOf h
end OPGL
