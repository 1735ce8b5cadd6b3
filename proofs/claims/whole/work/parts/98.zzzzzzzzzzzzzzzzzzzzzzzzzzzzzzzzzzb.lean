/-! what the methods that are called keep (made by wip/opigen.py) -/
/-- which fields are written -/
def wrlO : List (Nat × Nat) := [(0, 0), (0, 1), (1, 0), (1, 1), (1, 2), (2, 0), (2, 1), (2, 2), (2, 3), (2, 4), (2, 5), (2, 6), (2, 7), (2, 8), (2, 9), (3, 3), (3, 6), (3, 7), (3, 8), (3, 9), (4, 0), (4, 1), (4, 2), (4, 3), (4, 4), (4, 7), (4, 8), (4, 9), (4, 10), (4, 11), (4, 12), (4, 13), (4, 14), (5, 0), (5, 1), (5, 4), (5, 5), (5, 9), (5, 10), (5, 11), (5, 12), (5, 13), (5, 14), (5, 15), (5, 16), (5, 17), (6, 0), (6, 1), (6, 2), (6, 3), (6, 4), (6, 5), (6, 6), (6, 7), (7, 0), (7, 1), (7, 2), (7, 3), (7, 4), (7, 5), (7, 6), (7, 7), (7, 8), (7, 9), (7, 10), (7, 11), (7, 12), (7, 13), (7, 14), (7, 15), (7, 16), (7, 17), (7, 18), (7, 19), (7, 20), (8, 0), (8, 1), (8, 2), (8, 3), (8, 4), (9, 0), (9, 1), (9, 2), (9, 3), (9, 4), (9, 5), (9, 6), (9, 7), (9, 8), (9, 9), (9, 10), (9, 11), (9, 12), (9, 13), (9, 14), (9, 15), (9, 16), (9, 17), (10, 0), (10, 1), (10, 2), (10, 3), (11, 0), (11, 1), (11, 2), (11, 3), (12, 0), (12, 1), (12, 2), (12, 3), (12, 4), (12, 5), (12, 6), (12, 7), (12, 8), (12, 9), (13, 0), (13, 1), (13, 2), (13, 3), (13, 4), (13, 5), (14, 1), (14, 2), (14, 3), (14, 4), (14, 5), (14, 6), (14, 7), (14, 8), (14, 9)]
/-- P is kept by new cells and single writes -/
def iKptO (P : oSt → Prop) : Prop := (∀ σ y n, P σ → P (onew σ (.inl y) n)) ∧ (∀ σ k n, k ≠ 8 → P σ → P (onew σ (.inr (k, odef k)) n)) ∧ (∀ σ a ci fs k v, P σ → σ.1 a = some (.inr (ci, fs)) → (ci, k) ∈ wrlO → wIv8 ci k v = true → P (oput σ a (.inr (ci, fs.set k v)))) ∧ (∀ σ a y y', P σ → σ.1 a = some (.inl y) → P (oput σ a (.inl y'))) ∧ ∀ n call κ x0 x1 σ, P σ → PIo P (ob_X2_makeRoom n call κ x0 x1 σ)
section PIBO
variable {P : oSt → Prop}
theorem PIoO_none : PIo P none := fun w h => by cases h
theorem PIoO_some {x : Option Value} {σ : oSt} (h : P σ) : PIo P (some (x, σ)) := fun w e => by
  injection e with e
  rw [← e]; exact h
theorem PIoO_gd {b : Bool} {r : oRs} (h : PIo P r) : PIo P (ogd b r) := by
  unfold ogd
  split
  · exact h
  · exact PIoO_none
theorem PIoO_ite {c : Prop} [Decidable c] {a b : oRs} (h : PIo P a) (g : PIo P b) : PIo P (if c then a else b) := by
  split
  · exact h
  · exact g
theorem PIoO_bn {α : Type} {x : Option α} {f : α → oRs} (h : ∀ a, PIo P (f a)) : PIo P (obn x f) := by
  unfold obn
  split
  · exact h _
  · exact PIoO_none
theorem PIoO_bs {x : Option oSt} {f : oSt → oRs} (h : ∀ s, x = some s → P s) (g : ∀ s, P s → PIo P (f s)) : PIo P (obn x f) := by
  unfold obn
  split
  · exact g _ (h _ rfl)
  · exact PIoO_none
theorem PIoO_pf (hP : iKptO P) {σ : oSt} {r : Option Nat} {ci k : Nat} {x : Value} {f : oSt → oRs} (h : P σ) (hw : (ci, k) ∈ wrlO) (hv : wIv8 ci k x = true) (g : ∀ s, P s → PIo P (f s)) : PIo P (obn (opf σ r ci k x) f) := PIoO_bs (fun s e => by
  unfold opf at e
  split at e
  · split at e
    · rename_i o e1
      split at e
      · rename_i c
        injection e with e
        rw [← e]
        obtain ⟨oi, ofs⟩ := o
        obtain ⟨c1, -⟩ := c
        have c1 : oi = ci := c1
        subst c1
        exact hP.2.2.1 σ _ oi ofs k x h e1 hw hv
      · cases e
    · cases e
  · cases e) g
theorem PIoO_si (hP : iKptO P) {σ : oSt} {r : Option Nat} {ty : FieldType} {i x : Int32} {f : oSt → oRs} (h : P σ) (g : ∀ s, P s → PIo P (f s)) : PIo P (obn (osi σ r ty i x) f) := PIoO_bs (fun s e => by
  unfold osi at e
  repeat' split at e
  all_goals first
    | (cases e; done)
    | (injection e with e; rw [← e]; exact hP.2.2.2.1 σ _ _ _ h (by assumption))) g
theorem PIoO_sj (hP : iKptO P) {σ : oSt} {r : Option Nat} {i : Int32} {x : Int64} {f : oSt → oRs} (h : P σ) (g : ∀ s, P s → PIo P (f s)) : PIo P (obn (osj σ r i x) f) := PIoO_bs (fun s e => by
  unfold osj at e
  repeat' split at e
  all_goals first
    | (cases e; done)
    | (injection e with e; rw [← e]; exact hP.2.2.2.1 σ _ _ _ h (by assumption))) g
theorem PIoO_sr (hP : iKptO P) {σ : oSt} {r : Option Nat} {i : Int32} {y : Option Nat} {f : oSt → oRs} (h : P σ) (g : ∀ s, P s → PIo P (f s)) : PIo P (obn (osr σ r i y) f) := PIoO_bs (fun s e => by
  unfold osr at e
  repeat' split at e
  all_goals first
    | (cases e; done)
    | (injection e with e; rw [← e]; exact hP.2.2.2.1 σ _ _ _ h (by assumption))) g
theorem PIoO_cy (hP : iKptO P) {σ : oSt} {r0 r1 : Option Nat} {sp dp n : Int32} {f : oSt → oRs} (h : P σ) (g : ∀ s, P s → PIo P (f s)) : PIo P (obn (ocy σ r0 sp r1 dp n) f) := PIoO_bs (fun s e => by
  unfold ocy at e
  repeat' split at e
  all_goals first
    | (cases e; done)
    | (injection e with e; rw [← e]; exact hP.2.2.2.1 σ _ _ _ h (by assumption))) g
theorem PIoO_na (hP : iKptO P) {σ : oSt} {y} {n : Nat} {f : oSt → oRs} (h : P σ) (g : ∀ s, P s → PIo P (f s)) : PIo P (olet (onew σ (.inl y) n) f) := g _ (hP.1 σ y n h)
theorem PIoO_no (hP : iKptO P) {σ : oSt} {k n : Nat} {f : oSt → oRs} (h : P σ) (g : ∀ s, P s → PIo P (f s)) (hk : k ≠ 8 := by decide) : PIo P (olet (onew σ (.inr (k, odef k)) n) f) := g _ (hP.2.1 σ k n hk h)
theorem PIoO_cv {r : oRs} {f : oSt → oRs} (h : PIo P r) (g : ∀ s, P s → PIo P (f s)) : PIo P (ocv r f) := by
  unfold ocv
  split
  · exact g _ (h _ rfl)
  · exact PIoO_none
theorem PIoO_in {r : oRs} {f : Int32 → oSt → oRs} (h : PIo P r) (g : ∀ x s, P s → PIo P (f x s)) : PIo P (oin r f) := by
  unfold oin
  split
  · exact g _ _ (h _ rfl)
  · exact PIoO_none
theorem PIoO_rn {r : oRs} {f : Option Nat → oSt → oRs} (h : PIo P r) (g : ∀ x s, P s → PIo P (f x s)) : PIo P (orn r f) := by
  unfold orn
  split
  · exact g _ _ (h _ rfl)
  · exact g _ _ (h _ rfl)
  · exact PIoO_none
theorem PIoO_ln {r : oRs} {f : Int64 → oSt → oRs} (h : PIo P r) (g : ∀ x s, P s → PIo P (f x s)) : PIo P (oln' r f) := by
  unfold oln'
  split
  · exact g _ _ (h _ rfl)
  · exact PIoO_none
end PIBO
/-- what is called keeps P -/
def cQoO (P : oSt → Prop) (call : oCl) : Prop := (∀ (x0 : Option Nat) (x1 : Option Nat) (x2 : Option Nat) (x3 : Option Nat), ∀ σ, P σ → PIo P (call 0 [va_rf x0, va_rf x1, va_rf x2, va_rf x3] σ)) ∧ (∀ (x0 : Option Nat) (x1 : Int32), ∀ σ, P σ → PIo P (call 1 [va_rf x0, .int x1] σ)) ∧ (∀ (x0 : Option Nat) (x1 : Option Nat) (x2 : Option Nat), ∀ σ, P σ → PIo P (call 2 [va_rf x0, va_rf x1, va_rf x2] σ)) ∧ (∀ (x0 : Option Nat) (x1 : Option Nat) (x2 : Option Nat) (x3 : Option Nat), ∀ σ, P σ → PIo P (call 3 [va_rf x0, va_rf x1, va_rf x2, va_rf x3] σ)) ∧ (∀ (x0 : Option Nat) (x1 : Option Nat), ∀ σ, P σ → PIo P (call 4 [va_rf x0, va_rf x1] σ)) ∧ (∀ (x0 : Option Nat), ∀ σ, P σ → PIo P (call 5 [va_rf x0] σ)) ∧ (∀ (x0 : Option Nat), ∀ σ, P σ → PIo P (call 6 [va_rf x0] σ)) ∧ (∀ (x0 : Option Nat) (x1 : Option Nat) (x2 : Int32), ∀ σ, P σ → PIo P (call 7 [va_rf x0, va_rf x1, .int x2] σ)) ∧ (∀ (x0 : Option Nat), ∀ σ, P σ → PIo P (call 8 [va_rf x0] σ)) ∧ (∀ (x0 : Option Nat) (x1 : Option Nat), ∀ σ, P σ → PIo P (call 9 [va_rf x0, va_rf x1] σ)) ∧ (∀ (x0 : Option Nat) (x1 : Option Nat) (x2 : Int32), ∀ σ, P σ → PIo P (call 10 [va_rf x0, va_rf x1, .int x2] σ)) ∧ (∀ (x0 : Option Nat) (x1 : Int32) (x2 : Int64), ∀ σ, P σ → PIo P (call 11 [va_rf x0, .int x1, .long x2] σ)) ∧ (∀ (x0 : Option Nat) (x1 : Option Nat) (x2 : Option Nat) (x3 : Option Nat), ∀ σ, P σ → PIo P (call 12 [va_rf x0, va_rf x1, va_rf x2, va_rf x3] σ)) ∧ (∀ (x0 : Option Nat) (x1 : Option Nat) (x2 : Int32) (x3 : Option Nat), ∀ σ, P σ → PIo P (call 13 [va_rf x0, va_rf x1, .int x2, va_rf x3] σ)) ∧ (∀ (x0 : Option Nat), ∀ σ, P σ → PIo P (call 14 [va_rf x0] σ)) ∧ (∀ (x0 : Option Nat) (x1 : Int32), ∀ σ, P σ → PIo P (call 15 [va_rf x0, .int x1] σ)) ∧ (∀ (x0 : Option Nat) (x1 : Int32) (x2 : Option Nat), ∀ σ, P σ → PIo P (call 16 [va_rf x0, .int x1, va_rf x2] σ)) ∧ (∀ (x0 : Int32) (x1 : Option Nat), ∀ σ, P σ → PIo P (call 17 [.int x0, va_rf x1] σ)) ∧ (∀ (x0 : Option Nat) (x1 : Option Nat), ∀ σ, P σ → PIo P (call 18 [va_rf x0, va_rf x1] σ)) ∧ (∀ (x0 : Option Nat), ∀ σ, P σ → PIo P (call 19 [va_rf x0] σ)) ∧ (∀ (x0 : Option Nat), ∀ σ, P σ → PIo P (call 20 [va_rf x0] σ)) ∧ (∀ (x0 : Option Nat) (x1 : Int32), ∀ σ, P σ → PIo P (call 21 [va_rf x0, .int x1] σ)) ∧ (∀ (x0 : Option Nat) (x1 : Int32), ∀ σ, P σ → PIo P (call 22 [va_rf x0, .int x1] σ)) ∧ (∀ (x0 : Option Nat) (x1 : Int32), ∀ σ, P σ → PIo P (call 23 [va_rf x0, .int x1] σ)) ∧ (∀ (x0 : Option Nat) (x1 : Int32), ∀ σ, P σ → PIo P (call 24 [va_rf x0, .int x1] σ)) ∧ (∀ (x0 : Option Nat) (x1 : Option Nat) (x2 : Int32), ∀ σ, P σ → PIo P (call 25 [va_rf x0, va_rf x1, .int x2] σ)) ∧ (∀ (x0 : Option Nat) (x1 : Option Nat), ∀ σ, P σ → PIo P (call 26 [va_rf x0, va_rf x1] σ)) ∧ (∀ (x0 : Option Nat) (x1 : Int32) (x2 : Option Nat) (x3 : Int32), ∀ σ, P σ → PIo P (call 27 [va_rf x0, .int x1, va_rf x2, .int x3] σ)) ∧ (∀ (x0 : Option Nat) (x1 : Int32) (x2 : Option Nat) (x3 : Option Nat), ∀ σ, P σ → PIo P (call 28 [va_rf x0, .int x1, va_rf x2, va_rf x3] σ)) ∧ (∀ (x0 : Option Nat) (x1 : Option Nat) (x2 : Option Nat) (x3 : Option Nat), ∀ σ, P σ → PIo P (call 29 [va_rf x0, va_rf x1, va_rf x2, va_rf x3] σ)) ∧ (∀ (x0 : Option Nat) (x1 : Option Nat) (x2 : Option Nat), ∀ σ, P σ → PIo P (call 30 [va_rf x0, va_rf x1, va_rf x2] σ)) ∧ (∀ (x0 : Option Nat) (x1 : Option Nat) (x2 : Option Nat), ∀ σ, P σ → PIo P (call 31 [va_rf x0, va_rf x1, va_rf x2] σ)) ∧ (∀ (x0 : Option Nat) (x1 : Option Nat) (x2 : Option Nat), ∀ σ, P σ → PIo P (call 32 [va_rf x0, va_rf x1, va_rf x2] σ)) ∧ (∀ (x0 : Option Nat) (x1 : Option Nat) (x2 : Option Nat), ∀ σ, P σ → PIo P (call 33 [va_rf x0, va_rf x1, va_rf x2] σ)) ∧ (∀ (x0 : Option Nat) (x1 : Option Nat) (x2 : Option Nat), ∀ σ, P σ → PIo P (call 34 [va_rf x0, va_rf x1, va_rf x2] σ)) ∧ (∀ (x0 : Option Nat) (x1 : Option Nat) (x2 : Option Nat), ∀ σ, P σ → PIo P (call 35 [va_rf x0, va_rf x1, va_rf x2] σ)) ∧ (∀ (x0 : Option Nat) (x1 : Option Nat) (x2 : Option Nat), ∀ σ, P σ → PIo P (call 36 [va_rf x0, va_rf x1, va_rf x2] σ)) ∧ (∀ (x0 : Option Nat), ∀ σ, P σ → PIo P (call 37 [va_rf x0] σ)) ∧ (∀ (x0 : Option Nat), ∀ σ, P σ → PIo P (call 38 [va_rf x0] σ)) ∧ (∀ (x0 : Option Nat), ∀ σ, P σ → PIo P (call 39 [va_rf x0] σ)) ∧ (∀ (x0 : Option Nat) (x1 : Int32), ∀ σ, P σ → PIo P (call 40 [va_rf x0, .int x1] σ)) ∧ (∀ (x0 : Option Nat) (x1 : Int32), ∀ σ, P σ → PIo P (call 41 [va_rf x0, .int x1] σ)) ∧ (∀ (x0 : Option Nat) (x1 : Int32) (x2 : Int32) (x3 : Int64), ∀ σ, P σ → PIo P (call 42 [va_rf x0, .int x1, .int x2, .long x3] σ)) ∧ (∀ (x0 : Option Nat), ∀ σ, P σ → PIo P (call 43 [va_rf x0] σ)) ∧ (∀ (x0 : Option Nat) (x1 : Int32) (x2 : Int32) (x3 : Int64), ∀ σ, P σ → PIo P (call 44 [va_rf x0, .int x1, .int x2, .long x3] σ)) ∧ (∀ (x0 : Option Nat) (x1 : Option Nat), ∀ σ, P σ → PIo P (call 45 [va_rf x0, va_rf x1] σ)) ∧ (∀ (x0 : Option Nat) (x1 : Int32), ∀ σ, P σ → PIo P (call 46 [va_rf x0, .int x1] σ)) ∧ (∀ (x0 : Option Nat) (x1 : Int32), ∀ σ, P σ → PIo P (call 47 [va_rf x0, .int x1] σ)) ∧ (∀ (x0 : Option Nat) (x1 : Int32) (x2 : Int32) (x3 : Int64), ∀ σ, P σ → PIo P (call 48 [va_rf x0, .int x1, .int x2, .long x3] σ)) ∧ (∀ (x0 : Option Nat) (x1 : Option Nat) (x2 : Int32) (x3 : Int32), ∀ σ, P σ → PIo P (call 49 [va_rf x0, va_rf x1, .int x2, .int x3] σ)) ∧ (∀ (x0 : Option Nat) (x1 : Option Nat) (x2 : Int32), ∀ σ, P σ → PIo P (call 50 [va_rf x0, va_rf x1, .int x2] σ)) ∧ (∀ (x0 : Option Nat) (x1 : Option Nat) (x2 : Int32), ∀ σ, P σ → PIo P (call 51 [va_rf x0, va_rf x1, .int x2] σ)) ∧ (∀ (x0 : Option Nat) (x1 : Option Nat) (x2 : Int32), ∀ σ, P σ → PIo P (call 52 [va_rf x0, va_rf x1, .int x2] σ)) ∧ (∀ (x0 : Int32), ∀ σ, P σ → PIo P (call 53 [.int x0] σ)) ∧ (∀ (x0 : Option Nat) (x1 : Option Nat) (x2 : Int32) (x3 : Int32), ∀ σ, P σ → PIo P (call 54 [va_rf x0, va_rf x1, .int x2, .int x3] σ)) ∧ (∀ (x0 : Option Nat) (x1 : Option Nat) (x2 : Int32), ∀ σ, P σ → PIo P (call 55 [va_rf x0, va_rf x1, .int x2] σ)) ∧ (∀ (x0 : Option Nat) (x1 : Option Nat) (x2 : Int32), ∀ σ, P σ → PIo P (call 56 [va_rf x0, va_rf x1, .int x2] σ)) ∧ (∀ (x0 : Option Nat) (x1 : Option Nat) (x2 : Option Nat), ∀ σ, P σ → PIo P (call 57 [va_rf x0, va_rf x1, va_rf x2] σ)) ∧ (∀ (x0 : Option Nat), ∀ σ, P σ → PIo P (call 58 [va_rf x0] σ)) ∧ (∀ (x0 : Option Nat), ∀ σ, P σ → PIo P (call 59 [va_rf x0] σ)) ∧ (∀ (x0 : Option Nat), ∀ σ, P σ → PIo P (call 60 [va_rf x0] σ)) ∧ (∀ (x0 : Option Nat), ∀ σ, P σ → PIo P (call 61 [va_rf x0] σ)) ∧ (∀ (x0 : Option Nat), ∀ σ, P σ → PIo P (call 62 [va_rf x0] σ)) ∧ (∀ (x0 : Option Nat) (x1 : Int32), ∀ σ, P σ → PIo P (call 63 [va_rf x0, .int x1] σ)) ∧ (∀ (x0 : Option Nat) (x1 : Option Nat) (x2 : Option Nat), ∀ σ, P σ → PIo P (call 64 [va_rf x0, va_rf x1, va_rf x2] σ)) ∧ (∀ (x0 : Option Nat), ∀ σ, P σ → PIo P (call 65 [va_rf x0] σ)) ∧ (∀ (x0 : Option Nat) (x1 : Int32), ∀ σ, P σ → PIo P (call 66 [va_rf x0, .int x1] σ)) ∧ (∀ (x0 : Option Nat) (x1 : Option Nat) (x2 : Option Nat) (x3 : Option Nat), ∀ σ, P σ → PIo P (call 67 [va_rf x0, va_rf x1, va_rf x2, va_rf x3] σ)) ∧ (∀ (x0 : Option Nat), ∀ σ, P σ → PIo P (call 68 [va_rf x0] σ)) ∧ (∀ (x0 : Option Nat), ∀ σ, P σ → PIo P (call 72 [va_rf x0] σ)) ∧ (∀ (x0 : Option Nat) (x1 : Option Nat) (x2 : Int32), ∀ σ, P σ → PIo P (call 73 [va_rf x0, va_rf x1, .int x2] σ)) ∧ (∀ (x0 : Option Nat) (x1 : Int32) (x2 : Int32) (x3 : Int32), ∀ σ, P σ → PIo P (call 74 [va_rf x0, .int x1, .int x2, .int x3] σ)) ∧ (∀ (x0 : Option Nat) (x1 : Int32) (x2 : Int32) (x3 : Int32), ∀ σ, P σ → PIo P (call 75 [va_rf x0, .int x1, .int x2, .int x3] σ)) ∧ (∀ (x0 : Option Nat) (x1 : Int32), ∀ σ, P σ → PIo P (call 76 [va_rf x0, .int x1] σ)) ∧ (∀ (x0 : Option Nat) (x1 : Int32), ∀ σ, P σ → PIo P (call 77 [va_rf x0, .int x1] σ)) ∧ (∀ (x0 : Option Nat) (x1 : Int32), ∀ σ, P σ → PIo P (call 78 [va_rf x0, .int x1] σ)) ∧ (∀ (x0 : Option Nat) (x1 : Int64) (x2 : Int32), ∀ σ, P σ → PIo P (call 79 [va_rf x0, .long x1, .int x2] σ)) ∧ (∀ (x0 : Option Nat), ∀ σ, P σ → PIo P (call 80 [va_rf x0] σ)) ∧ (∀ (x0 : Option Nat) (x1 : Option Nat) (x2 : Int32) (x3 : Int32), ∀ σ, P σ → PIo P (call 81 [va_rf x0, va_rf x1, .int x2, .int x3] σ)) ∧ (∀ (x0 : Option Nat) (x1 : Int64) (x2 : Int64) (x3 : Int64), ∀ σ, P σ → PIo P (call 82 [va_rf x0, .long x1, .long x2, .long x3] σ)) ∧ (∀ (x0 : Option Nat) (x1 : Option Nat) (x2 : Int32), ∀ σ, P σ → PIo P (call 83 [va_rf x0, va_rf x1, .int x2] σ)) ∧ (∀ (x0 : Option Nat) (x1 : Int64) (x2 : Int32), ∀ σ, P σ → PIo P (call 84 [va_rf x0, .long x1, .int x2] σ)) ∧ (∀ (x0 : Option Nat) (x1 : Option Nat), ∀ σ, P σ → PIo P (call 85 [va_rf x0, va_rf x1] σ)) ∧ (∀ (x0 : Option Nat) (x1 : Int64) (x2 : Int32) (x3 : Option Nat), ∀ σ, P σ → PIo P (call 86 [va_rf x0, .long x1, .int x2, va_rf x3] σ)) ∧ (∀ (x0 : Option Nat) (x1 : Option Nat), ∀ σ, P σ → PIo P (call 87 [va_rf x0, va_rf x1] σ)) ∧ (∀ (x0 : Option Nat) (x1 : Option Nat), ∀ σ, P σ → PIo P (call 88 [va_rf x0, va_rf x1] σ)) ∧ (∀ (x0 : Option Nat) (x1 : Option Nat), ∀ σ, P σ → PIo P (call 89 [va_rf x0, va_rf x1] σ)) ∧ (∀ (x0 : Option Nat) (x1 : Option Nat), ∀ σ, P σ → PIo P (call 90 [va_rf x0, va_rf x1] σ)) ∧ (∀ (x0 : Option Nat) (x1 : Option Nat), ∀ σ, P σ → PIo P (call 91 [va_rf x0, va_rf x1] σ)) ∧ (∀ (x0 : Option Nat) (x1 : Int32) (x2 : Int32), ∀ σ, P σ → PIo P (call 92 [va_rf x0, .int x1, .int x2] σ)) ∧ (∀ (x0 : Option Nat) (x1 : Option Nat), ∀ σ, P σ → PIo P (call 93 [va_rf x0, va_rf x1] σ)) ∧ (∀ (x0 : Option Nat) (x1 : Int64), ∀ σ, P σ → PIo P (call 94 [va_rf x0, .long x1] σ)) ∧ (∀ (x0 : Option Nat) (x1 : Option Nat), ∀ σ, P σ → PIo P (call 95 [va_rf x0, va_rf x1] σ)) ∧ (∀ (x0 : Option Nat) (x1 : Int64) (x2 : Option Nat), ∀ σ, P σ → PIo P (call 96 [va_rf x0, .long x1, va_rf x2] σ)) ∧ (∀ (x0 : Option Nat) (x1 : Option Nat), ∀ σ, P σ → PIo P (call 97 [va_rf x0, va_rf x1] σ)) ∧ (∀ (x0 : Option Nat) (x1 : Option Nat), ∀ σ, P σ → PIo P (call 98 [va_rf x0, va_rf x1] σ)) ∧ (∀ (x0 : Option Nat) (x1 : Option Nat), ∀ σ, P σ → PIo P (call 99 [va_rf x0, va_rf x1] σ)) ∧ (∀ (x0 : Option Nat), ∀ σ, P σ → PIo P (call 100 [va_rf x0] σ)) ∧ (∀ (x0 : Option Nat) (x1 : Int32), ∀ σ, P σ → PIo P (call 101 [va_rf x0, .int x1] σ)) ∧ (∀ (x0 : Option Nat) (x1 : Int32) (x2 : Int32) (x3 : Int32), ∀ σ, P σ → PIo P (call 102 [va_rf x0, .int x1, .int x2, .int x3] σ)) ∧ (∀ (x0 : Option Nat) (x1 : Option Nat), ∀ σ, P σ → PIo P (call 103 [va_rf x0, va_rf x1] σ)) ∧ (∀ (x0 : Option Nat), ∀ σ, P σ → PIo P (call 104 [va_rf x0] σ)) ∧ (∀ (x0 : Option Nat), ∀ σ, P σ → PIo P (call 105 [va_rf x0] σ)) ∧ (∀ (x0 : Option Nat), ∀ σ, P σ → PIo P (call 106 [va_rf x0] σ)) ∧ (∀ (x0 : Option Nat), ∀ σ, P σ → PIo P (call 107 [va_rf x0] σ)) ∧ (∀ (x0 : Option Nat) (x1 : Int32), ∀ σ, P σ → PIo P (call 108 [va_rf x0, .int x1] σ)) ∧ (∀ (x0 : Int32), ∀ σ, P σ → PIo P (call 109 [.int x0] σ)) ∧ (∀ (x0 : Option Nat) (x1 : Int32), ∀ σ, P σ → PIo P (call 110 [va_rf x0, .int x1] σ)) ∧ (∀ (x0 : Option Nat), ∀ σ, P σ → PIo P (call 111 [va_rf x0] σ)) ∧ (∀ (x0 : Option Nat), ∀ σ, P σ → PIo P (call 112 [va_rf x0] σ)) ∧ (∀ (x0 : Option Nat) (x1 : Int32), ∀ σ, P σ → PIo P (call 113 [va_rf x0, .int x1] σ)) ∧ (∀ (x0 : Option Nat) (x1 : Option Nat), ∀ σ, P σ → PIo P (call 114 [va_rf x0, va_rf x1] σ)) ∧ (∀ (x0 : Option Nat), ∀ σ, P σ → PIo P (call 115 [va_rf x0] σ)) ∧ (∀ (x0 : Option Nat) (x1 : Option Nat), ∀ σ, P σ → PIo P (call 116 [va_rf x0, va_rf x1] σ)) ∧ (∀ (x0 : Option Nat), ∀ σ, P σ → PIo P (call 117 [va_rf x0] σ)) ∧ (∀ (x0 : Option Nat) (x1 : Int32), ∀ σ, P σ → PIo P (call 118 [va_rf x0, .int x1] σ)) ∧ (∀ (x0 : Option Nat), ∀ σ, P σ → PIo P (call 119 [va_rf x0] σ)) ∧ (∀ (x0 : Option Nat) (x1 : Int32), ∀ σ, P σ → PIo P (call 120 [va_rf x0, .int x1] σ)) ∧ (∀ (x0 : Option Nat), ∀ σ, P σ → PIo P (call 121 [va_rf x0] σ)) ∧ (∀ (x0 : Option Nat) (x1 : Int32), ∀ σ, P σ → PIo P (call 122 [va_rf x0, .int x1] σ)) ∧ (∀ (x0 : Option Nat) (x1 : Option Nat) (x2 : Int32), ∀ σ, P σ → PIo P (call 123 [va_rf x0, va_rf x1, .int x2] σ)) ∧ (∀ (x0 : Option Nat) (x1 : Option Nat) (x2 : Int32), ∀ σ, P σ → PIo P (call 124 [va_rf x0, va_rf x1, .int x2] σ)) ∧ (∀ (x0 : Option Nat) (x1 : Option Nat), ∀ σ, P σ → PIo P (call 125 [va_rf x0, va_rf x1] σ)) ∧ (∀ (x0 : Option Nat) (x1 : Int32), ∀ σ, P σ → PIo P (call 126 [va_rf x0, .int x1] σ)) ∧ (∀ (x0 : Option Nat) (x1 : Int32), ∀ σ, P σ → PIo P (call 127 [va_rf x0, .int x1] σ)) ∧ (∀ (x0 : Option Nat) (x1 : Int32), ∀ σ, P σ → PIo P (call 128 [va_rf x0, .int x1] σ)) ∧ (∀ (x0 : Option Nat) (x1 : Int32), ∀ σ, P σ → PIo P (call 129 [va_rf x0, .int x1] σ)) ∧ (∀ (x0 : Int32), ∀ σ, P σ → PIo P (call 130 [.int x0] σ)) ∧ (∀ (x0 : Option Nat) (x1 : Option Nat), ∀ σ, P σ → PIo P (call 131 [va_rf x0, va_rf x1] σ)) ∧ (∀ (x0 : Option Nat) (x1 : Option Nat), ∀ σ, P σ → PIo P (call 132 [va_rf x0, va_rf x1] σ)) ∧ (∀ (x0 : Option Nat) (x1 : Option Nat), ∀ σ, P σ → PIo P (call 133 [va_rf x0, va_rf x1] σ)) ∧ (∀ (x0 : Option Nat) (x1 : Int32), ∀ σ, P σ → PIo P (call 134 [va_rf x0, .int x1] σ)) ∧ (∀ (x0 : Option Nat) (x1 : Int32), ∀ σ, P σ → PIo P (call 135 [va_rf x0, .int x1] σ)) ∧ (∀ (x0 : Option Nat) (x1 : Option Nat) (x2 : Int32), ∀ σ, P σ → PIo P (call 136 [va_rf x0, va_rf x1, .int x2] σ)) ∧ (∀ (x0 : Option Nat) (x1 : Int32), ∀ σ, P σ → PIo P (call 137 [va_rf x0, .int x1] σ)) ∧ (∀ (x0 : Option Nat) (x1 : Option Nat) (x2 : Int32), ∀ σ, P σ → PIo P (call 138 [va_rf x0, va_rf x1, .int x2] σ)) ∧ (∀ (x0 : Option Nat) (x1 : Option Nat) (x2 : Int32), ∀ σ, P σ → PIo P (call 139 [va_rf x0, va_rf x1, .int x2] σ)) ∧ (∀ (x0 : Option Nat) (x1 : Option Nat) (x2 : Int32), ∀ σ, P σ → PIo P (call 140 [va_rf x0, va_rf x1, .int x2] σ)) ∧ (∀ (x0 : Option Nat) (x1 : Option Nat) (x2 : Int32), ∀ σ, P σ → PIo P (call 141 [va_rf x0, va_rf x1, .int x2] σ)) ∧ (∀ (x0 : Option Nat) (x1 : Int32), ∀ σ, P σ → PIo P (call 142 [va_rf x0, .int x1] σ)) ∧ (∀ (x0 : Option Nat) (x1 : Option Nat) (x2 : Int32), ∀ σ, P σ → PIo P (call 143 [va_rf x0, va_rf x1, .int x2] σ)) ∧ (∀ (x0 : Option Nat) (x1 : Option Nat) (x2 : Int32), ∀ σ, P σ → PIo P (call 144 [va_rf x0, va_rf x1, .int x2] σ)) ∧ (∀ (x0 : Option Nat), ∀ σ, P σ → PIo P (call 145 [va_rf x0] σ)) ∧ (∀ (x0 : Option Nat) (x1 : Int32), ∀ σ, P σ → PIo P (call 146 [va_rf x0, .int x1] σ)) ∧ (∀ (x0 : Option Nat) (x1 : Int32), ∀ σ, P σ → PIo P (call 147 [va_rf x0, .int x1] σ)) ∧ (∀ (x0 : Int32), ∀ σ, P σ → PIo P (call 148 [.int x0] σ)) ∧ (∀ (x0 : Option Nat) (x1 : Int32) (x2 : Int32), ∀ σ, P σ → PIo P (call 149 [va_rf x0, .int x1, .int x2] σ)) ∧ (∀ (x0 : Option Nat) (x1 : Int32) (x2 : Int32), ∀ σ, P σ → PIo P (call 150 [va_rf x0, .int x1, .int x2] σ)) ∧ (∀ (x0 : Option Nat) (x1 : Int32), ∀ σ, P σ → PIo P (call 151 [va_rf x0, .int x1] σ)) ∧ (∀ (x0 : Option Nat) (x1 : Int32) (x2 : Int32) (x3 : Int32), ∀ σ, P σ → PIo P (call 152 [va_rf x0, .int x1, .int x2, .int x3] σ)) ∧ (∀ (x0 : Option Nat) (x1 : Option Nat), ∀ σ, P σ → PIo P (call 153 [va_rf x0, va_rf x1] σ)) ∧ (∀ (x0 : Option Nat) (x1 : Option Nat), ∀ σ, P σ → PIo P (call 154 [va_rf x0, va_rf x1] σ)) ∧ (∀ (x0 : Option Nat) (x1 : Option Nat), ∀ σ, P σ → PIo P (call 155 [va_rf x0, va_rf x1] σ)) ∧ (∀ (x0 : Option Nat) (x1 : Option Nat), ∀ σ, P σ → PIo P (call 156 [va_rf x0, va_rf x1] σ)) ∧ (∀ (x0 : Option Nat) (x1 : Option Nat), ∀ σ, P σ → PIo P (call 157 [va_rf x0, va_rf x1] σ)) ∧ (∀ (x0 : Option Nat) (x1 : Option Nat), ∀ σ, P σ → PIo P (call 158 [va_rf x0, va_rf x1] σ)) ∧ (∀ (x0 : Option Nat) (x1 : Option Nat), ∀ σ, P σ → PIo P (call 159 [va_rf x0, va_rf x1] σ)) ∧ (∀ (x0 : Option Nat) (x1 : Int32), ∀ σ, P σ → PIo P (call 160 [va_rf x0, .int x1] σ)) ∧ (∀ (x0 : Option Nat) (x1 : Option Nat), ∀ σ, P σ → PIo P (call 161 [va_rf x0, va_rf x1] σ)) ∧ (∀ (x0 : Option Nat) (x1 : Option Nat), ∀ σ, P σ → PIo P (call 162 [va_rf x0, va_rf x1] σ)) ∧ (∀ (x0 : Int32), ∀ σ, P σ → PIo P (call 163 [.int x0] σ)) ∧ (∀ (x0 : Int32), ∀ σ, P σ → PIo P (call 164 [.int x0] σ)) ∧ (∀ (x0 : Int32) (x1 : Int32), ∀ σ, P σ → PIo P (call 165 [.int x0, .int x1] σ)) ∧ (∀ (x0 : Option Nat) (x1 : Int32), ∀ σ, P σ → PIo P (call 166 [va_rf x0, .int x1] σ)) ∧ (∀ (x0 : Option Nat) (x1 : Int32), ∀ σ, P σ → PIo P (call 167 [va_rf x0, .int x1] σ)) ∧ (∀ (x0 : Option Nat) (x1 : Int32) (x2 : Int32) (x3 : Int32), ∀ σ, P σ → PIo P (call 168 [va_rf x0, .int x1, .int x2, .int x3] σ)) ∧ (∀ (x0 : Option Nat) (x1 : Int32) (x2 : Int32), ∀ σ, P σ → PIo P (call 169 [va_rf x0, .int x1, .int x2] σ)) ∧ (∀ (x0 : Option Nat) (x1 : Int32) (x2 : Int32), ∀ σ, P σ → PIo P (call 170 [va_rf x0, .int x1, .int x2] σ)) ∧ (∀ (x0 : Option Nat), ∀ σ, P σ → PIo P (call 171 [va_rf x0] σ)) ∧ (∀ (x0 : Option Nat) (x1 : Option Nat), ∀ σ, P σ → PIo P (call 172 [va_rf x0, va_rf x1] σ)) ∧ (∀ (x0 : Option Nat) (x1 : Int32), ∀ σ, P σ → PIo P (call 174 [va_rf x0, .int x1] σ)) ∧ (∀ (x0 : Option Nat) (x1 : Int32) (x2 : Int32) (x3 : Int32) (x4 : Int32) (x5 : Int32), ∀ σ, P σ → PIo P (call 175 [va_rf x0, .int x1, .int x2, .int x3, .int x4, .int x5] σ)) ∧ (∀ (x0 : Option Nat) (x1 : Int32), ∀ σ, P σ → PIo P (call 176 [va_rf x0, .int x1] σ)) ∧ (∀ (x0 : Option Nat) (x1 : Int32) (x2 : Int32), ∀ σ, P σ → PIo P (call 177 [va_rf x0, .int x1, .int x2] σ)) ∧ (∀ (x0 : Option Nat), ∀ σ, P σ → PIo P (call 178 [va_rf x0] σ)) ∧ (∀ (x0 : Option Nat), ∀ σ, P σ → PIo P (call 179 [va_rf x0] σ)) ∧ (∀ (x0 : Option Nat), ∀ σ, P σ → PIo P (call 180 [va_rf x0] σ)) ∧ (∀ (x0 : Option Nat) (x1 : Int32), ∀ σ, P σ → PIo P (call 181 [va_rf x0, .int x1] σ)) ∧ (∀ (x0 : Option Nat) (x1 : Option Nat), ∀ σ, P σ → PIo P (call 182 [va_rf x0, va_rf x1] σ)) ∧ (∀ (x0 : Option Nat) (x1 : Int64), ∀ σ, P σ → PIo P (call 183 [va_rf x0, .long x1] σ)) ∧ (∀ (x0 : Option Nat) (x1 : Option Nat), ∀ σ, P σ → PIo P (call 184 [va_rf x0, va_rf x1] σ)) ∧ (∀ (x0 : Option Nat) (x1 : Int32), ∀ σ, P σ → PIo P (call 185 [va_rf x0, .int x1] σ)) ∧ (∀ (x0 : Option Nat) (x1 : Option Nat), ∀ σ, P σ → PIo P (call 186 [va_rf x0, va_rf x1] σ)) ∧ (∀ (x0 : Option Nat) (x1 : Option Nat), ∀ σ, P σ → PIo P (call 187 [va_rf x0, va_rf x1] σ)) ∧ (∀ (x0 : Option Nat) (x1 : Option Nat) (x2 : Int32), ∀ σ, P σ → PIo P (call 188 [va_rf x0, va_rf x1, .int x2] σ)) ∧ (∀ (x0 : Option Nat) (x1 : Int32), ∀ σ, P σ → PIo P (call 189 [va_rf x0, .int x1] σ)) ∧ (∀ (x0 : Option Nat) (x1 : Int32), ∀ σ, P σ → PIo P (call 190 [va_rf x0, .int x1] σ)) ∧ (∀ (x0 : Option Nat) (x1 : Int32) (x2 : Int32), ∀ σ, P σ → PIo P (call 191 [va_rf x0, .int x1, .int x2] σ)) ∧ (∀ (x0 : Option Nat) (x1 : Int32) (x2 : Int32) (x3 : Int32), ∀ σ, P σ → PIo P (call 192 [va_rf x0, .int x1, .int x2, .int x3] σ)) ∧ (∀ (x0 : Option Nat) (x1 : Int32), ∀ σ, P σ → PIo P (call 193 [va_rf x0, .int x1] σ)) ∧ (∀ (x0 : Option Nat), ∀ σ, P σ → PIo P (call 194 [va_rf x0] σ)) ∧ (∀ (x0 : Option Nat), ∀ σ, P σ → PIo P (call 195 [va_rf x0] σ)) ∧ (∀ (x0 : Option Nat) (x1 : Option Nat), ∀ σ, P σ → PIo P (call 196 [va_rf x0, va_rf x1] σ)) ∧ (∀ (x0 : Option Nat) (x1 : Option Nat) (x2 : Int32) (x3 : Int32) (x4 : Option Nat), ∀ σ, P σ → PIo P (call 197 [va_rf x0, va_rf x1, .int x2, .int x3, va_rf x4] σ)) ∧ (∀ (x0 : Option Nat) (x1 : Int32) (x2 : Int32), ∀ σ, P σ → PIo P (call 198 [va_rf x0, .int x1, .int x2] σ)) ∧ (∀ (x0 : Option Nat) (x1 : Int32) (x2 : Option Nat) (x3 : Int32) (x4 : Int32), ∀ σ, P σ → PIo P (call 199 [va_rf x0, .int x1, va_rf x2, .int x3, .int x4] σ)) ∧ (∀ (x0 : Option Nat) (x1 : Int32), ∀ σ, P σ → PIo P (call 200 [va_rf x0, .int x1] σ)) ∧ (∀ (x0 : Option Nat) (x1 : Int32), ∀ σ, P σ → PIo P (call 201 [va_rf x0, .int x1] σ)) ∧ (∀ (x0 : Option Nat), ∀ σ, P σ → PIo P (call 202 [va_rf x0] σ)) ∧ (∀ (x0 : Option Nat) (x1 : Int32), ∀ σ, P σ → PIo P (call 203 [va_rf x0, .int x1] σ)) ∧ (∀ (x0 : Int32) (x1 : Int32), ∀ σ, P σ → PIo P (call 204 [.int x0, .int x1] σ)) ∧ (∀ (x0 : Int32) (x1 : Int32), ∀ σ, P σ → PIo P (call 205 [.int x0, .int x1] σ)) ∧ (∀ (x0 : Int32) (x1 : Int32) (x2 : Option Nat), ∀ σ, P σ → PIo P (call 206 [.int x0, .int x1, va_rf x2] σ)) ∧ (∀ (x0 : Option Nat), ∀ σ, P σ → PIo P (call 207 [va_rf x0] σ)) ∧ (∀ (x0 : Option Nat), ∀ σ, P σ → PIo P (call 208 [va_rf x0] σ)) ∧ (∀ (x0 : Option Nat) (x1 : Int32) (x2 : Int32), ∀ σ, P σ → PIo P (call 209 [va_rf x0, .int x1, .int x2] σ)) ∧ (∀ (x0 : Int32) (x1 : Int32) (x2 : Int32), ∀ σ, P σ → PIo P (call 210 [.int x0, .int x1, .int x2] σ)) ∧ (∀ (x0 : Int32) (x1 : Int32) (x2 : Int32) (x3 : Option Nat), ∀ σ, P σ → PIo P (call 211 [.int x0, .int x1, .int x2, va_rf x3] σ)) ∧ (∀ (x0 : Option Nat) (x1 : Int32) (x2 : Int32), ∀ σ, P σ → PIo P (call 212 [va_rf x0, .int x1, .int x2] σ)) ∧ (∀ (x0 : Option Nat) (x1 : Int32) (x2 : Int32), ∀ σ, P σ → PIo P (call 213 [va_rf x0, .int x1, .int x2] σ)) ∧ (∀ (x0 : Option Nat) (x1 : Int32) (x2 : Int32), ∀ σ, P σ → PIo P (call 214 [va_rf x0, .int x1, .int x2] σ)) ∧ (∀ (x0 : Int32) (x1 : Int32), ∀ σ, P σ → PIo P (call 215 [.int x0, .int x1] σ)) ∧ (∀ (x0 : Option Nat) (x1 : Option Nat) (x2 : Int32), ∀ σ, P σ → PIo P (call 216 [va_rf x0, va_rf x1, .int x2] σ)) ∧ (∀ (x0 : Option Nat) (x1 : Option Nat), ∀ σ, P σ → PIo P (call 217 [va_rf x0, va_rf x1] σ)) ∧ (∀ (x0 : Option Nat) (x1 : Option Nat), ∀ σ, P σ → PIo P (call 218 [va_rf x0, va_rf x1] σ)) ∧ (∀ (x0 : Option Nat) (x1 : Int32), ∀ σ, P σ → PIo P (call 219 [va_rf x0, .int x1] σ)) ∧ (∀ (x0 : Option Nat) (x1 : Int32) (x2 : Int32), ∀ σ, P σ → PIo P (call 220 [va_rf x0, .int x1, .int x2] σ)) ∧ (∀ (x0 : Option Nat) (x1 : Int32) (x2 : Int32) (x3 : Int32), ∀ σ, P σ → PIo P (call 221 [va_rf x0, .int x1, .int x2, .int x3] σ)) ∧ (∀ (x0 : Int32), ∀ σ, P σ → PIo P (call 222 [.int x0] σ)) ∧ (∀ (x0 : Option Nat) (x1 : Int32) (x2 : Int32) (x3 : Int32), ∀ σ, P σ → PIo P (call 223 [va_rf x0, .int x1, .int x2, .int x3] σ)) ∧ (∀ (x0 : Option Nat), ∀ σ, P σ → PIo P (call 224 [va_rf x0] σ)) ∧ (∀ (x0 : Option Nat), ∀ σ, P σ → PIo P (call 225 [va_rf x0] σ)) ∧ (∀ (x0 : Option Nat), ∀ σ, P σ → PIo P (call 226 [va_rf x0] σ)) ∧ (∀ (x0 : Option Nat) (x1 : Option Nat), ∀ σ, P σ → PIo P (call 227 [va_rf x0, va_rf x1] σ)) ∧ (∀ (x0 : Option Nat) (x1 : Option Nat) (x2 : Option Nat) (x3 : Int32), ∀ σ, P σ → PIo P (call 228 [va_rf x0, va_rf x1, va_rf x2, .int x3] σ)) ∧ (∀ (x0 : Option Nat), ∀ σ, P σ → PIo P (call 229 [va_rf x0] σ)) ∧ (∀ (x0 : Option Nat) (x1 : Int32), ∀ σ, P σ → PIo P (call 230 [va_rf x0, .int x1] σ)) ∧ (∀ (x0 : Int32) (x1 : Int32) (x2 : Int32), ∀ σ, P σ → PIo P (call 231 [.int x0, .int x1, .int x2] σ)) ∧ (∀ (x0 : Option Nat) (x1 : Int32), ∀ σ, P σ → PIo P (call 232 [va_rf x0, .int x1] σ)) ∧ (∀ (x0 : Option Nat) (x1 : Int32) (x2 : Option Nat), ∀ σ, P σ → PIo P (call 233 [va_rf x0, .int x1, va_rf x2] σ)) ∧ (∀ (x0 : Option Nat) (x1 : Int32), ∀ σ, P σ → PIo P (call 234 [va_rf x0, .int x1] σ)) ∧ (∀ (x0 : Option Nat) (x1 : Int32), ∀ σ, P σ → PIo P (call 235 [va_rf x0, .int x1] σ)) ∧ (∀ (x0 : Option Nat), ∀ σ, P σ → PIo P (call 236 [va_rf x0] σ)) ∧ (∀ (x0 : Option Nat), ∀ σ, P σ → PIo P (call 237 [va_rf x0] σ)) ∧ (∀ (x0 : Option Nat) (x1 : Int32), ∀ σ, P σ → PIo P (call 238 [va_rf x0, .int x1] σ)) ∧ (∀ (x0 : Option Nat) (x1 : Int32), ∀ σ, P σ → PIo P (call 239 [va_rf x0, .int x1] σ)) ∧ (∀ (x0 : Option Nat) (x1 : Int32), ∀ σ, P σ → PIo P (call 240 [va_rf x0, .int x1] σ)) ∧ (∀ (x0 : Option Nat) (x1 : Int64), ∀ σ, P σ → PIo P (call 241 [va_rf x0, .long x1] σ)) ∧ (∀ (x0 : Option Nat) (x1 : Int32), ∀ σ, P σ → PIo P (call 242 [va_rf x0, .int x1] σ)) ∧ (∀ (x0 : Int64) (x1 : Int64), ∀ σ, P σ → PIo P (call 243 [.long x0, .long x1] σ)) ∧ (∀ (x0 : Int64) (x1 : Int64), ∀ σ, P σ → PIo P (call 244 [.long x0, .long x1] σ))
theorem cQoO.c0 {P : oSt → Prop} {call : oCl} (hc : cQoO P call) (x0 : Option Nat) (x1 : Option Nat) (x2 : Option Nat) (x3 : Option Nat) (σ : oSt) (h : P σ) : PIo P (call 0 [va_rf x0, va_rf x1, va_rf x2, va_rf x3] σ) := hc.1 x0 x1 x2 x3 σ h
theorem cQoO.c1 {P : oSt → Prop} {call : oCl} (hc : cQoO P call) (x0 : Option Nat) (x1 : Int32) (σ : oSt) (h : P σ) : PIo P (call 1 [va_rf x0, .int x1] σ) := hc.2.1 x0 x1 σ h
theorem cQoO.c2 {P : oSt → Prop} {call : oCl} (hc : cQoO P call) (x0 : Option Nat) (x1 : Option Nat) (x2 : Option Nat) (σ : oSt) (h : P σ) : PIo P (call 2 [va_rf x0, va_rf x1, va_rf x2] σ) := hc.2.2.1 x0 x1 x2 σ h
theorem cQoO.c3 {P : oSt → Prop} {call : oCl} (hc : cQoO P call) (x0 : Option Nat) (x1 : Option Nat) (x2 : Option Nat) (x3 : Option Nat) (σ : oSt) (h : P σ) : PIo P (call 3 [va_rf x0, va_rf x1, va_rf x2, va_rf x3] σ) := hc.2.2.2.1 x0 x1 x2 x3 σ h
theorem cQoO.c4 {P : oSt → Prop} {call : oCl} (hc : cQoO P call) (x0 : Option Nat) (x1 : Option Nat) (σ : oSt) (h : P σ) : PIo P (call 4 [va_rf x0, va_rf x1] σ) := hc.2.2.2.2.1 x0 x1 σ h
theorem cQoO.c5 {P : oSt → Prop} {call : oCl} (hc : cQoO P call) (x0 : Option Nat) (σ : oSt) (h : P σ) : PIo P (call 5 [va_rf x0] σ) := hc.2.2.2.2.2.1 x0 σ h
theorem cQoO.c6 {P : oSt → Prop} {call : oCl} (hc : cQoO P call) (x0 : Option Nat) (σ : oSt) (h : P σ) : PIo P (call 6 [va_rf x0] σ) := hc.2.2.2.2.2.2.1 x0 σ h
theorem cQoO.c7 {P : oSt → Prop} {call : oCl} (hc : cQoO P call) (x0 : Option Nat) (x1 : Option Nat) (x2 : Int32) (σ : oSt) (h : P σ) : PIo P (call 7 [va_rf x0, va_rf x1, .int x2] σ) := hc.2.2.2.2.2.2.2.1 x0 x1 x2 σ h
theorem cQoO.c8 {P : oSt → Prop} {call : oCl} (hc : cQoO P call) (x0 : Option Nat) (σ : oSt) (h : P σ) : PIo P (call 8 [va_rf x0] σ) := hc.2.2.2.2.2.2.2.2.1 x0 σ h
theorem cQoO.c9 {P : oSt → Prop} {call : oCl} (hc : cQoO P call) (x0 : Option Nat) (x1 : Option Nat) (σ : oSt) (h : P σ) : PIo P (call 9 [va_rf x0, va_rf x1] σ) := hc.2.2.2.2.2.2.2.2.2.1 x0 x1 σ h
theorem cQoO.c10 {P : oSt → Prop} {call : oCl} (hc : cQoO P call) (x0 : Option Nat) (x1 : Option Nat) (x2 : Int32) (σ : oSt) (h : P σ) : PIo P (call 10 [va_rf x0, va_rf x1, .int x2] σ) := hc.2.2.2.2.2.2.2.2.2.2.1 x0 x1 x2 σ h
theorem cQoO.c11 {P : oSt → Prop} {call : oCl} (hc : cQoO P call) (x0 : Option Nat) (x1 : Int32) (x2 : Int64) (σ : oSt) (h : P σ) : PIo P (call 11 [va_rf x0, .int x1, .long x2] σ) := hc.2.2.2.2.2.2.2.2.2.2.2.1 x0 x1 x2 σ h
theorem cQoO.c12 {P : oSt → Prop} {call : oCl} (hc : cQoO P call) (x0 : Option Nat) (x1 : Option Nat) (x2 : Option Nat) (x3 : Option Nat) (σ : oSt) (h : P σ) : PIo P (call 12 [va_rf x0, va_rf x1, va_rf x2, va_rf x3] σ) := hc.2.2.2.2.2.2.2.2.2.2.2.2.1 x0 x1 x2 x3 σ h
theorem cQoO.c13 {P : oSt → Prop} {call : oCl} (hc : cQoO P call) (x0 : Option Nat) (x1 : Option Nat) (x2 : Int32) (x3 : Option Nat) (σ : oSt) (h : P σ) : PIo P (call 13 [va_rf x0, va_rf x1, .int x2, va_rf x3] σ) := hc.2.2.2.2.2.2.2.2.2.2.2.2.2.1 x0 x1 x2 x3 σ h
theorem cQoO.c14 {P : oSt → Prop} {call : oCl} (hc : cQoO P call) (x0 : Option Nat) (σ : oSt) (h : P σ) : PIo P (call 14 [va_rf x0] σ) := hc.2.2.2.2.2.2.2.2.2.2.2.2.2.2.1 x0 σ h
theorem cQoO.c15 {P : oSt → Prop} {call : oCl} (hc : cQoO P call) (x0 : Option Nat) (x1 : Int32) (σ : oSt) (h : P σ) : PIo P (call 15 [va_rf x0, .int x1] σ) := hc.2.2.2.2.2.2.2.2.2.2.2.2.2.2.2.1 x0 x1 σ h
theorem cQoO.c16 {P : oSt → Prop} {call : oCl} (hc : cQoO P call) (x0 : Option Nat) (x1 : Int32) (x2 : Option Nat) (σ : oSt) (h : P σ) : PIo P (call 16 [va_rf x0, .int x1, va_rf x2] σ) := hc.2.2.2.2.2.2.2.2.2.2.2.2.2.2.2.2.1 x0 x1 x2 σ h
theorem cQoO.c17 {P : oSt → Prop} {call : oCl} (hc : cQoO P call) (x0 : Int32) (x1 : Option Nat) (σ : oSt) (h : P σ) : PIo P (call 17 [.int x0, va_rf x1] σ) := hc.2.2.2.2.2.2.2.2.2.2.2.2.2.2.2.2.2.1 x0 x1 σ h
theorem cQoO.c18 {P : oSt → Prop} {call : oCl} (hc : cQoO P call) (x0 : Option Nat) (x1 : Option Nat) (σ : oSt) (h : P σ) : PIo P (call 18 [va_rf x0, va_rf x1] σ) := hc.2.2.2.2.2.2.2.2.2.2.2.2.2.2.2.2.2.2.1 x0 x1 σ h
theorem cQoO.c19 {P : oSt → Prop} {call : oCl} (hc : cQoO P call) (x0 : Option Nat) (σ : oSt) (h : P σ) : PIo P (call 19 [va_rf x0] σ) := hc.2.2.2.2.2.2.2.2.2.2.2.2.2.2.2.2.2.2.2.1 x0 σ h
theorem cQoO.c20 {P : oSt → Prop} {call : oCl} (hc : cQoO P call) (x0 : Option Nat) (σ : oSt) (h : P σ) : PIo P (call 20 [va_rf x0] σ) := hc.2.2.2.2.2.2.2.2.2.2.2.2.2.2.2.2.2.2.2.2.1 x0 σ h
theorem cQoO.c21 {P : oSt → Prop} {call : oCl} (hc : cQoO P call) (x0 : Option Nat) (x1 : Int32) (σ : oSt) (h : P σ) : PIo P (call 21 [va_rf x0, .int x1] σ) := hc.2.2.2.2.2.2.2.2.2.2.2.2.2.2.2.2.2.2.2.2.2.1 x0 x1 σ h
theorem cQoO.c22 {P : oSt → Prop} {call : oCl} (hc : cQoO P call) (x0 : Option Nat) (x1 : Int32) (σ : oSt) (h : P σ) : PIo P (call 22 [va_rf x0, .int x1] σ) := hc.2.2.2.2.2.2.2.2.2.2.2.2.2.2.2.2.2.2.2.2.2.2.1 x0 x1 σ h
theorem cQoO.c23 {P : oSt → Prop} {call : oCl} (hc : cQoO P call) (x0 : Option Nat) (x1 : Int32) (σ : oSt) (h : P σ) : PIo P (call 23 [va_rf x0, .int x1] σ) := hc.2.2.2.2.2.2.2.2.2.2.2.2.2.2.2.2.2.2.2.2.2.2.2.1 x0 x1 σ h
theorem cQoO.c24 {P : oSt → Prop} {call : oCl} (hc : cQoO P call) (x0 : Option Nat) (x1 : Int32) (σ : oSt) (h : P σ) : PIo P (call 24 [va_rf x0, .int x1] σ) := hc.2.2.2.2.2.2.2.2.2.2.2.2.2.2.2.2.2.2.2.2.2.2.2.2.1 x0 x1 σ h
theorem cQoO.c25 {P : oSt → Prop} {call : oCl} (hc : cQoO P call) (x0 : Option Nat) (x1 : Option Nat) (x2 : Int32) (σ : oSt) (h : P σ) : PIo P (call 25 [va_rf x0, va_rf x1, .int x2] σ) := hc.2.2.2.2.2.2.2.2.2.2.2.2.2.2.2.2.2.2.2.2.2.2.2.2.2.1 x0 x1 x2 σ h
theorem cQoO.c26 {P : oSt → Prop} {call : oCl} (hc : cQoO P call) (x0 : Option Nat) (x1 : Option Nat) (σ : oSt) (h : P σ) : PIo P (call 26 [va_rf x0, va_rf x1] σ) := hc.2.2.2.2.2.2.2.2.2.2.2.2.2.2.2.2.2.2.2.2.2.2.2.2.2.2.1 x0 x1 σ h
theorem cQoO.c27 {P : oSt → Prop} {call : oCl} (hc : cQoO P call) (x0 : Option Nat) (x1 : Int32) (x2 : Option Nat) (x3 : Int32) (σ : oSt) (h : P σ) : PIo P (call 27 [va_rf x0, .int x1, va_rf x2, .int x3] σ) := hc.2.2.2.2.2.2.2.2.2.2.2.2.2.2.2.2.2.2.2.2.2.2.2.2.2.2.2.1 x0 x1 x2 x3 σ h
theorem cQoO.c28 {P : oSt → Prop} {call : oCl} (hc : cQoO P call) (x0 : Option Nat) (x1 : Int32) (x2 : Option Nat) (x3 : Option Nat) (σ : oSt) (h : P σ) : PIo P (call 28 [va_rf x0, .int x1, va_rf x2, va_rf x3] σ) := hc.2.2.2.2.2.2.2.2.2.2.2.2.2.2.2.2.2.2.2.2.2.2.2.2.2.2.2.2.1 x0 x1 x2 x3 σ h
theorem cQoO.c29 {P : oSt → Prop} {call : oCl} (hc : cQoO P call) (x0 : Option Nat) (x1 : Option Nat) (x2 : Option Nat) (x3 : Option Nat) (σ : oSt) (h : P σ) : PIo P (call 29 [va_rf x0, va_rf x1, va_rf x2, va_rf x3] σ) := hc.2.2.2.2.2.2.2.2.2.2.2.2.2.2.2.2.2.2.2.2.2.2.2.2.2.2.2.2.2.1 x0 x1 x2 x3 σ h
theorem cQoO.c30 {P : oSt → Prop} {call : oCl} (hc : cQoO P call) (x0 : Option Nat) (x1 : Option Nat) (x2 : Option Nat) (σ : oSt) (h : P σ) : PIo P (call 30 [va_rf x0, va_rf x1, va_rf x2] σ) := hc.2.2.2.2.2.2.2.2.2.2.2.2.2.2.2.2.2.2.2.2.2.2.2.2.2.2.2.2.2.2.1 x0 x1 x2 σ h
theorem cQoO.c31 {P : oSt → Prop} {call : oCl} (hc : cQoO P call) (x0 : Option Nat) (x1 : Option Nat) (x2 : Option Nat) (σ : oSt) (h : P σ) : PIo P (call 31 [va_rf x0, va_rf x1, va_rf x2] σ) := hc.2.2.2.2.2.2.2.2.2.2.2.2.2.2.2.2.2.2.2.2.2.2.2.2.2.2.2.2.2.2.2.1 x0 x1 x2 σ h
theorem cQoO.c32 {P : oSt → Prop} {call : oCl} (hc : cQoO P call) (x0 : Option Nat) (x1 : Option Nat) (x2 : Option Nat) (σ : oSt) (h : P σ) : PIo P (call 32 [va_rf x0, va_rf x1, va_rf x2] σ) := hc.2.2.2.2.2.2.2.2.2.2.2.2.2.2.2.2.2.2.2.2.2.2.2.2.2.2.2.2.2.2.2.2.1 x0 x1 x2 σ h
theorem cQoO.c33 {P : oSt → Prop} {call : oCl} (hc : cQoO P call) (x0 : Option Nat) (x1 : Option Nat) (x2 : Option Nat) (σ : oSt) (h : P σ) : PIo P (call 33 [va_rf x0, va_rf x1, va_rf x2] σ) := hc.2.2.2.2.2.2.2.2.2.2.2.2.2.2.2.2.2.2.2.2.2.2.2.2.2.2.2.2.2.2.2.2.2.1 x0 x1 x2 σ h
theorem cQoO.c34 {P : oSt → Prop} {call : oCl} (hc : cQoO P call) (x0 : Option Nat) (x1 : Option Nat) (x2 : Option Nat) (σ : oSt) (h : P σ) : PIo P (call 34 [va_rf x0, va_rf x1, va_rf x2] σ) := hc.2.2.2.2.2.2.2.2.2.2.2.2.2.2.2.2.2.2.2.2.2.2.2.2.2.2.2.2.2.2.2.2.2.2.1 x0 x1 x2 σ h
theorem cQoO.c35 {P : oSt → Prop} {call : oCl} (hc : cQoO P call) (x0 : Option Nat) (x1 : Option Nat) (x2 : Option Nat) (σ : oSt) (h : P σ) : PIo P (call 35 [va_rf x0, va_rf x1, va_rf x2] σ) := hc.2.2.2.2.2.2.2.2.2.2.2.2.2.2.2.2.2.2.2.2.2.2.2.2.2.2.2.2.2.2.2.2.2.2.2.1 x0 x1 x2 σ h
theorem cQoO.c36 {P : oSt → Prop} {call : oCl} (hc : cQoO P call) (x0 : Option Nat) (x1 : Option Nat) (x2 : Option Nat) (σ : oSt) (h : P σ) : PIo P (call 36 [va_rf x0, va_rf x1, va_rf x2] σ) := hc.2.2.2.2.2.2.2.2.2.2.2.2.2.2.2.2.2.2.2.2.2.2.2.2.2.2.2.2.2.2.2.2.2.2.2.2.1 x0 x1 x2 σ h
theorem cQoO.c37 {P : oSt → Prop} {call : oCl} (hc : cQoO P call) (x0 : Option Nat) (σ : oSt) (h : P σ) : PIo P (call 37 [va_rf x0] σ) := hc.2.2.2.2.2.2.2.2.2.2.2.2.2.2.2.2.2.2.2.2.2.2.2.2.2.2.2.2.2.2.2.2.2.2.2.2.2.1 x0 σ h
theorem cQoO.c38 {P : oSt → Prop} {call : oCl} (hc : cQoO P call) (x0 : Option Nat) (σ : oSt) (h : P σ) : PIo P (call 38 [va_rf x0] σ) := hc.2.2.2.2.2.2.2.2.2.2.2.2.2.2.2.2.2.2.2.2.2.2.2.2.2.2.2.2.2.2.2.2.2.2.2.2.2.2.1 x0 σ h
theorem cQoO.c39 {P : oSt → Prop} {call : oCl} (hc : cQoO P call) (x0 : Option Nat) (σ : oSt) (h : P σ) : PIo P (call 39 [va_rf x0] σ) := hc.2.2.2.2.2.2.2.2.2.2.2.2.2.2.2.2.2.2.2.2.2.2.2.2.2.2.2.2.2.2.2.2.2.2.2.2.2.2.2.1 x0 σ h
theorem cQoO.c40 {P : oSt → Prop} {call : oCl} (hc : cQoO P call) (x0 : Option Nat) (x1 : Int32) (σ : oSt) (h : P σ) : PIo P (call 40 [va_rf x0, .int x1] σ) := hc.2.2.2.2.2.2.2.2.2.2.2.2.2.2.2.2.2.2.2.2.2.2.2.2.2.2.2.2.2.2.2.2.2.2.2.2.2.2.2.2.1 x0 x1 σ h
theorem cQoO.c41 {P : oSt → Prop} {call : oCl} (hc : cQoO P call) (x0 : Option Nat) (x1 : Int32) (σ : oSt) (h : P σ) : PIo P (call 41 [va_rf x0, .int x1] σ) := hc.2.2.2.2.2.2.2.2.2.2.2.2.2.2.2.2.2.2.2.2.2.2.2.2.2.2.2.2.2.2.2.2.2.2.2.2.2.2.2.2.2.1 x0 x1 σ h
theorem cQoO.c42 {P : oSt → Prop} {call : oCl} (hc : cQoO P call) (x0 : Option Nat) (x1 : Int32) (x2 : Int32) (x3 : Int64) (σ : oSt) (h : P σ) : PIo P (call 42 [va_rf x0, .int x1, .int x2, .long x3] σ) := hc.2.2.2.2.2.2.2.2.2.2.2.2.2.2.2.2.2.2.2.2.2.2.2.2.2.2.2.2.2.2.2.2.2.2.2.2.2.2.2.2.2.2.1 x0 x1 x2 x3 σ h
theorem cQoO.c43 {P : oSt → Prop} {call : oCl} (hc : cQoO P call) (x0 : Option Nat) (σ : oSt) (h : P σ) : PIo P (call 43 [va_rf x0] σ) := hc.2.2.2.2.2.2.2.2.2.2.2.2.2.2.2.2.2.2.2.2.2.2.2.2.2.2.2.2.2.2.2.2.2.2.2.2.2.2.2.2.2.2.2.1 x0 σ h
theorem cQoO.c44 {P : oSt → Prop} {call : oCl} (hc : cQoO P call) (x0 : Option Nat) (x1 : Int32) (x2 : Int32) (x3 : Int64) (σ : oSt) (h : P σ) : PIo P (call 44 [va_rf x0, .int x1, .int x2, .long x3] σ) := hc.2.2.2.2.2.2.2.2.2.2.2.2.2.2.2.2.2.2.2.2.2.2.2.2.2.2.2.2.2.2.2.2.2.2.2.2.2.2.2.2.2.2.2.2.1 x0 x1 x2 x3 σ h
theorem cQoO.c45 {P : oSt → Prop} {call : oCl} (hc : cQoO P call) (x0 : Option Nat) (x1 : Option Nat) (σ : oSt) (h : P σ) : PIo P (call 45 [va_rf x0, va_rf x1] σ) := hc.2.2.2.2.2.2.2.2.2.2.2.2.2.2.2.2.2.2.2.2.2.2.2.2.2.2.2.2.2.2.2.2.2.2.2.2.2.2.2.2.2.2.2.2.2.1 x0 x1 σ h
theorem cQoO.c46 {P : oSt → Prop} {call : oCl} (hc : cQoO P call) (x0 : Option Nat) (x1 : Int32) (σ : oSt) (h : P σ) : PIo P (call 46 [va_rf x0, .int x1] σ) := hc.2.2.2.2.2.2.2.2.2.2.2.2.2.2.2.2.2.2.2.2.2.2.2.2.2.2.2.2.2.2.2.2.2.2.2.2.2.2.2.2.2.2.2.2.2.2.1 x0 x1 σ h
theorem cQoO.c47 {P : oSt → Prop} {call : oCl} (hc : cQoO P call) (x0 : Option Nat) (x1 : Int32) (σ : oSt) (h : P σ) : PIo P (call 47 [va_rf x0, .int x1] σ) := hc.2.2.2.2.2.2.2.2.2.2.2.2.2.2.2.2.2.2.2.2.2.2.2.2.2.2.2.2.2.2.2.2.2.2.2.2.2.2.2.2.2.2.2.2.2.2.2.1 x0 x1 σ h
theorem cQoO.c48 {P : oSt → Prop} {call : oCl} (hc : cQoO P call) (x0 : Option Nat) (x1 : Int32) (x2 : Int32) (x3 : Int64) (σ : oSt) (h : P σ) : PIo P (call 48 [va_rf x0, .int x1, .int x2, .long x3] σ) := hc.2.2.2.2.2.2.2.2.2.2.2.2.2.2.2.2.2.2.2.2.2.2.2.2.2.2.2.2.2.2.2.2.2.2.2.2.2.2.2.2.2.2.2.2.2.2.2.2.1 x0 x1 x2 x3 σ h
theorem cQoO.c49 {P : oSt → Prop} {call : oCl} (hc : cQoO P call) (x0 : Option Nat) (x1 : Option Nat) (x2 : Int32) (x3 : Int32) (σ : oSt) (h : P σ) : PIo P (call 49 [va_rf x0, va_rf x1, .int x2, .int x3] σ) := hc.2.2.2.2.2.2.2.2.2.2.2.2.2.2.2.2.2.2.2.2.2.2.2.2.2.2.2.2.2.2.2.2.2.2.2.2.2.2.2.2.2.2.2.2.2.2.2.2.2.1 x0 x1 x2 x3 σ h
theorem cQoO.c50 {P : oSt → Prop} {call : oCl} (hc : cQoO P call) (x0 : Option Nat) (x1 : Option Nat) (x2 : Int32) (σ : oSt) (h : P σ) : PIo P (call 50 [va_rf x0, va_rf x1, .int x2] σ) := hc.2.2.2.2.2.2.2.2.2.2.2.2.2.2.2.2.2.2.2.2.2.2.2.2.2.2.2.2.2.2.2.2.2.2.2.2.2.2.2.2.2.2.2.2.2.2.2.2.2.2.1 x0 x1 x2 σ h
theorem cQoO.c51 {P : oSt → Prop} {call : oCl} (hc : cQoO P call) (x0 : Option Nat) (x1 : Option Nat) (x2 : Int32) (σ : oSt) (h : P σ) : PIo P (call 51 [va_rf x0, va_rf x1, .int x2] σ) := hc.2.2.2.2.2.2.2.2.2.2.2.2.2.2.2.2.2.2.2.2.2.2.2.2.2.2.2.2.2.2.2.2.2.2.2.2.2.2.2.2.2.2.2.2.2.2.2.2.2.2.2.1 x0 x1 x2 σ h
theorem cQoO.c52 {P : oSt → Prop} {call : oCl} (hc : cQoO P call) (x0 : Option Nat) (x1 : Option Nat) (x2 : Int32) (σ : oSt) (h : P σ) : PIo P (call 52 [va_rf x0, va_rf x1, .int x2] σ) := hc.2.2.2.2.2.2.2.2.2.2.2.2.2.2.2.2.2.2.2.2.2.2.2.2.2.2.2.2.2.2.2.2.2.2.2.2.2.2.2.2.2.2.2.2.2.2.2.2.2.2.2.2.1 x0 x1 x2 σ h
theorem cQoO.c53 {P : oSt → Prop} {call : oCl} (hc : cQoO P call) (x0 : Int32) (σ : oSt) (h : P σ) : PIo P (call 53 [.int x0] σ) := hc.2.2.2.2.2.2.2.2.2.2.2.2.2.2.2.2.2.2.2.2.2.2.2.2.2.2.2.2.2.2.2.2.2.2.2.2.2.2.2.2.2.2.2.2.2.2.2.2.2.2.2.2.2.1 x0 σ h
theorem cQoO.c54 {P : oSt → Prop} {call : oCl} (hc : cQoO P call) (x0 : Option Nat) (x1 : Option Nat) (x2 : Int32) (x3 : Int32) (σ : oSt) (h : P σ) : PIo P (call 54 [va_rf x0, va_rf x1, .int x2, .int x3] σ) := hc.2.2.2.2.2.2.2.2.2.2.2.2.2.2.2.2.2.2.2.2.2.2.2.2.2.2.2.2.2.2.2.2.2.2.2.2.2.2.2.2.2.2.2.2.2.2.2.2.2.2.2.2.2.2.1 x0 x1 x2 x3 σ h
theorem cQoO.c55 {P : oSt → Prop} {call : oCl} (hc : cQoO P call) (x0 : Option Nat) (x1 : Option Nat) (x2 : Int32) (σ : oSt) (h : P σ) : PIo P (call 55 [va_rf x0, va_rf x1, .int x2] σ) := hc.2.2.2.2.2.2.2.2.2.2.2.2.2.2.2.2.2.2.2.2.2.2.2.2.2.2.2.2.2.2.2.2.2.2.2.2.2.2.2.2.2.2.2.2.2.2.2.2.2.2.2.2.2.2.2.1 x0 x1 x2 σ h
theorem cQoO.c56 {P : oSt → Prop} {call : oCl} (hc : cQoO P call) (x0 : Option Nat) (x1 : Option Nat) (x2 : Int32) (σ : oSt) (h : P σ) : PIo P (call 56 [va_rf x0, va_rf x1, .int x2] σ) := hc.2.2.2.2.2.2.2.2.2.2.2.2.2.2.2.2.2.2.2.2.2.2.2.2.2.2.2.2.2.2.2.2.2.2.2.2.2.2.2.2.2.2.2.2.2.2.2.2.2.2.2.2.2.2.2.2.1 x0 x1 x2 σ h
theorem cQoO.c57 {P : oSt → Prop} {call : oCl} (hc : cQoO P call) (x0 : Option Nat) (x1 : Option Nat) (x2 : Option Nat) (σ : oSt) (h : P σ) : PIo P (call 57 [va_rf x0, va_rf x1, va_rf x2] σ) := hc.2.2.2.2.2.2.2.2.2.2.2.2.2.2.2.2.2.2.2.2.2.2.2.2.2.2.2.2.2.2.2.2.2.2.2.2.2.2.2.2.2.2.2.2.2.2.2.2.2.2.2.2.2.2.2.2.2.1 x0 x1 x2 σ h
theorem cQoO.c58 {P : oSt → Prop} {call : oCl} (hc : cQoO P call) (x0 : Option Nat) (σ : oSt) (h : P σ) : PIo P (call 58 [va_rf x0] σ) := hc.2.2.2.2.2.2.2.2.2.2.2.2.2.2.2.2.2.2.2.2.2.2.2.2.2.2.2.2.2.2.2.2.2.2.2.2.2.2.2.2.2.2.2.2.2.2.2.2.2.2.2.2.2.2.2.2.2.2.1 x0 σ h
theorem cQoO.c59 {P : oSt → Prop} {call : oCl} (hc : cQoO P call) (x0 : Option Nat) (σ : oSt) (h : P σ) : PIo P (call 59 [va_rf x0] σ) := hc.2.2.2.2.2.2.2.2.2.2.2.2.2.2.2.2.2.2.2.2.2.2.2.2.2.2.2.2.2.2.2.2.2.2.2.2.2.2.2.2.2.2.2.2.2.2.2.2.2.2.2.2.2.2.2.2.2.2.2.1 x0 σ h
theorem cQoO.c60 {P : oSt → Prop} {call : oCl} (hc : cQoO P call) (x0 : Option Nat) (σ : oSt) (h : P σ) : PIo P (call 60 [va_rf x0] σ) := hc.2.2.2.2.2.2.2.2.2.2.2.2.2.2.2.2.2.2.2.2.2.2.2.2.2.2.2.2.2.2.2.2.2.2.2.2.2.2.2.2.2.2.2.2.2.2.2.2.2.2.2.2.2.2.2.2.2.2.2.2.1 x0 σ h
theorem cQoO.c61 {P : oSt → Prop} {call : oCl} (hc : cQoO P call) (x0 : Option Nat) (σ : oSt) (h : P σ) : PIo P (call 61 [va_rf x0] σ) := hc.2.2.2.2.2.2.2.2.2.2.2.2.2.2.2.2.2.2.2.2.2.2.2.2.2.2.2.2.2.2.2.2.2.2.2.2.2.2.2.2.2.2.2.2.2.2.2.2.2.2.2.2.2.2.2.2.2.2.2.2.2.1 x0 σ h
theorem cQoO.c62 {P : oSt → Prop} {call : oCl} (hc : cQoO P call) (x0 : Option Nat) (σ : oSt) (h : P σ) : PIo P (call 62 [va_rf x0] σ) := hc.2.2.2.2.2.2.2.2.2.2.2.2.2.2.2.2.2.2.2.2.2.2.2.2.2.2.2.2.2.2.2.2.2.2.2.2.2.2.2.2.2.2.2.2.2.2.2.2.2.2.2.2.2.2.2.2.2.2.2.2.2.2.1 x0 σ h
theorem cQoO.c63 {P : oSt → Prop} {call : oCl} (hc : cQoO P call) (x0 : Option Nat) (x1 : Int32) (σ : oSt) (h : P σ) : PIo P (call 63 [va_rf x0, .int x1] σ) := hc.2.2.2.2.2.2.2.2.2.2.2.2.2.2.2.2.2.2.2.2.2.2.2.2.2.2.2.2.2.2.2.2.2.2.2.2.2.2.2.2.2.2.2.2.2.2.2.2.2.2.2.2.2.2.2.2.2.2.2.2.2.2.2.1 x0 x1 σ h
theorem cQoO.c64 {P : oSt → Prop} {call : oCl} (hc : cQoO P call) (x0 : Option Nat) (x1 : Option Nat) (x2 : Option Nat) (σ : oSt) (h : P σ) : PIo P (call 64 [va_rf x0, va_rf x1, va_rf x2] σ) := hc.2.2.2.2.2.2.2.2.2.2.2.2.2.2.2.2.2.2.2.2.2.2.2.2.2.2.2.2.2.2.2.2.2.2.2.2.2.2.2.2.2.2.2.2.2.2.2.2.2.2.2.2.2.2.2.2.2.2.2.2.2.2.2.2.1 x0 x1 x2 σ h
theorem cQoO.c65 {P : oSt → Prop} {call : oCl} (hc : cQoO P call) (x0 : Option Nat) (σ : oSt) (h : P σ) : PIo P (call 65 [va_rf x0] σ) := hc.2.2.2.2.2.2.2.2.2.2.2.2.2.2.2.2.2.2.2.2.2.2.2.2.2.2.2.2.2.2.2.2.2.2.2.2.2.2.2.2.2.2.2.2.2.2.2.2.2.2.2.2.2.2.2.2.2.2.2.2.2.2.2.2.2.1 x0 σ h
theorem cQoO.c66 {P : oSt → Prop} {call : oCl} (hc : cQoO P call) (x0 : Option Nat) (x1 : Int32) (σ : oSt) (h : P σ) : PIo P (call 66 [va_rf x0, .int x1] σ) := hc.2.2.2.2.2.2.2.2.2.2.2.2.2.2.2.2.2.2.2.2.2.2.2.2.2.2.2.2.2.2.2.2.2.2.2.2.2.2.2.2.2.2.2.2.2.2.2.2.2.2.2.2.2.2.2.2.2.2.2.2.2.2.2.2.2.2.1 x0 x1 σ h
theorem cQoO.c67 {P : oSt → Prop} {call : oCl} (hc : cQoO P call) (x0 : Option Nat) (x1 : Option Nat) (x2 : Option Nat) (x3 : Option Nat) (σ : oSt) (h : P σ) : PIo P (call 67 [va_rf x0, va_rf x1, va_rf x2, va_rf x3] σ) := hc.2.2.2.2.2.2.2.2.2.2.2.2.2.2.2.2.2.2.2.2.2.2.2.2.2.2.2.2.2.2.2.2.2.2.2.2.2.2.2.2.2.2.2.2.2.2.2.2.2.2.2.2.2.2.2.2.2.2.2.2.2.2.2.2.2.2.2.1 x0 x1 x2 x3 σ h
theorem cQoO.c68 {P : oSt → Prop} {call : oCl} (hc : cQoO P call) (x0 : Option Nat) (σ : oSt) (h : P σ) : PIo P (call 68 [va_rf x0] σ) := hc.2.2.2.2.2.2.2.2.2.2.2.2.2.2.2.2.2.2.2.2.2.2.2.2.2.2.2.2.2.2.2.2.2.2.2.2.2.2.2.2.2.2.2.2.2.2.2.2.2.2.2.2.2.2.2.2.2.2.2.2.2.2.2.2.2.2.2.2.1 x0 σ h
theorem cQoO.c72 {P : oSt → Prop} {call : oCl} (hc : cQoO P call) (x0 : Option Nat) (σ : oSt) (h : P σ) : PIo P (call 72 [va_rf x0] σ) := hc.2.2.2.2.2.2.2.2.2.2.2.2.2.2.2.2.2.2.2.2.2.2.2.2.2.2.2.2.2.2.2.2.2.2.2.2.2.2.2.2.2.2.2.2.2.2.2.2.2.2.2.2.2.2.2.2.2.2.2.2.2.2.2.2.2.2.2.2.2.1 x0 σ h
theorem cQoO.c73 {P : oSt → Prop} {call : oCl} (hc : cQoO P call) (x0 : Option Nat) (x1 : Option Nat) (x2 : Int32) (σ : oSt) (h : P σ) : PIo P (call 73 [va_rf x0, va_rf x1, .int x2] σ) := hc.2.2.2.2.2.2.2.2.2.2.2.2.2.2.2.2.2.2.2.2.2.2.2.2.2.2.2.2.2.2.2.2.2.2.2.2.2.2.2.2.2.2.2.2.2.2.2.2.2.2.2.2.2.2.2.2.2.2.2.2.2.2.2.2.2.2.2.2.2.2.1 x0 x1 x2 σ h
theorem cQoO.c74 {P : oSt → Prop} {call : oCl} (hc : cQoO P call) (x0 : Option Nat) (x1 : Int32) (x2 : Int32) (x3 : Int32) (σ : oSt) (h : P σ) : PIo P (call 74 [va_rf x0, .int x1, .int x2, .int x3] σ) := hc.2.2.2.2.2.2.2.2.2.2.2.2.2.2.2.2.2.2.2.2.2.2.2.2.2.2.2.2.2.2.2.2.2.2.2.2.2.2.2.2.2.2.2.2.2.2.2.2.2.2.2.2.2.2.2.2.2.2.2.2.2.2.2.2.2.2.2.2.2.2.2.1 x0 x1 x2 x3 σ h
theorem cQoO.c75 {P : oSt → Prop} {call : oCl} (hc : cQoO P call) (x0 : Option Nat) (x1 : Int32) (x2 : Int32) (x3 : Int32) (σ : oSt) (h : P σ) : PIo P (call 75 [va_rf x0, .int x1, .int x2, .int x3] σ) := hc.2.2.2.2.2.2.2.2.2.2.2.2.2.2.2.2.2.2.2.2.2.2.2.2.2.2.2.2.2.2.2.2.2.2.2.2.2.2.2.2.2.2.2.2.2.2.2.2.2.2.2.2.2.2.2.2.2.2.2.2.2.2.2.2.2.2.2.2.2.2.2.2.1 x0 x1 x2 x3 σ h
theorem cQoO.c76 {P : oSt → Prop} {call : oCl} (hc : cQoO P call) (x0 : Option Nat) (x1 : Int32) (σ : oSt) (h : P σ) : PIo P (call 76 [va_rf x0, .int x1] σ) := hc.2.2.2.2.2.2.2.2.2.2.2.2.2.2.2.2.2.2.2.2.2.2.2.2.2.2.2.2.2.2.2.2.2.2.2.2.2.2.2.2.2.2.2.2.2.2.2.2.2.2.2.2.2.2.2.2.2.2.2.2.2.2.2.2.2.2.2.2.2.2.2.2.2.1 x0 x1 σ h
theorem cQoO.c77 {P : oSt → Prop} {call : oCl} (hc : cQoO P call) (x0 : Option Nat) (x1 : Int32) (σ : oSt) (h : P σ) : PIo P (call 77 [va_rf x0, .int x1] σ) := hc.2.2.2.2.2.2.2.2.2.2.2.2.2.2.2.2.2.2.2.2.2.2.2.2.2.2.2.2.2.2.2.2.2.2.2.2.2.2.2.2.2.2.2.2.2.2.2.2.2.2.2.2.2.2.2.2.2.2.2.2.2.2.2.2.2.2.2.2.2.2.2.2.2.2.1 x0 x1 σ h
theorem cQoO.c78 {P : oSt → Prop} {call : oCl} (hc : cQoO P call) (x0 : Option Nat) (x1 : Int32) (σ : oSt) (h : P σ) : PIo P (call 78 [va_rf x0, .int x1] σ) := hc.2.2.2.2.2.2.2.2.2.2.2.2.2.2.2.2.2.2.2.2.2.2.2.2.2.2.2.2.2.2.2.2.2.2.2.2.2.2.2.2.2.2.2.2.2.2.2.2.2.2.2.2.2.2.2.2.2.2.2.2.2.2.2.2.2.2.2.2.2.2.2.2.2.2.2.1 x0 x1 σ h
theorem cQoO.c79 {P : oSt → Prop} {call : oCl} (hc : cQoO P call) (x0 : Option Nat) (x1 : Int64) (x2 : Int32) (σ : oSt) (h : P σ) : PIo P (call 79 [va_rf x0, .long x1, .int x2] σ) := hc.2.2.2.2.2.2.2.2.2.2.2.2.2.2.2.2.2.2.2.2.2.2.2.2.2.2.2.2.2.2.2.2.2.2.2.2.2.2.2.2.2.2.2.2.2.2.2.2.2.2.2.2.2.2.2.2.2.2.2.2.2.2.2.2.2.2.2.2.2.2.2.2.2.2.2.2.1 x0 x1 x2 σ h
theorem cQoO.c80 {P : oSt → Prop} {call : oCl} (hc : cQoO P call) (x0 : Option Nat) (σ : oSt) (h : P σ) : PIo P (call 80 [va_rf x0] σ) := hc.2.2.2.2.2.2.2.2.2.2.2.2.2.2.2.2.2.2.2.2.2.2.2.2.2.2.2.2.2.2.2.2.2.2.2.2.2.2.2.2.2.2.2.2.2.2.2.2.2.2.2.2.2.2.2.2.2.2.2.2.2.2.2.2.2.2.2.2.2.2.2.2.2.2.2.2.2.1 x0 σ h
theorem cQoO.c81 {P : oSt → Prop} {call : oCl} (hc : cQoO P call) (x0 : Option Nat) (x1 : Option Nat) (x2 : Int32) (x3 : Int32) (σ : oSt) (h : P σ) : PIo P (call 81 [va_rf x0, va_rf x1, .int x2, .int x3] σ) := hc.2.2.2.2.2.2.2.2.2.2.2.2.2.2.2.2.2.2.2.2.2.2.2.2.2.2.2.2.2.2.2.2.2.2.2.2.2.2.2.2.2.2.2.2.2.2.2.2.2.2.2.2.2.2.2.2.2.2.2.2.2.2.2.2.2.2.2.2.2.2.2.2.2.2.2.2.2.2.1 x0 x1 x2 x3 σ h
theorem cQoO.c82 {P : oSt → Prop} {call : oCl} (hc : cQoO P call) (x0 : Option Nat) (x1 : Int64) (x2 : Int64) (x3 : Int64) (σ : oSt) (h : P σ) : PIo P (call 82 [va_rf x0, .long x1, .long x2, .long x3] σ) := hc.2.2.2.2.2.2.2.2.2.2.2.2.2.2.2.2.2.2.2.2.2.2.2.2.2.2.2.2.2.2.2.2.2.2.2.2.2.2.2.2.2.2.2.2.2.2.2.2.2.2.2.2.2.2.2.2.2.2.2.2.2.2.2.2.2.2.2.2.2.2.2.2.2.2.2.2.2.2.2.1 x0 x1 x2 x3 σ h
theorem cQoO.c83 {P : oSt → Prop} {call : oCl} (hc : cQoO P call) (x0 : Option Nat) (x1 : Option Nat) (x2 : Int32) (σ : oSt) (h : P σ) : PIo P (call 83 [va_rf x0, va_rf x1, .int x2] σ) := hc.2.2.2.2.2.2.2.2.2.2.2.2.2.2.2.2.2.2.2.2.2.2.2.2.2.2.2.2.2.2.2.2.2.2.2.2.2.2.2.2.2.2.2.2.2.2.2.2.2.2.2.2.2.2.2.2.2.2.2.2.2.2.2.2.2.2.2.2.2.2.2.2.2.2.2.2.2.2.2.2.1 x0 x1 x2 σ h
theorem cQoO.c84 {P : oSt → Prop} {call : oCl} (hc : cQoO P call) (x0 : Option Nat) (x1 : Int64) (x2 : Int32) (σ : oSt) (h : P σ) : PIo P (call 84 [va_rf x0, .long x1, .int x2] σ) := hc.2.2.2.2.2.2.2.2.2.2.2.2.2.2.2.2.2.2.2.2.2.2.2.2.2.2.2.2.2.2.2.2.2.2.2.2.2.2.2.2.2.2.2.2.2.2.2.2.2.2.2.2.2.2.2.2.2.2.2.2.2.2.2.2.2.2.2.2.2.2.2.2.2.2.2.2.2.2.2.2.2.1 x0 x1 x2 σ h
theorem cQoO.c85 {P : oSt → Prop} {call : oCl} (hc : cQoO P call) (x0 : Option Nat) (x1 : Option Nat) (σ : oSt) (h : P σ) : PIo P (call 85 [va_rf x0, va_rf x1] σ) := hc.2.2.2.2.2.2.2.2.2.2.2.2.2.2.2.2.2.2.2.2.2.2.2.2.2.2.2.2.2.2.2.2.2.2.2.2.2.2.2.2.2.2.2.2.2.2.2.2.2.2.2.2.2.2.2.2.2.2.2.2.2.2.2.2.2.2.2.2.2.2.2.2.2.2.2.2.2.2.2.2.2.2.1 x0 x1 σ h
theorem cQoO.c86 {P : oSt → Prop} {call : oCl} (hc : cQoO P call) (x0 : Option Nat) (x1 : Int64) (x2 : Int32) (x3 : Option Nat) (σ : oSt) (h : P σ) : PIo P (call 86 [va_rf x0, .long x1, .int x2, va_rf x3] σ) := hc.2.2.2.2.2.2.2.2.2.2.2.2.2.2.2.2.2.2.2.2.2.2.2.2.2.2.2.2.2.2.2.2.2.2.2.2.2.2.2.2.2.2.2.2.2.2.2.2.2.2.2.2.2.2.2.2.2.2.2.2.2.2.2.2.2.2.2.2.2.2.2.2.2.2.2.2.2.2.2.2.2.2.2.1 x0 x1 x2 x3 σ h
theorem cQoO.c87 {P : oSt → Prop} {call : oCl} (hc : cQoO P call) (x0 : Option Nat) (x1 : Option Nat) (σ : oSt) (h : P σ) : PIo P (call 87 [va_rf x0, va_rf x1] σ) := hc.2.2.2.2.2.2.2.2.2.2.2.2.2.2.2.2.2.2.2.2.2.2.2.2.2.2.2.2.2.2.2.2.2.2.2.2.2.2.2.2.2.2.2.2.2.2.2.2.2.2.2.2.2.2.2.2.2.2.2.2.2.2.2.2.2.2.2.2.2.2.2.2.2.2.2.2.2.2.2.2.2.2.2.2.1 x0 x1 σ h
theorem cQoO.c88 {P : oSt → Prop} {call : oCl} (hc : cQoO P call) (x0 : Option Nat) (x1 : Option Nat) (σ : oSt) (h : P σ) : PIo P (call 88 [va_rf x0, va_rf x1] σ) := hc.2.2.2.2.2.2.2.2.2.2.2.2.2.2.2.2.2.2.2.2.2.2.2.2.2.2.2.2.2.2.2.2.2.2.2.2.2.2.2.2.2.2.2.2.2.2.2.2.2.2.2.2.2.2.2.2.2.2.2.2.2.2.2.2.2.2.2.2.2.2.2.2.2.2.2.2.2.2.2.2.2.2.2.2.2.1 x0 x1 σ h
theorem cQoO.c89 {P : oSt → Prop} {call : oCl} (hc : cQoO P call) (x0 : Option Nat) (x1 : Option Nat) (σ : oSt) (h : P σ) : PIo P (call 89 [va_rf x0, va_rf x1] σ) := hc.2.2.2.2.2.2.2.2.2.2.2.2.2.2.2.2.2.2.2.2.2.2.2.2.2.2.2.2.2.2.2.2.2.2.2.2.2.2.2.2.2.2.2.2.2.2.2.2.2.2.2.2.2.2.2.2.2.2.2.2.2.2.2.2.2.2.2.2.2.2.2.2.2.2.2.2.2.2.2.2.2.2.2.2.2.2.1 x0 x1 σ h
theorem cQoO.c90 {P : oSt → Prop} {call : oCl} (hc : cQoO P call) (x0 : Option Nat) (x1 : Option Nat) (σ : oSt) (h : P σ) : PIo P (call 90 [va_rf x0, va_rf x1] σ) := hc.2.2.2.2.2.2.2.2.2.2.2.2.2.2.2.2.2.2.2.2.2.2.2.2.2.2.2.2.2.2.2.2.2.2.2.2.2.2.2.2.2.2.2.2.2.2.2.2.2.2.2.2.2.2.2.2.2.2.2.2.2.2.2.2.2.2.2.2.2.2.2.2.2.2.2.2.2.2.2.2.2.2.2.2.2.2.2.1 x0 x1 σ h
theorem cQoO.c91 {P : oSt → Prop} {call : oCl} (hc : cQoO P call) (x0 : Option Nat) (x1 : Option Nat) (σ : oSt) (h : P σ) : PIo P (call 91 [va_rf x0, va_rf x1] σ) := hc.2.2.2.2.2.2.2.2.2.2.2.2.2.2.2.2.2.2.2.2.2.2.2.2.2.2.2.2.2.2.2.2.2.2.2.2.2.2.2.2.2.2.2.2.2.2.2.2.2.2.2.2.2.2.2.2.2.2.2.2.2.2.2.2.2.2.2.2.2.2.2.2.2.2.2.2.2.2.2.2.2.2.2.2.2.2.2.2.1 x0 x1 σ h
theorem cQoO.c92 {P : oSt → Prop} {call : oCl} (hc : cQoO P call) (x0 : Option Nat) (x1 : Int32) (x2 : Int32) (σ : oSt) (h : P σ) : PIo P (call 92 [va_rf x0, .int x1, .int x2] σ) := hc.2.2.2.2.2.2.2.2.2.2.2.2.2.2.2.2.2.2.2.2.2.2.2.2.2.2.2.2.2.2.2.2.2.2.2.2.2.2.2.2.2.2.2.2.2.2.2.2.2.2.2.2.2.2.2.2.2.2.2.2.2.2.2.2.2.2.2.2.2.2.2.2.2.2.2.2.2.2.2.2.2.2.2.2.2.2.2.2.2.1 x0 x1 x2 σ h
theorem cQoO.c93 {P : oSt → Prop} {call : oCl} (hc : cQoO P call) (x0 : Option Nat) (x1 : Option Nat) (σ : oSt) (h : P σ) : PIo P (call 93 [va_rf x0, va_rf x1] σ) := hc.2.2.2.2.2.2.2.2.2.2.2.2.2.2.2.2.2.2.2.2.2.2.2.2.2.2.2.2.2.2.2.2.2.2.2.2.2.2.2.2.2.2.2.2.2.2.2.2.2.2.2.2.2.2.2.2.2.2.2.2.2.2.2.2.2.2.2.2.2.2.2.2.2.2.2.2.2.2.2.2.2.2.2.2.2.2.2.2.2.2.1 x0 x1 σ h
theorem cQoO.c94 {P : oSt → Prop} {call : oCl} (hc : cQoO P call) (x0 : Option Nat) (x1 : Int64) (σ : oSt) (h : P σ) : PIo P (call 94 [va_rf x0, .long x1] σ) := hc.2.2.2.2.2.2.2.2.2.2.2.2.2.2.2.2.2.2.2.2.2.2.2.2.2.2.2.2.2.2.2.2.2.2.2.2.2.2.2.2.2.2.2.2.2.2.2.2.2.2.2.2.2.2.2.2.2.2.2.2.2.2.2.2.2.2.2.2.2.2.2.2.2.2.2.2.2.2.2.2.2.2.2.2.2.2.2.2.2.2.2.1 x0 x1 σ h
theorem cQoO.c95 {P : oSt → Prop} {call : oCl} (hc : cQoO P call) (x0 : Option Nat) (x1 : Option Nat) (σ : oSt) (h : P σ) : PIo P (call 95 [va_rf x0, va_rf x1] σ) := hc.2.2.2.2.2.2.2.2.2.2.2.2.2.2.2.2.2.2.2.2.2.2.2.2.2.2.2.2.2.2.2.2.2.2.2.2.2.2.2.2.2.2.2.2.2.2.2.2.2.2.2.2.2.2.2.2.2.2.2.2.2.2.2.2.2.2.2.2.2.2.2.2.2.2.2.2.2.2.2.2.2.2.2.2.2.2.2.2.2.2.2.2.1 x0 x1 σ h
theorem cQoO.c96 {P : oSt → Prop} {call : oCl} (hc : cQoO P call) (x0 : Option Nat) (x1 : Int64) (x2 : Option Nat) (σ : oSt) (h : P σ) : PIo P (call 96 [va_rf x0, .long x1, va_rf x2] σ) := hc.2.2.2.2.2.2.2.2.2.2.2.2.2.2.2.2.2.2.2.2.2.2.2.2.2.2.2.2.2.2.2.2.2.2.2.2.2.2.2.2.2.2.2.2.2.2.2.2.2.2.2.2.2.2.2.2.2.2.2.2.2.2.2.2.2.2.2.2.2.2.2.2.2.2.2.2.2.2.2.2.2.2.2.2.2.2.2.2.2.2.2.2.2.1 x0 x1 x2 σ h
theorem cQoO.c97 {P : oSt → Prop} {call : oCl} (hc : cQoO P call) (x0 : Option Nat) (x1 : Option Nat) (σ : oSt) (h : P σ) : PIo P (call 97 [va_rf x0, va_rf x1] σ) := hc.2.2.2.2.2.2.2.2.2.2.2.2.2.2.2.2.2.2.2.2.2.2.2.2.2.2.2.2.2.2.2.2.2.2.2.2.2.2.2.2.2.2.2.2.2.2.2.2.2.2.2.2.2.2.2.2.2.2.2.2.2.2.2.2.2.2.2.2.2.2.2.2.2.2.2.2.2.2.2.2.2.2.2.2.2.2.2.2.2.2.2.2.2.2.1 x0 x1 σ h
theorem cQoO.c98 {P : oSt → Prop} {call : oCl} (hc : cQoO P call) (x0 : Option Nat) (x1 : Option Nat) (σ : oSt) (h : P σ) : PIo P (call 98 [va_rf x0, va_rf x1] σ) := hc.2.2.2.2.2.2.2.2.2.2.2.2.2.2.2.2.2.2.2.2.2.2.2.2.2.2.2.2.2.2.2.2.2.2.2.2.2.2.2.2.2.2.2.2.2.2.2.2.2.2.2.2.2.2.2.2.2.2.2.2.2.2.2.2.2.2.2.2.2.2.2.2.2.2.2.2.2.2.2.2.2.2.2.2.2.2.2.2.2.2.2.2.2.2.2.1 x0 x1 σ h
theorem cQoO.c99 {P : oSt → Prop} {call : oCl} (hc : cQoO P call) (x0 : Option Nat) (x1 : Option Nat) (σ : oSt) (h : P σ) : PIo P (call 99 [va_rf x0, va_rf x1] σ) := hc.2.2.2.2.2.2.2.2.2.2.2.2.2.2.2.2.2.2.2.2.2.2.2.2.2.2.2.2.2.2.2.2.2.2.2.2.2.2.2.2.2.2.2.2.2.2.2.2.2.2.2.2.2.2.2.2.2.2.2.2.2.2.2.2.2.2.2.2.2.2.2.2.2.2.2.2.2.2.2.2.2.2.2.2.2.2.2.2.2.2.2.2.2.2.2.2.1 x0 x1 σ h
theorem cQoO.c100 {P : oSt → Prop} {call : oCl} (hc : cQoO P call) (x0 : Option Nat) (σ : oSt) (h : P σ) : PIo P (call 100 [va_rf x0] σ) := hc.2.2.2.2.2.2.2.2.2.2.2.2.2.2.2.2.2.2.2.2.2.2.2.2.2.2.2.2.2.2.2.2.2.2.2.2.2.2.2.2.2.2.2.2.2.2.2.2.2.2.2.2.2.2.2.2.2.2.2.2.2.2.2.2.2.2.2.2.2.2.2.2.2.2.2.2.2.2.2.2.2.2.2.2.2.2.2.2.2.2.2.2.2.2.2.2.2.1 x0 σ h
theorem cQoO.c101 {P : oSt → Prop} {call : oCl} (hc : cQoO P call) (x0 : Option Nat) (x1 : Int32) (σ : oSt) (h : P σ) : PIo P (call 101 [va_rf x0, .int x1] σ) := hc.2.2.2.2.2.2.2.2.2.2.2.2.2.2.2.2.2.2.2.2.2.2.2.2.2.2.2.2.2.2.2.2.2.2.2.2.2.2.2.2.2.2.2.2.2.2.2.2.2.2.2.2.2.2.2.2.2.2.2.2.2.2.2.2.2.2.2.2.2.2.2.2.2.2.2.2.2.2.2.2.2.2.2.2.2.2.2.2.2.2.2.2.2.2.2.2.2.2.1 x0 x1 σ h
theorem cQoO.c102 {P : oSt → Prop} {call : oCl} (hc : cQoO P call) (x0 : Option Nat) (x1 : Int32) (x2 : Int32) (x3 : Int32) (σ : oSt) (h : P σ) : PIo P (call 102 [va_rf x0, .int x1, .int x2, .int x3] σ) := hc.2.2.2.2.2.2.2.2.2.2.2.2.2.2.2.2.2.2.2.2.2.2.2.2.2.2.2.2.2.2.2.2.2.2.2.2.2.2.2.2.2.2.2.2.2.2.2.2.2.2.2.2.2.2.2.2.2.2.2.2.2.2.2.2.2.2.2.2.2.2.2.2.2.2.2.2.2.2.2.2.2.2.2.2.2.2.2.2.2.2.2.2.2.2.2.2.2.2.2.1 x0 x1 x2 x3 σ h
theorem cQoO.c103 {P : oSt → Prop} {call : oCl} (hc : cQoO P call) (x0 : Option Nat) (x1 : Option Nat) (σ : oSt) (h : P σ) : PIo P (call 103 [va_rf x0, va_rf x1] σ) := hc.2.2.2.2.2.2.2.2.2.2.2.2.2.2.2.2.2.2.2.2.2.2.2.2.2.2.2.2.2.2.2.2.2.2.2.2.2.2.2.2.2.2.2.2.2.2.2.2.2.2.2.2.2.2.2.2.2.2.2.2.2.2.2.2.2.2.2.2.2.2.2.2.2.2.2.2.2.2.2.2.2.2.2.2.2.2.2.2.2.2.2.2.2.2.2.2.2.2.2.2.1 x0 x1 σ h
theorem cQoO.c104 {P : oSt → Prop} {call : oCl} (hc : cQoO P call) (x0 : Option Nat) (σ : oSt) (h : P σ) : PIo P (call 104 [va_rf x0] σ) := hc.2.2.2.2.2.2.2.2.2.2.2.2.2.2.2.2.2.2.2.2.2.2.2.2.2.2.2.2.2.2.2.2.2.2.2.2.2.2.2.2.2.2.2.2.2.2.2.2.2.2.2.2.2.2.2.2.2.2.2.2.2.2.2.2.2.2.2.2.2.2.2.2.2.2.2.2.2.2.2.2.2.2.2.2.2.2.2.2.2.2.2.2.2.2.2.2.2.2.2.2.2.1 x0 σ h
theorem cQoO.c105 {P : oSt → Prop} {call : oCl} (hc : cQoO P call) (x0 : Option Nat) (σ : oSt) (h : P σ) : PIo P (call 105 [va_rf x0] σ) := hc.2.2.2.2.2.2.2.2.2.2.2.2.2.2.2.2.2.2.2.2.2.2.2.2.2.2.2.2.2.2.2.2.2.2.2.2.2.2.2.2.2.2.2.2.2.2.2.2.2.2.2.2.2.2.2.2.2.2.2.2.2.2.2.2.2.2.2.2.2.2.2.2.2.2.2.2.2.2.2.2.2.2.2.2.2.2.2.2.2.2.2.2.2.2.2.2.2.2.2.2.2.2.1 x0 σ h
theorem cQoO.c106 {P : oSt → Prop} {call : oCl} (hc : cQoO P call) (x0 : Option Nat) (σ : oSt) (h : P σ) : PIo P (call 106 [va_rf x0] σ) := hc.2.2.2.2.2.2.2.2.2.2.2.2.2.2.2.2.2.2.2.2.2.2.2.2.2.2.2.2.2.2.2.2.2.2.2.2.2.2.2.2.2.2.2.2.2.2.2.2.2.2.2.2.2.2.2.2.2.2.2.2.2.2.2.2.2.2.2.2.2.2.2.2.2.2.2.2.2.2.2.2.2.2.2.2.2.2.2.2.2.2.2.2.2.2.2.2.2.2.2.2.2.2.2.1 x0 σ h
theorem cQoO.c107 {P : oSt → Prop} {call : oCl} (hc : cQoO P call) (x0 : Option Nat) (σ : oSt) (h : P σ) : PIo P (call 107 [va_rf x0] σ) := hc.2.2.2.2.2.2.2.2.2.2.2.2.2.2.2.2.2.2.2.2.2.2.2.2.2.2.2.2.2.2.2.2.2.2.2.2.2.2.2.2.2.2.2.2.2.2.2.2.2.2.2.2.2.2.2.2.2.2.2.2.2.2.2.2.2.2.2.2.2.2.2.2.2.2.2.2.2.2.2.2.2.2.2.2.2.2.2.2.2.2.2.2.2.2.2.2.2.2.2.2.2.2.2.2.1 x0 σ h
theorem cQoO.c108 {P : oSt → Prop} {call : oCl} (hc : cQoO P call) (x0 : Option Nat) (x1 : Int32) (σ : oSt) (h : P σ) : PIo P (call 108 [va_rf x0, .int x1] σ) := hc.2.2.2.2.2.2.2.2.2.2.2.2.2.2.2.2.2.2.2.2.2.2.2.2.2.2.2.2.2.2.2.2.2.2.2.2.2.2.2.2.2.2.2.2.2.2.2.2.2.2.2.2.2.2.2.2.2.2.2.2.2.2.2.2.2.2.2.2.2.2.2.2.2.2.2.2.2.2.2.2.2.2.2.2.2.2.2.2.2.2.2.2.2.2.2.2.2.2.2.2.2.2.2.2.2.1 x0 x1 σ h
theorem cQoO.c109 {P : oSt → Prop} {call : oCl} (hc : cQoO P call) (x0 : Int32) (σ : oSt) (h : P σ) : PIo P (call 109 [.int x0] σ) := hc.2.2.2.2.2.2.2.2.2.2.2.2.2.2.2.2.2.2.2.2.2.2.2.2.2.2.2.2.2.2.2.2.2.2.2.2.2.2.2.2.2.2.2.2.2.2.2.2.2.2.2.2.2.2.2.2.2.2.2.2.2.2.2.2.2.2.2.2.2.2.2.2.2.2.2.2.2.2.2.2.2.2.2.2.2.2.2.2.2.2.2.2.2.2.2.2.2.2.2.2.2.2.2.2.2.2.1 x0 σ h
theorem cQoO.c110 {P : oSt → Prop} {call : oCl} (hc : cQoO P call) (x0 : Option Nat) (x1 : Int32) (σ : oSt) (h : P σ) : PIo P (call 110 [va_rf x0, .int x1] σ) := hc.2.2.2.2.2.2.2.2.2.2.2.2.2.2.2.2.2.2.2.2.2.2.2.2.2.2.2.2.2.2.2.2.2.2.2.2.2.2.2.2.2.2.2.2.2.2.2.2.2.2.2.2.2.2.2.2.2.2.2.2.2.2.2.2.2.2.2.2.2.2.2.2.2.2.2.2.2.2.2.2.2.2.2.2.2.2.2.2.2.2.2.2.2.2.2.2.2.2.2.2.2.2.2.2.2.2.2.1 x0 x1 σ h
theorem cQoO.c111 {P : oSt → Prop} {call : oCl} (hc : cQoO P call) (x0 : Option Nat) (σ : oSt) (h : P σ) : PIo P (call 111 [va_rf x0] σ) := hc.2.2.2.2.2.2.2.2.2.2.2.2.2.2.2.2.2.2.2.2.2.2.2.2.2.2.2.2.2.2.2.2.2.2.2.2.2.2.2.2.2.2.2.2.2.2.2.2.2.2.2.2.2.2.2.2.2.2.2.2.2.2.2.2.2.2.2.2.2.2.2.2.2.2.2.2.2.2.2.2.2.2.2.2.2.2.2.2.2.2.2.2.2.2.2.2.2.2.2.2.2.2.2.2.2.2.2.2.1 x0 σ h
theorem cQoO.c112 {P : oSt → Prop} {call : oCl} (hc : cQoO P call) (x0 : Option Nat) (σ : oSt) (h : P σ) : PIo P (call 112 [va_rf x0] σ) := hc.2.2.2.2.2.2.2.2.2.2.2.2.2.2.2.2.2.2.2.2.2.2.2.2.2.2.2.2.2.2.2.2.2.2.2.2.2.2.2.2.2.2.2.2.2.2.2.2.2.2.2.2.2.2.2.2.2.2.2.2.2.2.2.2.2.2.2.2.2.2.2.2.2.2.2.2.2.2.2.2.2.2.2.2.2.2.2.2.2.2.2.2.2.2.2.2.2.2.2.2.2.2.2.2.2.2.2.2.2.1 x0 σ h
theorem cQoO.c113 {P : oSt → Prop} {call : oCl} (hc : cQoO P call) (x0 : Option Nat) (x1 : Int32) (σ : oSt) (h : P σ) : PIo P (call 113 [va_rf x0, .int x1] σ) := hc.2.2.2.2.2.2.2.2.2.2.2.2.2.2.2.2.2.2.2.2.2.2.2.2.2.2.2.2.2.2.2.2.2.2.2.2.2.2.2.2.2.2.2.2.2.2.2.2.2.2.2.2.2.2.2.2.2.2.2.2.2.2.2.2.2.2.2.2.2.2.2.2.2.2.2.2.2.2.2.2.2.2.2.2.2.2.2.2.2.2.2.2.2.2.2.2.2.2.2.2.2.2.2.2.2.2.2.2.2.2.1 x0 x1 σ h
theorem cQoO.c114 {P : oSt → Prop} {call : oCl} (hc : cQoO P call) (x0 : Option Nat) (x1 : Option Nat) (σ : oSt) (h : P σ) : PIo P (call 114 [va_rf x0, va_rf x1] σ) := hc.2.2.2.2.2.2.2.2.2.2.2.2.2.2.2.2.2.2.2.2.2.2.2.2.2.2.2.2.2.2.2.2.2.2.2.2.2.2.2.2.2.2.2.2.2.2.2.2.2.2.2.2.2.2.2.2.2.2.2.2.2.2.2.2.2.2.2.2.2.2.2.2.2.2.2.2.2.2.2.2.2.2.2.2.2.2.2.2.2.2.2.2.2.2.2.2.2.2.2.2.2.2.2.2.2.2.2.2.2.2.2.1 x0 x1 σ h
theorem cQoO.c115 {P : oSt → Prop} {call : oCl} (hc : cQoO P call) (x0 : Option Nat) (σ : oSt) (h : P σ) : PIo P (call 115 [va_rf x0] σ) := hc.2.2.2.2.2.2.2.2.2.2.2.2.2.2.2.2.2.2.2.2.2.2.2.2.2.2.2.2.2.2.2.2.2.2.2.2.2.2.2.2.2.2.2.2.2.2.2.2.2.2.2.2.2.2.2.2.2.2.2.2.2.2.2.2.2.2.2.2.2.2.2.2.2.2.2.2.2.2.2.2.2.2.2.2.2.2.2.2.2.2.2.2.2.2.2.2.2.2.2.2.2.2.2.2.2.2.2.2.2.2.2.2.1 x0 σ h
theorem cQoO.c116 {P : oSt → Prop} {call : oCl} (hc : cQoO P call) (x0 : Option Nat) (x1 : Option Nat) (σ : oSt) (h : P σ) : PIo P (call 116 [va_rf x0, va_rf x1] σ) := hc.2.2.2.2.2.2.2.2.2.2.2.2.2.2.2.2.2.2.2.2.2.2.2.2.2.2.2.2.2.2.2.2.2.2.2.2.2.2.2.2.2.2.2.2.2.2.2.2.2.2.2.2.2.2.2.2.2.2.2.2.2.2.2.2.2.2.2.2.2.2.2.2.2.2.2.2.2.2.2.2.2.2.2.2.2.2.2.2.2.2.2.2.2.2.2.2.2.2.2.2.2.2.2.2.2.2.2.2.2.2.2.2.2.1 x0 x1 σ h
theorem cQoO.c117 {P : oSt → Prop} {call : oCl} (hc : cQoO P call) (x0 : Option Nat) (σ : oSt) (h : P σ) : PIo P (call 117 [va_rf x0] σ) := hc.2.2.2.2.2.2.2.2.2.2.2.2.2.2.2.2.2.2.2.2.2.2.2.2.2.2.2.2.2.2.2.2.2.2.2.2.2.2.2.2.2.2.2.2.2.2.2.2.2.2.2.2.2.2.2.2.2.2.2.2.2.2.2.2.2.2.2.2.2.2.2.2.2.2.2.2.2.2.2.2.2.2.2.2.2.2.2.2.2.2.2.2.2.2.2.2.2.2.2.2.2.2.2.2.2.2.2.2.2.2.2.2.2.2.1 x0 σ h
theorem cQoO.c118 {P : oSt → Prop} {call : oCl} (hc : cQoO P call) (x0 : Option Nat) (x1 : Int32) (σ : oSt) (h : P σ) : PIo P (call 118 [va_rf x0, .int x1] σ) := hc.2.2.2.2.2.2.2.2.2.2.2.2.2.2.2.2.2.2.2.2.2.2.2.2.2.2.2.2.2.2.2.2.2.2.2.2.2.2.2.2.2.2.2.2.2.2.2.2.2.2.2.2.2.2.2.2.2.2.2.2.2.2.2.2.2.2.2.2.2.2.2.2.2.2.2.2.2.2.2.2.2.2.2.2.2.2.2.2.2.2.2.2.2.2.2.2.2.2.2.2.2.2.2.2.2.2.2.2.2.2.2.2.2.2.2.1 x0 x1 σ h
theorem cQoO.c119 {P : oSt → Prop} {call : oCl} (hc : cQoO P call) (x0 : Option Nat) (σ : oSt) (h : P σ) : PIo P (call 119 [va_rf x0] σ) := hc.2.2.2.2.2.2.2.2.2.2.2.2.2.2.2.2.2.2.2.2.2.2.2.2.2.2.2.2.2.2.2.2.2.2.2.2.2.2.2.2.2.2.2.2.2.2.2.2.2.2.2.2.2.2.2.2.2.2.2.2.2.2.2.2.2.2.2.2.2.2.2.2.2.2.2.2.2.2.2.2.2.2.2.2.2.2.2.2.2.2.2.2.2.2.2.2.2.2.2.2.2.2.2.2.2.2.2.2.2.2.2.2.2.2.2.2.1 x0 σ h
theorem cQoO.c120 {P : oSt → Prop} {call : oCl} (hc : cQoO P call) (x0 : Option Nat) (x1 : Int32) (σ : oSt) (h : P σ) : PIo P (call 120 [va_rf x0, .int x1] σ) := hc.2.2.2.2.2.2.2.2.2.2.2.2.2.2.2.2.2.2.2.2.2.2.2.2.2.2.2.2.2.2.2.2.2.2.2.2.2.2.2.2.2.2.2.2.2.2.2.2.2.2.2.2.2.2.2.2.2.2.2.2.2.2.2.2.2.2.2.2.2.2.2.2.2.2.2.2.2.2.2.2.2.2.2.2.2.2.2.2.2.2.2.2.2.2.2.2.2.2.2.2.2.2.2.2.2.2.2.2.2.2.2.2.2.2.2.2.2.1 x0 x1 σ h
theorem cQoO.c121 {P : oSt → Prop} {call : oCl} (hc : cQoO P call) (x0 : Option Nat) (σ : oSt) (h : P σ) : PIo P (call 121 [va_rf x0] σ) := hc.2.2.2.2.2.2.2.2.2.2.2.2.2.2.2.2.2.2.2.2.2.2.2.2.2.2.2.2.2.2.2.2.2.2.2.2.2.2.2.2.2.2.2.2.2.2.2.2.2.2.2.2.2.2.2.2.2.2.2.2.2.2.2.2.2.2.2.2.2.2.2.2.2.2.2.2.2.2.2.2.2.2.2.2.2.2.2.2.2.2.2.2.2.2.2.2.2.2.2.2.2.2.2.2.2.2.2.2.2.2.2.2.2.2.2.2.2.2.1 x0 σ h
theorem cQoO.c122 {P : oSt → Prop} {call : oCl} (hc : cQoO P call) (x0 : Option Nat) (x1 : Int32) (σ : oSt) (h : P σ) : PIo P (call 122 [va_rf x0, .int x1] σ) := hc.2.2.2.2.2.2.2.2.2.2.2.2.2.2.2.2.2.2.2.2.2.2.2.2.2.2.2.2.2.2.2.2.2.2.2.2.2.2.2.2.2.2.2.2.2.2.2.2.2.2.2.2.2.2.2.2.2.2.2.2.2.2.2.2.2.2.2.2.2.2.2.2.2.2.2.2.2.2.2.2.2.2.2.2.2.2.2.2.2.2.2.2.2.2.2.2.2.2.2.2.2.2.2.2.2.2.2.2.2.2.2.2.2.2.2.2.2.2.2.1 x0 x1 σ h
theorem cQoO.c123 {P : oSt → Prop} {call : oCl} (hc : cQoO P call) (x0 : Option Nat) (x1 : Option Nat) (x2 : Int32) (σ : oSt) (h : P σ) : PIo P (call 123 [va_rf x0, va_rf x1, .int x2] σ) := hc.2.2.2.2.2.2.2.2.2.2.2.2.2.2.2.2.2.2.2.2.2.2.2.2.2.2.2.2.2.2.2.2.2.2.2.2.2.2.2.2.2.2.2.2.2.2.2.2.2.2.2.2.2.2.2.2.2.2.2.2.2.2.2.2.2.2.2.2.2.2.2.2.2.2.2.2.2.2.2.2.2.2.2.2.2.2.2.2.2.2.2.2.2.2.2.2.2.2.2.2.2.2.2.2.2.2.2.2.2.2.2.2.2.2.2.2.2.2.2.2.1 x0 x1 x2 σ h
theorem cQoO.c124 {P : oSt → Prop} {call : oCl} (hc : cQoO P call) (x0 : Option Nat) (x1 : Option Nat) (x2 : Int32) (σ : oSt) (h : P σ) : PIo P (call 124 [va_rf x0, va_rf x1, .int x2] σ) := hc.2.2.2.2.2.2.2.2.2.2.2.2.2.2.2.2.2.2.2.2.2.2.2.2.2.2.2.2.2.2.2.2.2.2.2.2.2.2.2.2.2.2.2.2.2.2.2.2.2.2.2.2.2.2.2.2.2.2.2.2.2.2.2.2.2.2.2.2.2.2.2.2.2.2.2.2.2.2.2.2.2.2.2.2.2.2.2.2.2.2.2.2.2.2.2.2.2.2.2.2.2.2.2.2.2.2.2.2.2.2.2.2.2.2.2.2.2.2.2.2.2.1 x0 x1 x2 σ h
theorem cQoO.c125 {P : oSt → Prop} {call : oCl} (hc : cQoO P call) (x0 : Option Nat) (x1 : Option Nat) (σ : oSt) (h : P σ) : PIo P (call 125 [va_rf x0, va_rf x1] σ) := hc.2.2.2.2.2.2.2.2.2.2.2.2.2.2.2.2.2.2.2.2.2.2.2.2.2.2.2.2.2.2.2.2.2.2.2.2.2.2.2.2.2.2.2.2.2.2.2.2.2.2.2.2.2.2.2.2.2.2.2.2.2.2.2.2.2.2.2.2.2.2.2.2.2.2.2.2.2.2.2.2.2.2.2.2.2.2.2.2.2.2.2.2.2.2.2.2.2.2.2.2.2.2.2.2.2.2.2.2.2.2.2.2.2.2.2.2.2.2.2.2.2.2.1 x0 x1 σ h
theorem cQoO.c126 {P : oSt → Prop} {call : oCl} (hc : cQoO P call) (x0 : Option Nat) (x1 : Int32) (σ : oSt) (h : P σ) : PIo P (call 126 [va_rf x0, .int x1] σ) := hc.2.2.2.2.2.2.2.2.2.2.2.2.2.2.2.2.2.2.2.2.2.2.2.2.2.2.2.2.2.2.2.2.2.2.2.2.2.2.2.2.2.2.2.2.2.2.2.2.2.2.2.2.2.2.2.2.2.2.2.2.2.2.2.2.2.2.2.2.2.2.2.2.2.2.2.2.2.2.2.2.2.2.2.2.2.2.2.2.2.2.2.2.2.2.2.2.2.2.2.2.2.2.2.2.2.2.2.2.2.2.2.2.2.2.2.2.2.2.2.2.2.2.2.1 x0 x1 σ h
theorem cQoO.c127 {P : oSt → Prop} {call : oCl} (hc : cQoO P call) (x0 : Option Nat) (x1 : Int32) (σ : oSt) (h : P σ) : PIo P (call 127 [va_rf x0, .int x1] σ) := hc.2.2.2.2.2.2.2.2.2.2.2.2.2.2.2.2.2.2.2.2.2.2.2.2.2.2.2.2.2.2.2.2.2.2.2.2.2.2.2.2.2.2.2.2.2.2.2.2.2.2.2.2.2.2.2.2.2.2.2.2.2.2.2.2.2.2.2.2.2.2.2.2.2.2.2.2.2.2.2.2.2.2.2.2.2.2.2.2.2.2.2.2.2.2.2.2.2.2.2.2.2.2.2.2.2.2.2.2.2.2.2.2.2.2.2.2.2.2.2.2.2.2.2.2.1 x0 x1 σ h
theorem cQoO.c128 {P : oSt → Prop} {call : oCl} (hc : cQoO P call) (x0 : Option Nat) (x1 : Int32) (σ : oSt) (h : P σ) : PIo P (call 128 [va_rf x0, .int x1] σ) := hc.2.2.2.2.2.2.2.2.2.2.2.2.2.2.2.2.2.2.2.2.2.2.2.2.2.2.2.2.2.2.2.2.2.2.2.2.2.2.2.2.2.2.2.2.2.2.2.2.2.2.2.2.2.2.2.2.2.2.2.2.2.2.2.2.2.2.2.2.2.2.2.2.2.2.2.2.2.2.2.2.2.2.2.2.2.2.2.2.2.2.2.2.2.2.2.2.2.2.2.2.2.2.2.2.2.2.2.2.2.2.2.2.2.2.2.2.2.2.2.2.2.2.2.2.2.1 x0 x1 σ h
theorem cQoO.c129 {P : oSt → Prop} {call : oCl} (hc : cQoO P call) (x0 : Option Nat) (x1 : Int32) (σ : oSt) (h : P σ) : PIo P (call 129 [va_rf x0, .int x1] σ) := hc.2.2.2.2.2.2.2.2.2.2.2.2.2.2.2.2.2.2.2.2.2.2.2.2.2.2.2.2.2.2.2.2.2.2.2.2.2.2.2.2.2.2.2.2.2.2.2.2.2.2.2.2.2.2.2.2.2.2.2.2.2.2.2.2.2.2.2.2.2.2.2.2.2.2.2.2.2.2.2.2.2.2.2.2.2.2.2.2.2.2.2.2.2.2.2.2.2.2.2.2.2.2.2.2.2.2.2.2.2.2.2.2.2.2.2.2.2.2.2.2.2.2.2.2.2.2.1 x0 x1 σ h
theorem cQoO.c130 {P : oSt → Prop} {call : oCl} (hc : cQoO P call) (x0 : Int32) (σ : oSt) (h : P σ) : PIo P (call 130 [.int x0] σ) := hc.2.2.2.2.2.2.2.2.2.2.2.2.2.2.2.2.2.2.2.2.2.2.2.2.2.2.2.2.2.2.2.2.2.2.2.2.2.2.2.2.2.2.2.2.2.2.2.2.2.2.2.2.2.2.2.2.2.2.2.2.2.2.2.2.2.2.2.2.2.2.2.2.2.2.2.2.2.2.2.2.2.2.2.2.2.2.2.2.2.2.2.2.2.2.2.2.2.2.2.2.2.2.2.2.2.2.2.2.2.2.2.2.2.2.2.2.2.2.2.2.2.2.2.2.2.2.2.1 x0 σ h
theorem cQoO.c131 {P : oSt → Prop} {call : oCl} (hc : cQoO P call) (x0 : Option Nat) (x1 : Option Nat) (σ : oSt) (h : P σ) : PIo P (call 131 [va_rf x0, va_rf x1] σ) := hc.2.2.2.2.2.2.2.2.2.2.2.2.2.2.2.2.2.2.2.2.2.2.2.2.2.2.2.2.2.2.2.2.2.2.2.2.2.2.2.2.2.2.2.2.2.2.2.2.2.2.2.2.2.2.2.2.2.2.2.2.2.2.2.2.2.2.2.2.2.2.2.2.2.2.2.2.2.2.2.2.2.2.2.2.2.2.2.2.2.2.2.2.2.2.2.2.2.2.2.2.2.2.2.2.2.2.2.2.2.2.2.2.2.2.2.2.2.2.2.2.2.2.2.2.2.2.2.2.1 x0 x1 σ h
theorem cQoO.c132 {P : oSt → Prop} {call : oCl} (hc : cQoO P call) (x0 : Option Nat) (x1 : Option Nat) (σ : oSt) (h : P σ) : PIo P (call 132 [va_rf x0, va_rf x1] σ) := hc.2.2.2.2.2.2.2.2.2.2.2.2.2.2.2.2.2.2.2.2.2.2.2.2.2.2.2.2.2.2.2.2.2.2.2.2.2.2.2.2.2.2.2.2.2.2.2.2.2.2.2.2.2.2.2.2.2.2.2.2.2.2.2.2.2.2.2.2.2.2.2.2.2.2.2.2.2.2.2.2.2.2.2.2.2.2.2.2.2.2.2.2.2.2.2.2.2.2.2.2.2.2.2.2.2.2.2.2.2.2.2.2.2.2.2.2.2.2.2.2.2.2.2.2.2.2.2.2.2.1 x0 x1 σ h
theorem cQoO.c133 {P : oSt → Prop} {call : oCl} (hc : cQoO P call) (x0 : Option Nat) (x1 : Option Nat) (σ : oSt) (h : P σ) : PIo P (call 133 [va_rf x0, va_rf x1] σ) := hc.2.2.2.2.2.2.2.2.2.2.2.2.2.2.2.2.2.2.2.2.2.2.2.2.2.2.2.2.2.2.2.2.2.2.2.2.2.2.2.2.2.2.2.2.2.2.2.2.2.2.2.2.2.2.2.2.2.2.2.2.2.2.2.2.2.2.2.2.2.2.2.2.2.2.2.2.2.2.2.2.2.2.2.2.2.2.2.2.2.2.2.2.2.2.2.2.2.2.2.2.2.2.2.2.2.2.2.2.2.2.2.2.2.2.2.2.2.2.2.2.2.2.2.2.2.2.2.2.2.2.1 x0 x1 σ h
theorem cQoO.c134 {P : oSt → Prop} {call : oCl} (hc : cQoO P call) (x0 : Option Nat) (x1 : Int32) (σ : oSt) (h : P σ) : PIo P (call 134 [va_rf x0, .int x1] σ) := hc.2.2.2.2.2.2.2.2.2.2.2.2.2.2.2.2.2.2.2.2.2.2.2.2.2.2.2.2.2.2.2.2.2.2.2.2.2.2.2.2.2.2.2.2.2.2.2.2.2.2.2.2.2.2.2.2.2.2.2.2.2.2.2.2.2.2.2.2.2.2.2.2.2.2.2.2.2.2.2.2.2.2.2.2.2.2.2.2.2.2.2.2.2.2.2.2.2.2.2.2.2.2.2.2.2.2.2.2.2.2.2.2.2.2.2.2.2.2.2.2.2.2.2.2.2.2.2.2.2.2.2.1 x0 x1 σ h
theorem cQoO.c135 {P : oSt → Prop} {call : oCl} (hc : cQoO P call) (x0 : Option Nat) (x1 : Int32) (σ : oSt) (h : P σ) : PIo P (call 135 [va_rf x0, .int x1] σ) := hc.2.2.2.2.2.2.2.2.2.2.2.2.2.2.2.2.2.2.2.2.2.2.2.2.2.2.2.2.2.2.2.2.2.2.2.2.2.2.2.2.2.2.2.2.2.2.2.2.2.2.2.2.2.2.2.2.2.2.2.2.2.2.2.2.2.2.2.2.2.2.2.2.2.2.2.2.2.2.2.2.2.2.2.2.2.2.2.2.2.2.2.2.2.2.2.2.2.2.2.2.2.2.2.2.2.2.2.2.2.2.2.2.2.2.2.2.2.2.2.2.2.2.2.2.2.2.2.2.2.2.2.2.1 x0 x1 σ h
theorem cQoO.c136 {P : oSt → Prop} {call : oCl} (hc : cQoO P call) (x0 : Option Nat) (x1 : Option Nat) (x2 : Int32) (σ : oSt) (h : P σ) : PIo P (call 136 [va_rf x0, va_rf x1, .int x2] σ) := hc.2.2.2.2.2.2.2.2.2.2.2.2.2.2.2.2.2.2.2.2.2.2.2.2.2.2.2.2.2.2.2.2.2.2.2.2.2.2.2.2.2.2.2.2.2.2.2.2.2.2.2.2.2.2.2.2.2.2.2.2.2.2.2.2.2.2.2.2.2.2.2.2.2.2.2.2.2.2.2.2.2.2.2.2.2.2.2.2.2.2.2.2.2.2.2.2.2.2.2.2.2.2.2.2.2.2.2.2.2.2.2.2.2.2.2.2.2.2.2.2.2.2.2.2.2.2.2.2.2.2.2.2.2.1 x0 x1 x2 σ h
theorem cQoO.c137 {P : oSt → Prop} {call : oCl} (hc : cQoO P call) (x0 : Option Nat) (x1 : Int32) (σ : oSt) (h : P σ) : PIo P (call 137 [va_rf x0, .int x1] σ) := hc.2.2.2.2.2.2.2.2.2.2.2.2.2.2.2.2.2.2.2.2.2.2.2.2.2.2.2.2.2.2.2.2.2.2.2.2.2.2.2.2.2.2.2.2.2.2.2.2.2.2.2.2.2.2.2.2.2.2.2.2.2.2.2.2.2.2.2.2.2.2.2.2.2.2.2.2.2.2.2.2.2.2.2.2.2.2.2.2.2.2.2.2.2.2.2.2.2.2.2.2.2.2.2.2.2.2.2.2.2.2.2.2.2.2.2.2.2.2.2.2.2.2.2.2.2.2.2.2.2.2.2.2.2.2.1 x0 x1 σ h
theorem cQoO.c138 {P : oSt → Prop} {call : oCl} (hc : cQoO P call) (x0 : Option Nat) (x1 : Option Nat) (x2 : Int32) (σ : oSt) (h : P σ) : PIo P (call 138 [va_rf x0, va_rf x1, .int x2] σ) := hc.2.2.2.2.2.2.2.2.2.2.2.2.2.2.2.2.2.2.2.2.2.2.2.2.2.2.2.2.2.2.2.2.2.2.2.2.2.2.2.2.2.2.2.2.2.2.2.2.2.2.2.2.2.2.2.2.2.2.2.2.2.2.2.2.2.2.2.2.2.2.2.2.2.2.2.2.2.2.2.2.2.2.2.2.2.2.2.2.2.2.2.2.2.2.2.2.2.2.2.2.2.2.2.2.2.2.2.2.2.2.2.2.2.2.2.2.2.2.2.2.2.2.2.2.2.2.2.2.2.2.2.2.2.2.2.1 x0 x1 x2 σ h
theorem cQoO.c139 {P : oSt → Prop} {call : oCl} (hc : cQoO P call) (x0 : Option Nat) (x1 : Option Nat) (x2 : Int32) (σ : oSt) (h : P σ) : PIo P (call 139 [va_rf x0, va_rf x1, .int x2] σ) := hc.2.2.2.2.2.2.2.2.2.2.2.2.2.2.2.2.2.2.2.2.2.2.2.2.2.2.2.2.2.2.2.2.2.2.2.2.2.2.2.2.2.2.2.2.2.2.2.2.2.2.2.2.2.2.2.2.2.2.2.2.2.2.2.2.2.2.2.2.2.2.2.2.2.2.2.2.2.2.2.2.2.2.2.2.2.2.2.2.2.2.2.2.2.2.2.2.2.2.2.2.2.2.2.2.2.2.2.2.2.2.2.2.2.2.2.2.2.2.2.2.2.2.2.2.2.2.2.2.2.2.2.2.2.2.2.2.1 x0 x1 x2 σ h
theorem cQoO.c140 {P : oSt → Prop} {call : oCl} (hc : cQoO P call) (x0 : Option Nat) (x1 : Option Nat) (x2 : Int32) (σ : oSt) (h : P σ) : PIo P (call 140 [va_rf x0, va_rf x1, .int x2] σ) := hc.2.2.2.2.2.2.2.2.2.2.2.2.2.2.2.2.2.2.2.2.2.2.2.2.2.2.2.2.2.2.2.2.2.2.2.2.2.2.2.2.2.2.2.2.2.2.2.2.2.2.2.2.2.2.2.2.2.2.2.2.2.2.2.2.2.2.2.2.2.2.2.2.2.2.2.2.2.2.2.2.2.2.2.2.2.2.2.2.2.2.2.2.2.2.2.2.2.2.2.2.2.2.2.2.2.2.2.2.2.2.2.2.2.2.2.2.2.2.2.2.2.2.2.2.2.2.2.2.2.2.2.2.2.2.2.2.2.1 x0 x1 x2 σ h
theorem cQoO.c141 {P : oSt → Prop} {call : oCl} (hc : cQoO P call) (x0 : Option Nat) (x1 : Option Nat) (x2 : Int32) (σ : oSt) (h : P σ) : PIo P (call 141 [va_rf x0, va_rf x1, .int x2] σ) := hc.2.2.2.2.2.2.2.2.2.2.2.2.2.2.2.2.2.2.2.2.2.2.2.2.2.2.2.2.2.2.2.2.2.2.2.2.2.2.2.2.2.2.2.2.2.2.2.2.2.2.2.2.2.2.2.2.2.2.2.2.2.2.2.2.2.2.2.2.2.2.2.2.2.2.2.2.2.2.2.2.2.2.2.2.2.2.2.2.2.2.2.2.2.2.2.2.2.2.2.2.2.2.2.2.2.2.2.2.2.2.2.2.2.2.2.2.2.2.2.2.2.2.2.2.2.2.2.2.2.2.2.2.2.2.2.2.2.2.1 x0 x1 x2 σ h
theorem cQoO.c142 {P : oSt → Prop} {call : oCl} (hc : cQoO P call) (x0 : Option Nat) (x1 : Int32) (σ : oSt) (h : P σ) : PIo P (call 142 [va_rf x0, .int x1] σ) := hc.2.2.2.2.2.2.2.2.2.2.2.2.2.2.2.2.2.2.2.2.2.2.2.2.2.2.2.2.2.2.2.2.2.2.2.2.2.2.2.2.2.2.2.2.2.2.2.2.2.2.2.2.2.2.2.2.2.2.2.2.2.2.2.2.2.2.2.2.2.2.2.2.2.2.2.2.2.2.2.2.2.2.2.2.2.2.2.2.2.2.2.2.2.2.2.2.2.2.2.2.2.2.2.2.2.2.2.2.2.2.2.2.2.2.2.2.2.2.2.2.2.2.2.2.2.2.2.2.2.2.2.2.2.2.2.2.2.2.2.1 x0 x1 σ h
theorem cQoO.c143 {P : oSt → Prop} {call : oCl} (hc : cQoO P call) (x0 : Option Nat) (x1 : Option Nat) (x2 : Int32) (σ : oSt) (h : P σ) : PIo P (call 143 [va_rf x0, va_rf x1, .int x2] σ) := hc.2.2.2.2.2.2.2.2.2.2.2.2.2.2.2.2.2.2.2.2.2.2.2.2.2.2.2.2.2.2.2.2.2.2.2.2.2.2.2.2.2.2.2.2.2.2.2.2.2.2.2.2.2.2.2.2.2.2.2.2.2.2.2.2.2.2.2.2.2.2.2.2.2.2.2.2.2.2.2.2.2.2.2.2.2.2.2.2.2.2.2.2.2.2.2.2.2.2.2.2.2.2.2.2.2.2.2.2.2.2.2.2.2.2.2.2.2.2.2.2.2.2.2.2.2.2.2.2.2.2.2.2.2.2.2.2.2.2.2.2.1 x0 x1 x2 σ h
theorem cQoO.c144 {P : oSt → Prop} {call : oCl} (hc : cQoO P call) (x0 : Option Nat) (x1 : Option Nat) (x2 : Int32) (σ : oSt) (h : P σ) : PIo P (call 144 [va_rf x0, va_rf x1, .int x2] σ) := hc.2.2.2.2.2.2.2.2.2.2.2.2.2.2.2.2.2.2.2.2.2.2.2.2.2.2.2.2.2.2.2.2.2.2.2.2.2.2.2.2.2.2.2.2.2.2.2.2.2.2.2.2.2.2.2.2.2.2.2.2.2.2.2.2.2.2.2.2.2.2.2.2.2.2.2.2.2.2.2.2.2.2.2.2.2.2.2.2.2.2.2.2.2.2.2.2.2.2.2.2.2.2.2.2.2.2.2.2.2.2.2.2.2.2.2.2.2.2.2.2.2.2.2.2.2.2.2.2.2.2.2.2.2.2.2.2.2.2.2.2.2.1 x0 x1 x2 σ h
theorem cQoO.c145 {P : oSt → Prop} {call : oCl} (hc : cQoO P call) (x0 : Option Nat) (σ : oSt) (h : P σ) : PIo P (call 145 [va_rf x0] σ) := hc.2.2.2.2.2.2.2.2.2.2.2.2.2.2.2.2.2.2.2.2.2.2.2.2.2.2.2.2.2.2.2.2.2.2.2.2.2.2.2.2.2.2.2.2.2.2.2.2.2.2.2.2.2.2.2.2.2.2.2.2.2.2.2.2.2.2.2.2.2.2.2.2.2.2.2.2.2.2.2.2.2.2.2.2.2.2.2.2.2.2.2.2.2.2.2.2.2.2.2.2.2.2.2.2.2.2.2.2.2.2.2.2.2.2.2.2.2.2.2.2.2.2.2.2.2.2.2.2.2.2.2.2.2.2.2.2.2.2.2.2.2.2.1 x0 σ h
theorem cQoO.c146 {P : oSt → Prop} {call : oCl} (hc : cQoO P call) (x0 : Option Nat) (x1 : Int32) (σ : oSt) (h : P σ) : PIo P (call 146 [va_rf x0, .int x1] σ) := hc.2.2.2.2.2.2.2.2.2.2.2.2.2.2.2.2.2.2.2.2.2.2.2.2.2.2.2.2.2.2.2.2.2.2.2.2.2.2.2.2.2.2.2.2.2.2.2.2.2.2.2.2.2.2.2.2.2.2.2.2.2.2.2.2.2.2.2.2.2.2.2.2.2.2.2.2.2.2.2.2.2.2.2.2.2.2.2.2.2.2.2.2.2.2.2.2.2.2.2.2.2.2.2.2.2.2.2.2.2.2.2.2.2.2.2.2.2.2.2.2.2.2.2.2.2.2.2.2.2.2.2.2.2.2.2.2.2.2.2.2.2.2.2.1 x0 x1 σ h
theorem cQoO.c147 {P : oSt → Prop} {call : oCl} (hc : cQoO P call) (x0 : Option Nat) (x1 : Int32) (σ : oSt) (h : P σ) : PIo P (call 147 [va_rf x0, .int x1] σ) := hc.2.2.2.2.2.2.2.2.2.2.2.2.2.2.2.2.2.2.2.2.2.2.2.2.2.2.2.2.2.2.2.2.2.2.2.2.2.2.2.2.2.2.2.2.2.2.2.2.2.2.2.2.2.2.2.2.2.2.2.2.2.2.2.2.2.2.2.2.2.2.2.2.2.2.2.2.2.2.2.2.2.2.2.2.2.2.2.2.2.2.2.2.2.2.2.2.2.2.2.2.2.2.2.2.2.2.2.2.2.2.2.2.2.2.2.2.2.2.2.2.2.2.2.2.2.2.2.2.2.2.2.2.2.2.2.2.2.2.2.2.2.2.2.2.1 x0 x1 σ h
theorem cQoO.c148 {P : oSt → Prop} {call : oCl} (hc : cQoO P call) (x0 : Int32) (σ : oSt) (h : P σ) : PIo P (call 148 [.int x0] σ) := hc.2.2.2.2.2.2.2.2.2.2.2.2.2.2.2.2.2.2.2.2.2.2.2.2.2.2.2.2.2.2.2.2.2.2.2.2.2.2.2.2.2.2.2.2.2.2.2.2.2.2.2.2.2.2.2.2.2.2.2.2.2.2.2.2.2.2.2.2.2.2.2.2.2.2.2.2.2.2.2.2.2.2.2.2.2.2.2.2.2.2.2.2.2.2.2.2.2.2.2.2.2.2.2.2.2.2.2.2.2.2.2.2.2.2.2.2.2.2.2.2.2.2.2.2.2.2.2.2.2.2.2.2.2.2.2.2.2.2.2.2.2.2.2.2.2.1 x0 σ h
theorem cQoO.c149 {P : oSt → Prop} {call : oCl} (hc : cQoO P call) (x0 : Option Nat) (x1 : Int32) (x2 : Int32) (σ : oSt) (h : P σ) : PIo P (call 149 [va_rf x0, .int x1, .int x2] σ) := hc.2.2.2.2.2.2.2.2.2.2.2.2.2.2.2.2.2.2.2.2.2.2.2.2.2.2.2.2.2.2.2.2.2.2.2.2.2.2.2.2.2.2.2.2.2.2.2.2.2.2.2.2.2.2.2.2.2.2.2.2.2.2.2.2.2.2.2.2.2.2.2.2.2.2.2.2.2.2.2.2.2.2.2.2.2.2.2.2.2.2.2.2.2.2.2.2.2.2.2.2.2.2.2.2.2.2.2.2.2.2.2.2.2.2.2.2.2.2.2.2.2.2.2.2.2.2.2.2.2.2.2.2.2.2.2.2.2.2.2.2.2.2.2.2.2.2.1 x0 x1 x2 σ h
theorem cQoO.c150 {P : oSt → Prop} {call : oCl} (hc : cQoO P call) (x0 : Option Nat) (x1 : Int32) (x2 : Int32) (σ : oSt) (h : P σ) : PIo P (call 150 [va_rf x0, .int x1, .int x2] σ) := hc.2.2.2.2.2.2.2.2.2.2.2.2.2.2.2.2.2.2.2.2.2.2.2.2.2.2.2.2.2.2.2.2.2.2.2.2.2.2.2.2.2.2.2.2.2.2.2.2.2.2.2.2.2.2.2.2.2.2.2.2.2.2.2.2.2.2.2.2.2.2.2.2.2.2.2.2.2.2.2.2.2.2.2.2.2.2.2.2.2.2.2.2.2.2.2.2.2.2.2.2.2.2.2.2.2.2.2.2.2.2.2.2.2.2.2.2.2.2.2.2.2.2.2.2.2.2.2.2.2.2.2.2.2.2.2.2.2.2.2.2.2.2.2.2.2.2.2.1 x0 x1 x2 σ h
theorem cQoO.c151 {P : oSt → Prop} {call : oCl} (hc : cQoO P call) (x0 : Option Nat) (x1 : Int32) (σ : oSt) (h : P σ) : PIo P (call 151 [va_rf x0, .int x1] σ) := hc.2.2.2.2.2.2.2.2.2.2.2.2.2.2.2.2.2.2.2.2.2.2.2.2.2.2.2.2.2.2.2.2.2.2.2.2.2.2.2.2.2.2.2.2.2.2.2.2.2.2.2.2.2.2.2.2.2.2.2.2.2.2.2.2.2.2.2.2.2.2.2.2.2.2.2.2.2.2.2.2.2.2.2.2.2.2.2.2.2.2.2.2.2.2.2.2.2.2.2.2.2.2.2.2.2.2.2.2.2.2.2.2.2.2.2.2.2.2.2.2.2.2.2.2.2.2.2.2.2.2.2.2.2.2.2.2.2.2.2.2.2.2.2.2.2.2.2.2.1 x0 x1 σ h
theorem cQoO.c152 {P : oSt → Prop} {call : oCl} (hc : cQoO P call) (x0 : Option Nat) (x1 : Int32) (x2 : Int32) (x3 : Int32) (σ : oSt) (h : P σ) : PIo P (call 152 [va_rf x0, .int x1, .int x2, .int x3] σ) := hc.2.2.2.2.2.2.2.2.2.2.2.2.2.2.2.2.2.2.2.2.2.2.2.2.2.2.2.2.2.2.2.2.2.2.2.2.2.2.2.2.2.2.2.2.2.2.2.2.2.2.2.2.2.2.2.2.2.2.2.2.2.2.2.2.2.2.2.2.2.2.2.2.2.2.2.2.2.2.2.2.2.2.2.2.2.2.2.2.2.2.2.2.2.2.2.2.2.2.2.2.2.2.2.2.2.2.2.2.2.2.2.2.2.2.2.2.2.2.2.2.2.2.2.2.2.2.2.2.2.2.2.2.2.2.2.2.2.2.2.2.2.2.2.2.2.2.2.2.2.1 x0 x1 x2 x3 σ h
theorem cQoO.c153 {P : oSt → Prop} {call : oCl} (hc : cQoO P call) (x0 : Option Nat) (x1 : Option Nat) (σ : oSt) (h : P σ) : PIo P (call 153 [va_rf x0, va_rf x1] σ) := hc.2.2.2.2.2.2.2.2.2.2.2.2.2.2.2.2.2.2.2.2.2.2.2.2.2.2.2.2.2.2.2.2.2.2.2.2.2.2.2.2.2.2.2.2.2.2.2.2.2.2.2.2.2.2.2.2.2.2.2.2.2.2.2.2.2.2.2.2.2.2.2.2.2.2.2.2.2.2.2.2.2.2.2.2.2.2.2.2.2.2.2.2.2.2.2.2.2.2.2.2.2.2.2.2.2.2.2.2.2.2.2.2.2.2.2.2.2.2.2.2.2.2.2.2.2.2.2.2.2.2.2.2.2.2.2.2.2.2.2.2.2.2.2.2.2.2.2.2.2.2.1 x0 x1 σ h
theorem cQoO.c154 {P : oSt → Prop} {call : oCl} (hc : cQoO P call) (x0 : Option Nat) (x1 : Option Nat) (σ : oSt) (h : P σ) : PIo P (call 154 [va_rf x0, va_rf x1] σ) := hc.2.2.2.2.2.2.2.2.2.2.2.2.2.2.2.2.2.2.2.2.2.2.2.2.2.2.2.2.2.2.2.2.2.2.2.2.2.2.2.2.2.2.2.2.2.2.2.2.2.2.2.2.2.2.2.2.2.2.2.2.2.2.2.2.2.2.2.2.2.2.2.2.2.2.2.2.2.2.2.2.2.2.2.2.2.2.2.2.2.2.2.2.2.2.2.2.2.2.2.2.2.2.2.2.2.2.2.2.2.2.2.2.2.2.2.2.2.2.2.2.2.2.2.2.2.2.2.2.2.2.2.2.2.2.2.2.2.2.2.2.2.2.2.2.2.2.2.2.2.2.2.1 x0 x1 σ h
theorem cQoO.c155 {P : oSt → Prop} {call : oCl} (hc : cQoO P call) (x0 : Option Nat) (x1 : Option Nat) (σ : oSt) (h : P σ) : PIo P (call 155 [va_rf x0, va_rf x1] σ) := hc.2.2.2.2.2.2.2.2.2.2.2.2.2.2.2.2.2.2.2.2.2.2.2.2.2.2.2.2.2.2.2.2.2.2.2.2.2.2.2.2.2.2.2.2.2.2.2.2.2.2.2.2.2.2.2.2.2.2.2.2.2.2.2.2.2.2.2.2.2.2.2.2.2.2.2.2.2.2.2.2.2.2.2.2.2.2.2.2.2.2.2.2.2.2.2.2.2.2.2.2.2.2.2.2.2.2.2.2.2.2.2.2.2.2.2.2.2.2.2.2.2.2.2.2.2.2.2.2.2.2.2.2.2.2.2.2.2.2.2.2.2.2.2.2.2.2.2.2.2.2.2.2.1 x0 x1 σ h
theorem cQoO.c156 {P : oSt → Prop} {call : oCl} (hc : cQoO P call) (x0 : Option Nat) (x1 : Option Nat) (σ : oSt) (h : P σ) : PIo P (call 156 [va_rf x0, va_rf x1] σ) := hc.2.2.2.2.2.2.2.2.2.2.2.2.2.2.2.2.2.2.2.2.2.2.2.2.2.2.2.2.2.2.2.2.2.2.2.2.2.2.2.2.2.2.2.2.2.2.2.2.2.2.2.2.2.2.2.2.2.2.2.2.2.2.2.2.2.2.2.2.2.2.2.2.2.2.2.2.2.2.2.2.2.2.2.2.2.2.2.2.2.2.2.2.2.2.2.2.2.2.2.2.2.2.2.2.2.2.2.2.2.2.2.2.2.2.2.2.2.2.2.2.2.2.2.2.2.2.2.2.2.2.2.2.2.2.2.2.2.2.2.2.2.2.2.2.2.2.2.2.2.2.2.2.2.1 x0 x1 σ h
theorem cQoO.c157 {P : oSt → Prop} {call : oCl} (hc : cQoO P call) (x0 : Option Nat) (x1 : Option Nat) (σ : oSt) (h : P σ) : PIo P (call 157 [va_rf x0, va_rf x1] σ) := hc.2.2.2.2.2.2.2.2.2.2.2.2.2.2.2.2.2.2.2.2.2.2.2.2.2.2.2.2.2.2.2.2.2.2.2.2.2.2.2.2.2.2.2.2.2.2.2.2.2.2.2.2.2.2.2.2.2.2.2.2.2.2.2.2.2.2.2.2.2.2.2.2.2.2.2.2.2.2.2.2.2.2.2.2.2.2.2.2.2.2.2.2.2.2.2.2.2.2.2.2.2.2.2.2.2.2.2.2.2.2.2.2.2.2.2.2.2.2.2.2.2.2.2.2.2.2.2.2.2.2.2.2.2.2.2.2.2.2.2.2.2.2.2.2.2.2.2.2.2.2.2.2.2.2.1 x0 x1 σ h
theorem cQoO.c158 {P : oSt → Prop} {call : oCl} (hc : cQoO P call) (x0 : Option Nat) (x1 : Option Nat) (σ : oSt) (h : P σ) : PIo P (call 158 [va_rf x0, va_rf x1] σ) := hc.2.2.2.2.2.2.2.2.2.2.2.2.2.2.2.2.2.2.2.2.2.2.2.2.2.2.2.2.2.2.2.2.2.2.2.2.2.2.2.2.2.2.2.2.2.2.2.2.2.2.2.2.2.2.2.2.2.2.2.2.2.2.2.2.2.2.2.2.2.2.2.2.2.2.2.2.2.2.2.2.2.2.2.2.2.2.2.2.2.2.2.2.2.2.2.2.2.2.2.2.2.2.2.2.2.2.2.2.2.2.2.2.2.2.2.2.2.2.2.2.2.2.2.2.2.2.2.2.2.2.2.2.2.2.2.2.2.2.2.2.2.2.2.2.2.2.2.2.2.2.2.2.2.2.2.1 x0 x1 σ h
theorem cQoO.c159 {P : oSt → Prop} {call : oCl} (hc : cQoO P call) (x0 : Option Nat) (x1 : Option Nat) (σ : oSt) (h : P σ) : PIo P (call 159 [va_rf x0, va_rf x1] σ) := hc.2.2.2.2.2.2.2.2.2.2.2.2.2.2.2.2.2.2.2.2.2.2.2.2.2.2.2.2.2.2.2.2.2.2.2.2.2.2.2.2.2.2.2.2.2.2.2.2.2.2.2.2.2.2.2.2.2.2.2.2.2.2.2.2.2.2.2.2.2.2.2.2.2.2.2.2.2.2.2.2.2.2.2.2.2.2.2.2.2.2.2.2.2.2.2.2.2.2.2.2.2.2.2.2.2.2.2.2.2.2.2.2.2.2.2.2.2.2.2.2.2.2.2.2.2.2.2.2.2.2.2.2.2.2.2.2.2.2.2.2.2.2.2.2.2.2.2.2.2.2.2.2.2.2.2.2.1 x0 x1 σ h
theorem cQoO.c160 {P : oSt → Prop} {call : oCl} (hc : cQoO P call) (x0 : Option Nat) (x1 : Int32) (σ : oSt) (h : P σ) : PIo P (call 160 [va_rf x0, .int x1] σ) := hc.2.2.2.2.2.2.2.2.2.2.2.2.2.2.2.2.2.2.2.2.2.2.2.2.2.2.2.2.2.2.2.2.2.2.2.2.2.2.2.2.2.2.2.2.2.2.2.2.2.2.2.2.2.2.2.2.2.2.2.2.2.2.2.2.2.2.2.2.2.2.2.2.2.2.2.2.2.2.2.2.2.2.2.2.2.2.2.2.2.2.2.2.2.2.2.2.2.2.2.2.2.2.2.2.2.2.2.2.2.2.2.2.2.2.2.2.2.2.2.2.2.2.2.2.2.2.2.2.2.2.2.2.2.2.2.2.2.2.2.2.2.2.2.2.2.2.2.2.2.2.2.2.2.2.2.2.2.1 x0 x1 σ h
theorem cQoO.c161 {P : oSt → Prop} {call : oCl} (hc : cQoO P call) (x0 : Option Nat) (x1 : Option Nat) (σ : oSt) (h : P σ) : PIo P (call 161 [va_rf x0, va_rf x1] σ) := hc.2.2.2.2.2.2.2.2.2.2.2.2.2.2.2.2.2.2.2.2.2.2.2.2.2.2.2.2.2.2.2.2.2.2.2.2.2.2.2.2.2.2.2.2.2.2.2.2.2.2.2.2.2.2.2.2.2.2.2.2.2.2.2.2.2.2.2.2.2.2.2.2.2.2.2.2.2.2.2.2.2.2.2.2.2.2.2.2.2.2.2.2.2.2.2.2.2.2.2.2.2.2.2.2.2.2.2.2.2.2.2.2.2.2.2.2.2.2.2.2.2.2.2.2.2.2.2.2.2.2.2.2.2.2.2.2.2.2.2.2.2.2.2.2.2.2.2.2.2.2.2.2.2.2.2.2.2.2.1 x0 x1 σ h
theorem cQoO.c162 {P : oSt → Prop} {call : oCl} (hc : cQoO P call) (x0 : Option Nat) (x1 : Option Nat) (σ : oSt) (h : P σ) : PIo P (call 162 [va_rf x0, va_rf x1] σ) := hc.2.2.2.2.2.2.2.2.2.2.2.2.2.2.2.2.2.2.2.2.2.2.2.2.2.2.2.2.2.2.2.2.2.2.2.2.2.2.2.2.2.2.2.2.2.2.2.2.2.2.2.2.2.2.2.2.2.2.2.2.2.2.2.2.2.2.2.2.2.2.2.2.2.2.2.2.2.2.2.2.2.2.2.2.2.2.2.2.2.2.2.2.2.2.2.2.2.2.2.2.2.2.2.2.2.2.2.2.2.2.2.2.2.2.2.2.2.2.2.2.2.2.2.2.2.2.2.2.2.2.2.2.2.2.2.2.2.2.2.2.2.2.2.2.2.2.2.2.2.2.2.2.2.2.2.2.2.2.2.1 x0 x1 σ h
theorem cQoO.c163 {P : oSt → Prop} {call : oCl} (hc : cQoO P call) (x0 : Int32) (σ : oSt) (h : P σ) : PIo P (call 163 [.int x0] σ) := hc.2.2.2.2.2.2.2.2.2.2.2.2.2.2.2.2.2.2.2.2.2.2.2.2.2.2.2.2.2.2.2.2.2.2.2.2.2.2.2.2.2.2.2.2.2.2.2.2.2.2.2.2.2.2.2.2.2.2.2.2.2.2.2.2.2.2.2.2.2.2.2.2.2.2.2.2.2.2.2.2.2.2.2.2.2.2.2.2.2.2.2.2.2.2.2.2.2.2.2.2.2.2.2.2.2.2.2.2.2.2.2.2.2.2.2.2.2.2.2.2.2.2.2.2.2.2.2.2.2.2.2.2.2.2.2.2.2.2.2.2.2.2.2.2.2.2.2.2.2.2.2.2.2.2.2.2.2.2.2.2.1 x0 σ h
theorem cQoO.c164 {P : oSt → Prop} {call : oCl} (hc : cQoO P call) (x0 : Int32) (σ : oSt) (h : P σ) : PIo P (call 164 [.int x0] σ) := hc.2.2.2.2.2.2.2.2.2.2.2.2.2.2.2.2.2.2.2.2.2.2.2.2.2.2.2.2.2.2.2.2.2.2.2.2.2.2.2.2.2.2.2.2.2.2.2.2.2.2.2.2.2.2.2.2.2.2.2.2.2.2.2.2.2.2.2.2.2.2.2.2.2.2.2.2.2.2.2.2.2.2.2.2.2.2.2.2.2.2.2.2.2.2.2.2.2.2.2.2.2.2.2.2.2.2.2.2.2.2.2.2.2.2.2.2.2.2.2.2.2.2.2.2.2.2.2.2.2.2.2.2.2.2.2.2.2.2.2.2.2.2.2.2.2.2.2.2.2.2.2.2.2.2.2.2.2.2.2.2.2.1 x0 σ h
theorem cQoO.c165 {P : oSt → Prop} {call : oCl} (hc : cQoO P call) (x0 : Int32) (x1 : Int32) (σ : oSt) (h : P σ) : PIo P (call 165 [.int x0, .int x1] σ) := hc.2.2.2.2.2.2.2.2.2.2.2.2.2.2.2.2.2.2.2.2.2.2.2.2.2.2.2.2.2.2.2.2.2.2.2.2.2.2.2.2.2.2.2.2.2.2.2.2.2.2.2.2.2.2.2.2.2.2.2.2.2.2.2.2.2.2.2.2.2.2.2.2.2.2.2.2.2.2.2.2.2.2.2.2.2.2.2.2.2.2.2.2.2.2.2.2.2.2.2.2.2.2.2.2.2.2.2.2.2.2.2.2.2.2.2.2.2.2.2.2.2.2.2.2.2.2.2.2.2.2.2.2.2.2.2.2.2.2.2.2.2.2.2.2.2.2.2.2.2.2.2.2.2.2.2.2.2.2.2.2.2.2.1 x0 x1 σ h
theorem cQoO.c166 {P : oSt → Prop} {call : oCl} (hc : cQoO P call) (x0 : Option Nat) (x1 : Int32) (σ : oSt) (h : P σ) : PIo P (call 166 [va_rf x0, .int x1] σ) := hc.2.2.2.2.2.2.2.2.2.2.2.2.2.2.2.2.2.2.2.2.2.2.2.2.2.2.2.2.2.2.2.2.2.2.2.2.2.2.2.2.2.2.2.2.2.2.2.2.2.2.2.2.2.2.2.2.2.2.2.2.2.2.2.2.2.2.2.2.2.2.2.2.2.2.2.2.2.2.2.2.2.2.2.2.2.2.2.2.2.2.2.2.2.2.2.2.2.2.2.2.2.2.2.2.2.2.2.2.2.2.2.2.2.2.2.2.2.2.2.2.2.2.2.2.2.2.2.2.2.2.2.2.2.2.2.2.2.2.2.2.2.2.2.2.2.2.2.2.2.2.2.2.2.2.2.2.2.2.2.2.2.2.2.1 x0 x1 σ h
theorem cQoO.c167 {P : oSt → Prop} {call : oCl} (hc : cQoO P call) (x0 : Option Nat) (x1 : Int32) (σ : oSt) (h : P σ) : PIo P (call 167 [va_rf x0, .int x1] σ) := hc.2.2.2.2.2.2.2.2.2.2.2.2.2.2.2.2.2.2.2.2.2.2.2.2.2.2.2.2.2.2.2.2.2.2.2.2.2.2.2.2.2.2.2.2.2.2.2.2.2.2.2.2.2.2.2.2.2.2.2.2.2.2.2.2.2.2.2.2.2.2.2.2.2.2.2.2.2.2.2.2.2.2.2.2.2.2.2.2.2.2.2.2.2.2.2.2.2.2.2.2.2.2.2.2.2.2.2.2.2.2.2.2.2.2.2.2.2.2.2.2.2.2.2.2.2.2.2.2.2.2.2.2.2.2.2.2.2.2.2.2.2.2.2.2.2.2.2.2.2.2.2.2.2.2.2.2.2.2.2.2.2.2.2.2.1 x0 x1 σ h
theorem cQoO.c168 {P : oSt → Prop} {call : oCl} (hc : cQoO P call) (x0 : Option Nat) (x1 : Int32) (x2 : Int32) (x3 : Int32) (σ : oSt) (h : P σ) : PIo P (call 168 [va_rf x0, .int x1, .int x2, .int x3] σ) := hc.2.2.2.2.2.2.2.2.2.2.2.2.2.2.2.2.2.2.2.2.2.2.2.2.2.2.2.2.2.2.2.2.2.2.2.2.2.2.2.2.2.2.2.2.2.2.2.2.2.2.2.2.2.2.2.2.2.2.2.2.2.2.2.2.2.2.2.2.2.2.2.2.2.2.2.2.2.2.2.2.2.2.2.2.2.2.2.2.2.2.2.2.2.2.2.2.2.2.2.2.2.2.2.2.2.2.2.2.2.2.2.2.2.2.2.2.2.2.2.2.2.2.2.2.2.2.2.2.2.2.2.2.2.2.2.2.2.2.2.2.2.2.2.2.2.2.2.2.2.2.2.2.2.2.2.2.2.2.2.2.2.2.2.2.2.1 x0 x1 x2 x3 σ h
theorem cQoO.c169 {P : oSt → Prop} {call : oCl} (hc : cQoO P call) (x0 : Option Nat) (x1 : Int32) (x2 : Int32) (σ : oSt) (h : P σ) : PIo P (call 169 [va_rf x0, .int x1, .int x2] σ) := hc.2.2.2.2.2.2.2.2.2.2.2.2.2.2.2.2.2.2.2.2.2.2.2.2.2.2.2.2.2.2.2.2.2.2.2.2.2.2.2.2.2.2.2.2.2.2.2.2.2.2.2.2.2.2.2.2.2.2.2.2.2.2.2.2.2.2.2.2.2.2.2.2.2.2.2.2.2.2.2.2.2.2.2.2.2.2.2.2.2.2.2.2.2.2.2.2.2.2.2.2.2.2.2.2.2.2.2.2.2.2.2.2.2.2.2.2.2.2.2.2.2.2.2.2.2.2.2.2.2.2.2.2.2.2.2.2.2.2.2.2.2.2.2.2.2.2.2.2.2.2.2.2.2.2.2.2.2.2.2.2.2.2.2.2.2.2.1 x0 x1 x2 σ h
theorem cQoO.c170 {P : oSt → Prop} {call : oCl} (hc : cQoO P call) (x0 : Option Nat) (x1 : Int32) (x2 : Int32) (σ : oSt) (h : P σ) : PIo P (call 170 [va_rf x0, .int x1, .int x2] σ) := hc.2.2.2.2.2.2.2.2.2.2.2.2.2.2.2.2.2.2.2.2.2.2.2.2.2.2.2.2.2.2.2.2.2.2.2.2.2.2.2.2.2.2.2.2.2.2.2.2.2.2.2.2.2.2.2.2.2.2.2.2.2.2.2.2.2.2.2.2.2.2.2.2.2.2.2.2.2.2.2.2.2.2.2.2.2.2.2.2.2.2.2.2.2.2.2.2.2.2.2.2.2.2.2.2.2.2.2.2.2.2.2.2.2.2.2.2.2.2.2.2.2.2.2.2.2.2.2.2.2.2.2.2.2.2.2.2.2.2.2.2.2.2.2.2.2.2.2.2.2.2.2.2.2.2.2.2.2.2.2.2.2.2.2.2.2.2.2.1 x0 x1 x2 σ h
theorem cQoO.c171 {P : oSt → Prop} {call : oCl} (hc : cQoO P call) (x0 : Option Nat) (σ : oSt) (h : P σ) : PIo P (call 171 [va_rf x0] σ) := hc.2.2.2.2.2.2.2.2.2.2.2.2.2.2.2.2.2.2.2.2.2.2.2.2.2.2.2.2.2.2.2.2.2.2.2.2.2.2.2.2.2.2.2.2.2.2.2.2.2.2.2.2.2.2.2.2.2.2.2.2.2.2.2.2.2.2.2.2.2.2.2.2.2.2.2.2.2.2.2.2.2.2.2.2.2.2.2.2.2.2.2.2.2.2.2.2.2.2.2.2.2.2.2.2.2.2.2.2.2.2.2.2.2.2.2.2.2.2.2.2.2.2.2.2.2.2.2.2.2.2.2.2.2.2.2.2.2.2.2.2.2.2.2.2.2.2.2.2.2.2.2.2.2.2.2.2.2.2.2.2.2.2.2.2.2.2.2.2.1 x0 σ h
theorem cQoO.c172 {P : oSt → Prop} {call : oCl} (hc : cQoO P call) (x0 : Option Nat) (x1 : Option Nat) (σ : oSt) (h : P σ) : PIo P (call 172 [va_rf x0, va_rf x1] σ) := hc.2.2.2.2.2.2.2.2.2.2.2.2.2.2.2.2.2.2.2.2.2.2.2.2.2.2.2.2.2.2.2.2.2.2.2.2.2.2.2.2.2.2.2.2.2.2.2.2.2.2.2.2.2.2.2.2.2.2.2.2.2.2.2.2.2.2.2.2.2.2.2.2.2.2.2.2.2.2.2.2.2.2.2.2.2.2.2.2.2.2.2.2.2.2.2.2.2.2.2.2.2.2.2.2.2.2.2.2.2.2.2.2.2.2.2.2.2.2.2.2.2.2.2.2.2.2.2.2.2.2.2.2.2.2.2.2.2.2.2.2.2.2.2.2.2.2.2.2.2.2.2.2.2.2.2.2.2.2.2.2.2.2.2.2.2.2.2.2.2.1 x0 x1 σ h
theorem cQoO.c174 {P : oSt → Prop} {call : oCl} (hc : cQoO P call) (x0 : Option Nat) (x1 : Int32) (σ : oSt) (h : P σ) : PIo P (call 174 [va_rf x0, .int x1] σ) := hc.2.2.2.2.2.2.2.2.2.2.2.2.2.2.2.2.2.2.2.2.2.2.2.2.2.2.2.2.2.2.2.2.2.2.2.2.2.2.2.2.2.2.2.2.2.2.2.2.2.2.2.2.2.2.2.2.2.2.2.2.2.2.2.2.2.2.2.2.2.2.2.2.2.2.2.2.2.2.2.2.2.2.2.2.2.2.2.2.2.2.2.2.2.2.2.2.2.2.2.2.2.2.2.2.2.2.2.2.2.2.2.2.2.2.2.2.2.2.2.2.2.2.2.2.2.2.2.2.2.2.2.2.2.2.2.2.2.2.2.2.2.2.2.2.2.2.2.2.2.2.2.2.2.2.2.2.2.2.2.2.2.2.2.2.2.2.2.2.2.2.1 x0 x1 σ h
theorem cQoO.c175 {P : oSt → Prop} {call : oCl} (hc : cQoO P call) (x0 : Option Nat) (x1 : Int32) (x2 : Int32) (x3 : Int32) (x4 : Int32) (x5 : Int32) (σ : oSt) (h : P σ) : PIo P (call 175 [va_rf x0, .int x1, .int x2, .int x3, .int x4, .int x5] σ) := hc.2.2.2.2.2.2.2.2.2.2.2.2.2.2.2.2.2.2.2.2.2.2.2.2.2.2.2.2.2.2.2.2.2.2.2.2.2.2.2.2.2.2.2.2.2.2.2.2.2.2.2.2.2.2.2.2.2.2.2.2.2.2.2.2.2.2.2.2.2.2.2.2.2.2.2.2.2.2.2.2.2.2.2.2.2.2.2.2.2.2.2.2.2.2.2.2.2.2.2.2.2.2.2.2.2.2.2.2.2.2.2.2.2.2.2.2.2.2.2.2.2.2.2.2.2.2.2.2.2.2.2.2.2.2.2.2.2.2.2.2.2.2.2.2.2.2.2.2.2.2.2.2.2.2.2.2.2.2.2.2.2.2.2.2.2.2.2.2.2.2.2.1 x0 x1 x2 x3 x4 x5 σ h
theorem cQoO.c176 {P : oSt → Prop} {call : oCl} (hc : cQoO P call) (x0 : Option Nat) (x1 : Int32) (σ : oSt) (h : P σ) : PIo P (call 176 [va_rf x0, .int x1] σ) := hc.2.2.2.2.2.2.2.2.2.2.2.2.2.2.2.2.2.2.2.2.2.2.2.2.2.2.2.2.2.2.2.2.2.2.2.2.2.2.2.2.2.2.2.2.2.2.2.2.2.2.2.2.2.2.2.2.2.2.2.2.2.2.2.2.2.2.2.2.2.2.2.2.2.2.2.2.2.2.2.2.2.2.2.2.2.2.2.2.2.2.2.2.2.2.2.2.2.2.2.2.2.2.2.2.2.2.2.2.2.2.2.2.2.2.2.2.2.2.2.2.2.2.2.2.2.2.2.2.2.2.2.2.2.2.2.2.2.2.2.2.2.2.2.2.2.2.2.2.2.2.2.2.2.2.2.2.2.2.2.2.2.2.2.2.2.2.2.2.2.2.2.2.1 x0 x1 σ h
theorem cQoO.c177 {P : oSt → Prop} {call : oCl} (hc : cQoO P call) (x0 : Option Nat) (x1 : Int32) (x2 : Int32) (σ : oSt) (h : P σ) : PIo P (call 177 [va_rf x0, .int x1, .int x2] σ) := hc.2.2.2.2.2.2.2.2.2.2.2.2.2.2.2.2.2.2.2.2.2.2.2.2.2.2.2.2.2.2.2.2.2.2.2.2.2.2.2.2.2.2.2.2.2.2.2.2.2.2.2.2.2.2.2.2.2.2.2.2.2.2.2.2.2.2.2.2.2.2.2.2.2.2.2.2.2.2.2.2.2.2.2.2.2.2.2.2.2.2.2.2.2.2.2.2.2.2.2.2.2.2.2.2.2.2.2.2.2.2.2.2.2.2.2.2.2.2.2.2.2.2.2.2.2.2.2.2.2.2.2.2.2.2.2.2.2.2.2.2.2.2.2.2.2.2.2.2.2.2.2.2.2.2.2.2.2.2.2.2.2.2.2.2.2.2.2.2.2.2.2.2.2.1 x0 x1 x2 σ h
theorem cQoO.c178 {P : oSt → Prop} {call : oCl} (hc : cQoO P call) (x0 : Option Nat) (σ : oSt) (h : P σ) : PIo P (call 178 [va_rf x0] σ) := hc.2.2.2.2.2.2.2.2.2.2.2.2.2.2.2.2.2.2.2.2.2.2.2.2.2.2.2.2.2.2.2.2.2.2.2.2.2.2.2.2.2.2.2.2.2.2.2.2.2.2.2.2.2.2.2.2.2.2.2.2.2.2.2.2.2.2.2.2.2.2.2.2.2.2.2.2.2.2.2.2.2.2.2.2.2.2.2.2.2.2.2.2.2.2.2.2.2.2.2.2.2.2.2.2.2.2.2.2.2.2.2.2.2.2.2.2.2.2.2.2.2.2.2.2.2.2.2.2.2.2.2.2.2.2.2.2.2.2.2.2.2.2.2.2.2.2.2.2.2.2.2.2.2.2.2.2.2.2.2.2.2.2.2.2.2.2.2.2.2.2.2.2.2.2.1 x0 σ h
theorem cQoO.c179 {P : oSt → Prop} {call : oCl} (hc : cQoO P call) (x0 : Option Nat) (σ : oSt) (h : P σ) : PIo P (call 179 [va_rf x0] σ) := hc.2.2.2.2.2.2.2.2.2.2.2.2.2.2.2.2.2.2.2.2.2.2.2.2.2.2.2.2.2.2.2.2.2.2.2.2.2.2.2.2.2.2.2.2.2.2.2.2.2.2.2.2.2.2.2.2.2.2.2.2.2.2.2.2.2.2.2.2.2.2.2.2.2.2.2.2.2.2.2.2.2.2.2.2.2.2.2.2.2.2.2.2.2.2.2.2.2.2.2.2.2.2.2.2.2.2.2.2.2.2.2.2.2.2.2.2.2.2.2.2.2.2.2.2.2.2.2.2.2.2.2.2.2.2.2.2.2.2.2.2.2.2.2.2.2.2.2.2.2.2.2.2.2.2.2.2.2.2.2.2.2.2.2.2.2.2.2.2.2.2.2.2.2.2.2.1 x0 σ h
theorem cQoO.c180 {P : oSt → Prop} {call : oCl} (hc : cQoO P call) (x0 : Option Nat) (σ : oSt) (h : P σ) : PIo P (call 180 [va_rf x0] σ) := hc.2.2.2.2.2.2.2.2.2.2.2.2.2.2.2.2.2.2.2.2.2.2.2.2.2.2.2.2.2.2.2.2.2.2.2.2.2.2.2.2.2.2.2.2.2.2.2.2.2.2.2.2.2.2.2.2.2.2.2.2.2.2.2.2.2.2.2.2.2.2.2.2.2.2.2.2.2.2.2.2.2.2.2.2.2.2.2.2.2.2.2.2.2.2.2.2.2.2.2.2.2.2.2.2.2.2.2.2.2.2.2.2.2.2.2.2.2.2.2.2.2.2.2.2.2.2.2.2.2.2.2.2.2.2.2.2.2.2.2.2.2.2.2.2.2.2.2.2.2.2.2.2.2.2.2.2.2.2.2.2.2.2.2.2.2.2.2.2.2.2.2.2.2.2.2.2.1 x0 σ h
theorem cQoO.c181 {P : oSt → Prop} {call : oCl} (hc : cQoO P call) (x0 : Option Nat) (x1 : Int32) (σ : oSt) (h : P σ) : PIo P (call 181 [va_rf x0, .int x1] σ) := hc.2.2.2.2.2.2.2.2.2.2.2.2.2.2.2.2.2.2.2.2.2.2.2.2.2.2.2.2.2.2.2.2.2.2.2.2.2.2.2.2.2.2.2.2.2.2.2.2.2.2.2.2.2.2.2.2.2.2.2.2.2.2.2.2.2.2.2.2.2.2.2.2.2.2.2.2.2.2.2.2.2.2.2.2.2.2.2.2.2.2.2.2.2.2.2.2.2.2.2.2.2.2.2.2.2.2.2.2.2.2.2.2.2.2.2.2.2.2.2.2.2.2.2.2.2.2.2.2.2.2.2.2.2.2.2.2.2.2.2.2.2.2.2.2.2.2.2.2.2.2.2.2.2.2.2.2.2.2.2.2.2.2.2.2.2.2.2.2.2.2.2.2.2.2.2.2.2.1 x0 x1 σ h
theorem cQoO.c182 {P : oSt → Prop} {call : oCl} (hc : cQoO P call) (x0 : Option Nat) (x1 : Option Nat) (σ : oSt) (h : P σ) : PIo P (call 182 [va_rf x0, va_rf x1] σ) := hc.2.2.2.2.2.2.2.2.2.2.2.2.2.2.2.2.2.2.2.2.2.2.2.2.2.2.2.2.2.2.2.2.2.2.2.2.2.2.2.2.2.2.2.2.2.2.2.2.2.2.2.2.2.2.2.2.2.2.2.2.2.2.2.2.2.2.2.2.2.2.2.2.2.2.2.2.2.2.2.2.2.2.2.2.2.2.2.2.2.2.2.2.2.2.2.2.2.2.2.2.2.2.2.2.2.2.2.2.2.2.2.2.2.2.2.2.2.2.2.2.2.2.2.2.2.2.2.2.2.2.2.2.2.2.2.2.2.2.2.2.2.2.2.2.2.2.2.2.2.2.2.2.2.2.2.2.2.2.2.2.2.2.2.2.2.2.2.2.2.2.2.2.2.2.2.2.2.2.1 x0 x1 σ h
theorem cQoO.c183 {P : oSt → Prop} {call : oCl} (hc : cQoO P call) (x0 : Option Nat) (x1 : Int64) (σ : oSt) (h : P σ) : PIo P (call 183 [va_rf x0, .long x1] σ) := hc.2.2.2.2.2.2.2.2.2.2.2.2.2.2.2.2.2.2.2.2.2.2.2.2.2.2.2.2.2.2.2.2.2.2.2.2.2.2.2.2.2.2.2.2.2.2.2.2.2.2.2.2.2.2.2.2.2.2.2.2.2.2.2.2.2.2.2.2.2.2.2.2.2.2.2.2.2.2.2.2.2.2.2.2.2.2.2.2.2.2.2.2.2.2.2.2.2.2.2.2.2.2.2.2.2.2.2.2.2.2.2.2.2.2.2.2.2.2.2.2.2.2.2.2.2.2.2.2.2.2.2.2.2.2.2.2.2.2.2.2.2.2.2.2.2.2.2.2.2.2.2.2.2.2.2.2.2.2.2.2.2.2.2.2.2.2.2.2.2.2.2.2.2.2.2.2.2.2.2.1 x0 x1 σ h
theorem cQoO.c184 {P : oSt → Prop} {call : oCl} (hc : cQoO P call) (x0 : Option Nat) (x1 : Option Nat) (σ : oSt) (h : P σ) : PIo P (call 184 [va_rf x0, va_rf x1] σ) := hc.2.2.2.2.2.2.2.2.2.2.2.2.2.2.2.2.2.2.2.2.2.2.2.2.2.2.2.2.2.2.2.2.2.2.2.2.2.2.2.2.2.2.2.2.2.2.2.2.2.2.2.2.2.2.2.2.2.2.2.2.2.2.2.2.2.2.2.2.2.2.2.2.2.2.2.2.2.2.2.2.2.2.2.2.2.2.2.2.2.2.2.2.2.2.2.2.2.2.2.2.2.2.2.2.2.2.2.2.2.2.2.2.2.2.2.2.2.2.2.2.2.2.2.2.2.2.2.2.2.2.2.2.2.2.2.2.2.2.2.2.2.2.2.2.2.2.2.2.2.2.2.2.2.2.2.2.2.2.2.2.2.2.2.2.2.2.2.2.2.2.2.2.2.2.2.2.2.2.2.2.1 x0 x1 σ h
theorem cQoO.c185 {P : oSt → Prop} {call : oCl} (hc : cQoO P call) (x0 : Option Nat) (x1 : Int32) (σ : oSt) (h : P σ) : PIo P (call 185 [va_rf x0, .int x1] σ) := hc.2.2.2.2.2.2.2.2.2.2.2.2.2.2.2.2.2.2.2.2.2.2.2.2.2.2.2.2.2.2.2.2.2.2.2.2.2.2.2.2.2.2.2.2.2.2.2.2.2.2.2.2.2.2.2.2.2.2.2.2.2.2.2.2.2.2.2.2.2.2.2.2.2.2.2.2.2.2.2.2.2.2.2.2.2.2.2.2.2.2.2.2.2.2.2.2.2.2.2.2.2.2.2.2.2.2.2.2.2.2.2.2.2.2.2.2.2.2.2.2.2.2.2.2.2.2.2.2.2.2.2.2.2.2.2.2.2.2.2.2.2.2.2.2.2.2.2.2.2.2.2.2.2.2.2.2.2.2.2.2.2.2.2.2.2.2.2.2.2.2.2.2.2.2.2.2.2.2.2.2.2.1 x0 x1 σ h
theorem cQoO.c186 {P : oSt → Prop} {call : oCl} (hc : cQoO P call) (x0 : Option Nat) (x1 : Option Nat) (σ : oSt) (h : P σ) : PIo P (call 186 [va_rf x0, va_rf x1] σ) := hc.2.2.2.2.2.2.2.2.2.2.2.2.2.2.2.2.2.2.2.2.2.2.2.2.2.2.2.2.2.2.2.2.2.2.2.2.2.2.2.2.2.2.2.2.2.2.2.2.2.2.2.2.2.2.2.2.2.2.2.2.2.2.2.2.2.2.2.2.2.2.2.2.2.2.2.2.2.2.2.2.2.2.2.2.2.2.2.2.2.2.2.2.2.2.2.2.2.2.2.2.2.2.2.2.2.2.2.2.2.2.2.2.2.2.2.2.2.2.2.2.2.2.2.2.2.2.2.2.2.2.2.2.2.2.2.2.2.2.2.2.2.2.2.2.2.2.2.2.2.2.2.2.2.2.2.2.2.2.2.2.2.2.2.2.2.2.2.2.2.2.2.2.2.2.2.2.2.2.2.2.2.2.1 x0 x1 σ h
theorem cQoO.c187 {P : oSt → Prop} {call : oCl} (hc : cQoO P call) (x0 : Option Nat) (x1 : Option Nat) (σ : oSt) (h : P σ) : PIo P (call 187 [va_rf x0, va_rf x1] σ) := hc.2.2.2.2.2.2.2.2.2.2.2.2.2.2.2.2.2.2.2.2.2.2.2.2.2.2.2.2.2.2.2.2.2.2.2.2.2.2.2.2.2.2.2.2.2.2.2.2.2.2.2.2.2.2.2.2.2.2.2.2.2.2.2.2.2.2.2.2.2.2.2.2.2.2.2.2.2.2.2.2.2.2.2.2.2.2.2.2.2.2.2.2.2.2.2.2.2.2.2.2.2.2.2.2.2.2.2.2.2.2.2.2.2.2.2.2.2.2.2.2.2.2.2.2.2.2.2.2.2.2.2.2.2.2.2.2.2.2.2.2.2.2.2.2.2.2.2.2.2.2.2.2.2.2.2.2.2.2.2.2.2.2.2.2.2.2.2.2.2.2.2.2.2.2.2.2.2.2.2.2.2.2.2.1 x0 x1 σ h
theorem cQoO.c188 {P : oSt → Prop} {call : oCl} (hc : cQoO P call) (x0 : Option Nat) (x1 : Option Nat) (x2 : Int32) (σ : oSt) (h : P σ) : PIo P (call 188 [va_rf x0, va_rf x1, .int x2] σ) := hc.2.2.2.2.2.2.2.2.2.2.2.2.2.2.2.2.2.2.2.2.2.2.2.2.2.2.2.2.2.2.2.2.2.2.2.2.2.2.2.2.2.2.2.2.2.2.2.2.2.2.2.2.2.2.2.2.2.2.2.2.2.2.2.2.2.2.2.2.2.2.2.2.2.2.2.2.2.2.2.2.2.2.2.2.2.2.2.2.2.2.2.2.2.2.2.2.2.2.2.2.2.2.2.2.2.2.2.2.2.2.2.2.2.2.2.2.2.2.2.2.2.2.2.2.2.2.2.2.2.2.2.2.2.2.2.2.2.2.2.2.2.2.2.2.2.2.2.2.2.2.2.2.2.2.2.2.2.2.2.2.2.2.2.2.2.2.2.2.2.2.2.2.2.2.2.2.2.2.2.2.2.2.2.2.1 x0 x1 x2 σ h
theorem cQoO.c189 {P : oSt → Prop} {call : oCl} (hc : cQoO P call) (x0 : Option Nat) (x1 : Int32) (σ : oSt) (h : P σ) : PIo P (call 189 [va_rf x0, .int x1] σ) := hc.2.2.2.2.2.2.2.2.2.2.2.2.2.2.2.2.2.2.2.2.2.2.2.2.2.2.2.2.2.2.2.2.2.2.2.2.2.2.2.2.2.2.2.2.2.2.2.2.2.2.2.2.2.2.2.2.2.2.2.2.2.2.2.2.2.2.2.2.2.2.2.2.2.2.2.2.2.2.2.2.2.2.2.2.2.2.2.2.2.2.2.2.2.2.2.2.2.2.2.2.2.2.2.2.2.2.2.2.2.2.2.2.2.2.2.2.2.2.2.2.2.2.2.2.2.2.2.2.2.2.2.2.2.2.2.2.2.2.2.2.2.2.2.2.2.2.2.2.2.2.2.2.2.2.2.2.2.2.2.2.2.2.2.2.2.2.2.2.2.2.2.2.2.2.2.2.2.2.2.2.2.2.2.2.2.1 x0 x1 σ h
theorem cQoO.c190 {P : oSt → Prop} {call : oCl} (hc : cQoO P call) (x0 : Option Nat) (x1 : Int32) (σ : oSt) (h : P σ) : PIo P (call 190 [va_rf x0, .int x1] σ) := hc.2.2.2.2.2.2.2.2.2.2.2.2.2.2.2.2.2.2.2.2.2.2.2.2.2.2.2.2.2.2.2.2.2.2.2.2.2.2.2.2.2.2.2.2.2.2.2.2.2.2.2.2.2.2.2.2.2.2.2.2.2.2.2.2.2.2.2.2.2.2.2.2.2.2.2.2.2.2.2.2.2.2.2.2.2.2.2.2.2.2.2.2.2.2.2.2.2.2.2.2.2.2.2.2.2.2.2.2.2.2.2.2.2.2.2.2.2.2.2.2.2.2.2.2.2.2.2.2.2.2.2.2.2.2.2.2.2.2.2.2.2.2.2.2.2.2.2.2.2.2.2.2.2.2.2.2.2.2.2.2.2.2.2.2.2.2.2.2.2.2.2.2.2.2.2.2.2.2.2.2.2.2.2.2.2.2.1 x0 x1 σ h
theorem cQoO.c191 {P : oSt → Prop} {call : oCl} (hc : cQoO P call) (x0 : Option Nat) (x1 : Int32) (x2 : Int32) (σ : oSt) (h : P σ) : PIo P (call 191 [va_rf x0, .int x1, .int x2] σ) := hc.2.2.2.2.2.2.2.2.2.2.2.2.2.2.2.2.2.2.2.2.2.2.2.2.2.2.2.2.2.2.2.2.2.2.2.2.2.2.2.2.2.2.2.2.2.2.2.2.2.2.2.2.2.2.2.2.2.2.2.2.2.2.2.2.2.2.2.2.2.2.2.2.2.2.2.2.2.2.2.2.2.2.2.2.2.2.2.2.2.2.2.2.2.2.2.2.2.2.2.2.2.2.2.2.2.2.2.2.2.2.2.2.2.2.2.2.2.2.2.2.2.2.2.2.2.2.2.2.2.2.2.2.2.2.2.2.2.2.2.2.2.2.2.2.2.2.2.2.2.2.2.2.2.2.2.2.2.2.2.2.2.2.2.2.2.2.2.2.2.2.2.2.2.2.2.2.2.2.2.2.2.2.2.2.2.2.2.1 x0 x1 x2 σ h
theorem cQoO.c192 {P : oSt → Prop} {call : oCl} (hc : cQoO P call) (x0 : Option Nat) (x1 : Int32) (x2 : Int32) (x3 : Int32) (σ : oSt) (h : P σ) : PIo P (call 192 [va_rf x0, .int x1, .int x2, .int x3] σ) := hc.2.2.2.2.2.2.2.2.2.2.2.2.2.2.2.2.2.2.2.2.2.2.2.2.2.2.2.2.2.2.2.2.2.2.2.2.2.2.2.2.2.2.2.2.2.2.2.2.2.2.2.2.2.2.2.2.2.2.2.2.2.2.2.2.2.2.2.2.2.2.2.2.2.2.2.2.2.2.2.2.2.2.2.2.2.2.2.2.2.2.2.2.2.2.2.2.2.2.2.2.2.2.2.2.2.2.2.2.2.2.2.2.2.2.2.2.2.2.2.2.2.2.2.2.2.2.2.2.2.2.2.2.2.2.2.2.2.2.2.2.2.2.2.2.2.2.2.2.2.2.2.2.2.2.2.2.2.2.2.2.2.2.2.2.2.2.2.2.2.2.2.2.2.2.2.2.2.2.2.2.2.2.2.2.2.2.2.2.1 x0 x1 x2 x3 σ h
theorem cQoO.c193 {P : oSt → Prop} {call : oCl} (hc : cQoO P call) (x0 : Option Nat) (x1 : Int32) (σ : oSt) (h : P σ) : PIo P (call 193 [va_rf x0, .int x1] σ) := hc.2.2.2.2.2.2.2.2.2.2.2.2.2.2.2.2.2.2.2.2.2.2.2.2.2.2.2.2.2.2.2.2.2.2.2.2.2.2.2.2.2.2.2.2.2.2.2.2.2.2.2.2.2.2.2.2.2.2.2.2.2.2.2.2.2.2.2.2.2.2.2.2.2.2.2.2.2.2.2.2.2.2.2.2.2.2.2.2.2.2.2.2.2.2.2.2.2.2.2.2.2.2.2.2.2.2.2.2.2.2.2.2.2.2.2.2.2.2.2.2.2.2.2.2.2.2.2.2.2.2.2.2.2.2.2.2.2.2.2.2.2.2.2.2.2.2.2.2.2.2.2.2.2.2.2.2.2.2.2.2.2.2.2.2.2.2.2.2.2.2.2.2.2.2.2.2.2.2.2.2.2.2.2.2.2.2.2.2.2.1 x0 x1 σ h
theorem cQoO.c194 {P : oSt → Prop} {call : oCl} (hc : cQoO P call) (x0 : Option Nat) (σ : oSt) (h : P σ) : PIo P (call 194 [va_rf x0] σ) := hc.2.2.2.2.2.2.2.2.2.2.2.2.2.2.2.2.2.2.2.2.2.2.2.2.2.2.2.2.2.2.2.2.2.2.2.2.2.2.2.2.2.2.2.2.2.2.2.2.2.2.2.2.2.2.2.2.2.2.2.2.2.2.2.2.2.2.2.2.2.2.2.2.2.2.2.2.2.2.2.2.2.2.2.2.2.2.2.2.2.2.2.2.2.2.2.2.2.2.2.2.2.2.2.2.2.2.2.2.2.2.2.2.2.2.2.2.2.2.2.2.2.2.2.2.2.2.2.2.2.2.2.2.2.2.2.2.2.2.2.2.2.2.2.2.2.2.2.2.2.2.2.2.2.2.2.2.2.2.2.2.2.2.2.2.2.2.2.2.2.2.2.2.2.2.2.2.2.2.2.2.2.2.2.2.2.2.2.2.2.2.1 x0 σ h
theorem cQoO.c195 {P : oSt → Prop} {call : oCl} (hc : cQoO P call) (x0 : Option Nat) (σ : oSt) (h : P σ) : PIo P (call 195 [va_rf x0] σ) := hc.2.2.2.2.2.2.2.2.2.2.2.2.2.2.2.2.2.2.2.2.2.2.2.2.2.2.2.2.2.2.2.2.2.2.2.2.2.2.2.2.2.2.2.2.2.2.2.2.2.2.2.2.2.2.2.2.2.2.2.2.2.2.2.2.2.2.2.2.2.2.2.2.2.2.2.2.2.2.2.2.2.2.2.2.2.2.2.2.2.2.2.2.2.2.2.2.2.2.2.2.2.2.2.2.2.2.2.2.2.2.2.2.2.2.2.2.2.2.2.2.2.2.2.2.2.2.2.2.2.2.2.2.2.2.2.2.2.2.2.2.2.2.2.2.2.2.2.2.2.2.2.2.2.2.2.2.2.2.2.2.2.2.2.2.2.2.2.2.2.2.2.2.2.2.2.2.2.2.2.2.2.2.2.2.2.2.2.2.2.2.2.1 x0 σ h
theorem cQoO.c196 {P : oSt → Prop} {call : oCl} (hc : cQoO P call) (x0 : Option Nat) (x1 : Option Nat) (σ : oSt) (h : P σ) : PIo P (call 196 [va_rf x0, va_rf x1] σ) := hc.2.2.2.2.2.2.2.2.2.2.2.2.2.2.2.2.2.2.2.2.2.2.2.2.2.2.2.2.2.2.2.2.2.2.2.2.2.2.2.2.2.2.2.2.2.2.2.2.2.2.2.2.2.2.2.2.2.2.2.2.2.2.2.2.2.2.2.2.2.2.2.2.2.2.2.2.2.2.2.2.2.2.2.2.2.2.2.2.2.2.2.2.2.2.2.2.2.2.2.2.2.2.2.2.2.2.2.2.2.2.2.2.2.2.2.2.2.2.2.2.2.2.2.2.2.2.2.2.2.2.2.2.2.2.2.2.2.2.2.2.2.2.2.2.2.2.2.2.2.2.2.2.2.2.2.2.2.2.2.2.2.2.2.2.2.2.2.2.2.2.2.2.2.2.2.2.2.2.2.2.2.2.2.2.2.2.2.2.2.2.2.2.1 x0 x1 σ h
theorem cQoO.c197 {P : oSt → Prop} {call : oCl} (hc : cQoO P call) (x0 : Option Nat) (x1 : Option Nat) (x2 : Int32) (x3 : Int32) (x4 : Option Nat) (σ : oSt) (h : P σ) : PIo P (call 197 [va_rf x0, va_rf x1, .int x2, .int x3, va_rf x4] σ) := hc.2.2.2.2.2.2.2.2.2.2.2.2.2.2.2.2.2.2.2.2.2.2.2.2.2.2.2.2.2.2.2.2.2.2.2.2.2.2.2.2.2.2.2.2.2.2.2.2.2.2.2.2.2.2.2.2.2.2.2.2.2.2.2.2.2.2.2.2.2.2.2.2.2.2.2.2.2.2.2.2.2.2.2.2.2.2.2.2.2.2.2.2.2.2.2.2.2.2.2.2.2.2.2.2.2.2.2.2.2.2.2.2.2.2.2.2.2.2.2.2.2.2.2.2.2.2.2.2.2.2.2.2.2.2.2.2.2.2.2.2.2.2.2.2.2.2.2.2.2.2.2.2.2.2.2.2.2.2.2.2.2.2.2.2.2.2.2.2.2.2.2.2.2.2.2.2.2.2.2.2.2.2.2.2.2.2.2.2.2.2.2.2.2.1 x0 x1 x2 x3 x4 σ h
theorem cQoO.c198 {P : oSt → Prop} {call : oCl} (hc : cQoO P call) (x0 : Option Nat) (x1 : Int32) (x2 : Int32) (σ : oSt) (h : P σ) : PIo P (call 198 [va_rf x0, .int x1, .int x2] σ) := hc.2.2.2.2.2.2.2.2.2.2.2.2.2.2.2.2.2.2.2.2.2.2.2.2.2.2.2.2.2.2.2.2.2.2.2.2.2.2.2.2.2.2.2.2.2.2.2.2.2.2.2.2.2.2.2.2.2.2.2.2.2.2.2.2.2.2.2.2.2.2.2.2.2.2.2.2.2.2.2.2.2.2.2.2.2.2.2.2.2.2.2.2.2.2.2.2.2.2.2.2.2.2.2.2.2.2.2.2.2.2.2.2.2.2.2.2.2.2.2.2.2.2.2.2.2.2.2.2.2.2.2.2.2.2.2.2.2.2.2.2.2.2.2.2.2.2.2.2.2.2.2.2.2.2.2.2.2.2.2.2.2.2.2.2.2.2.2.2.2.2.2.2.2.2.2.2.2.2.2.2.2.2.2.2.2.2.2.2.2.2.2.2.2.2.1 x0 x1 x2 σ h
theorem cQoO.c199 {P : oSt → Prop} {call : oCl} (hc : cQoO P call) (x0 : Option Nat) (x1 : Int32) (x2 : Option Nat) (x3 : Int32) (x4 : Int32) (σ : oSt) (h : P σ) : PIo P (call 199 [va_rf x0, .int x1, va_rf x2, .int x3, .int x4] σ) := hc.2.2.2.2.2.2.2.2.2.2.2.2.2.2.2.2.2.2.2.2.2.2.2.2.2.2.2.2.2.2.2.2.2.2.2.2.2.2.2.2.2.2.2.2.2.2.2.2.2.2.2.2.2.2.2.2.2.2.2.2.2.2.2.2.2.2.2.2.2.2.2.2.2.2.2.2.2.2.2.2.2.2.2.2.2.2.2.2.2.2.2.2.2.2.2.2.2.2.2.2.2.2.2.2.2.2.2.2.2.2.2.2.2.2.2.2.2.2.2.2.2.2.2.2.2.2.2.2.2.2.2.2.2.2.2.2.2.2.2.2.2.2.2.2.2.2.2.2.2.2.2.2.2.2.2.2.2.2.2.2.2.2.2.2.2.2.2.2.2.2.2.2.2.2.2.2.2.2.2.2.2.2.2.2.2.2.2.2.2.2.2.2.2.2.2.1 x0 x1 x2 x3 x4 σ h
theorem cQoO.c200 {P : oSt → Prop} {call : oCl} (hc : cQoO P call) (x0 : Option Nat) (x1 : Int32) (σ : oSt) (h : P σ) : PIo P (call 200 [va_rf x0, .int x1] σ) := hc.2.2.2.2.2.2.2.2.2.2.2.2.2.2.2.2.2.2.2.2.2.2.2.2.2.2.2.2.2.2.2.2.2.2.2.2.2.2.2.2.2.2.2.2.2.2.2.2.2.2.2.2.2.2.2.2.2.2.2.2.2.2.2.2.2.2.2.2.2.2.2.2.2.2.2.2.2.2.2.2.2.2.2.2.2.2.2.2.2.2.2.2.2.2.2.2.2.2.2.2.2.2.2.2.2.2.2.2.2.2.2.2.2.2.2.2.2.2.2.2.2.2.2.2.2.2.2.2.2.2.2.2.2.2.2.2.2.2.2.2.2.2.2.2.2.2.2.2.2.2.2.2.2.2.2.2.2.2.2.2.2.2.2.2.2.2.2.2.2.2.2.2.2.2.2.2.2.2.2.2.2.2.2.2.2.2.2.2.2.2.2.2.2.2.2.2.1 x0 x1 σ h
theorem cQoO.c201 {P : oSt → Prop} {call : oCl} (hc : cQoO P call) (x0 : Option Nat) (x1 : Int32) (σ : oSt) (h : P σ) : PIo P (call 201 [va_rf x0, .int x1] σ) := hc.2.2.2.2.2.2.2.2.2.2.2.2.2.2.2.2.2.2.2.2.2.2.2.2.2.2.2.2.2.2.2.2.2.2.2.2.2.2.2.2.2.2.2.2.2.2.2.2.2.2.2.2.2.2.2.2.2.2.2.2.2.2.2.2.2.2.2.2.2.2.2.2.2.2.2.2.2.2.2.2.2.2.2.2.2.2.2.2.2.2.2.2.2.2.2.2.2.2.2.2.2.2.2.2.2.2.2.2.2.2.2.2.2.2.2.2.2.2.2.2.2.2.2.2.2.2.2.2.2.2.2.2.2.2.2.2.2.2.2.2.2.2.2.2.2.2.2.2.2.2.2.2.2.2.2.2.2.2.2.2.2.2.2.2.2.2.2.2.2.2.2.2.2.2.2.2.2.2.2.2.2.2.2.2.2.2.2.2.2.2.2.2.2.2.2.2.2.1 x0 x1 σ h
theorem cQoO.c202 {P : oSt → Prop} {call : oCl} (hc : cQoO P call) (x0 : Option Nat) (σ : oSt) (h : P σ) : PIo P (call 202 [va_rf x0] σ) := hc.2.2.2.2.2.2.2.2.2.2.2.2.2.2.2.2.2.2.2.2.2.2.2.2.2.2.2.2.2.2.2.2.2.2.2.2.2.2.2.2.2.2.2.2.2.2.2.2.2.2.2.2.2.2.2.2.2.2.2.2.2.2.2.2.2.2.2.2.2.2.2.2.2.2.2.2.2.2.2.2.2.2.2.2.2.2.2.2.2.2.2.2.2.2.2.2.2.2.2.2.2.2.2.2.2.2.2.2.2.2.2.2.2.2.2.2.2.2.2.2.2.2.2.2.2.2.2.2.2.2.2.2.2.2.2.2.2.2.2.2.2.2.2.2.2.2.2.2.2.2.2.2.2.2.2.2.2.2.2.2.2.2.2.2.2.2.2.2.2.2.2.2.2.2.2.2.2.2.2.2.2.2.2.2.2.2.2.2.2.2.2.2.2.2.2.2.2.2.1 x0 σ h
theorem cQoO.c203 {P : oSt → Prop} {call : oCl} (hc : cQoO P call) (x0 : Option Nat) (x1 : Int32) (σ : oSt) (h : P σ) : PIo P (call 203 [va_rf x0, .int x1] σ) := hc.2.2.2.2.2.2.2.2.2.2.2.2.2.2.2.2.2.2.2.2.2.2.2.2.2.2.2.2.2.2.2.2.2.2.2.2.2.2.2.2.2.2.2.2.2.2.2.2.2.2.2.2.2.2.2.2.2.2.2.2.2.2.2.2.2.2.2.2.2.2.2.2.2.2.2.2.2.2.2.2.2.2.2.2.2.2.2.2.2.2.2.2.2.2.2.2.2.2.2.2.2.2.2.2.2.2.2.2.2.2.2.2.2.2.2.2.2.2.2.2.2.2.2.2.2.2.2.2.2.2.2.2.2.2.2.2.2.2.2.2.2.2.2.2.2.2.2.2.2.2.2.2.2.2.2.2.2.2.2.2.2.2.2.2.2.2.2.2.2.2.2.2.2.2.2.2.2.2.2.2.2.2.2.2.2.2.2.2.2.2.2.2.2.2.2.2.2.2.2.1 x0 x1 σ h
theorem cQoO.c204 {P : oSt → Prop} {call : oCl} (hc : cQoO P call) (x0 : Int32) (x1 : Int32) (σ : oSt) (h : P σ) : PIo P (call 204 [.int x0, .int x1] σ) := hc.2.2.2.2.2.2.2.2.2.2.2.2.2.2.2.2.2.2.2.2.2.2.2.2.2.2.2.2.2.2.2.2.2.2.2.2.2.2.2.2.2.2.2.2.2.2.2.2.2.2.2.2.2.2.2.2.2.2.2.2.2.2.2.2.2.2.2.2.2.2.2.2.2.2.2.2.2.2.2.2.2.2.2.2.2.2.2.2.2.2.2.2.2.2.2.2.2.2.2.2.2.2.2.2.2.2.2.2.2.2.2.2.2.2.2.2.2.2.2.2.2.2.2.2.2.2.2.2.2.2.2.2.2.2.2.2.2.2.2.2.2.2.2.2.2.2.2.2.2.2.2.2.2.2.2.2.2.2.2.2.2.2.2.2.2.2.2.2.2.2.2.2.2.2.2.2.2.2.2.2.2.2.2.2.2.2.2.2.2.2.2.2.2.2.2.2.2.2.2.2.1 x0 x1 σ h
theorem cQoO.c205 {P : oSt → Prop} {call : oCl} (hc : cQoO P call) (x0 : Int32) (x1 : Int32) (σ : oSt) (h : P σ) : PIo P (call 205 [.int x0, .int x1] σ) := hc.2.2.2.2.2.2.2.2.2.2.2.2.2.2.2.2.2.2.2.2.2.2.2.2.2.2.2.2.2.2.2.2.2.2.2.2.2.2.2.2.2.2.2.2.2.2.2.2.2.2.2.2.2.2.2.2.2.2.2.2.2.2.2.2.2.2.2.2.2.2.2.2.2.2.2.2.2.2.2.2.2.2.2.2.2.2.2.2.2.2.2.2.2.2.2.2.2.2.2.2.2.2.2.2.2.2.2.2.2.2.2.2.2.2.2.2.2.2.2.2.2.2.2.2.2.2.2.2.2.2.2.2.2.2.2.2.2.2.2.2.2.2.2.2.2.2.2.2.2.2.2.2.2.2.2.2.2.2.2.2.2.2.2.2.2.2.2.2.2.2.2.2.2.2.2.2.2.2.2.2.2.2.2.2.2.2.2.2.2.2.2.2.2.2.2.2.2.2.2.2.2.1 x0 x1 σ h
theorem cQoO.c206 {P : oSt → Prop} {call : oCl} (hc : cQoO P call) (x0 : Int32) (x1 : Int32) (x2 : Option Nat) (σ : oSt) (h : P σ) : PIo P (call 206 [.int x0, .int x1, va_rf x2] σ) := hc.2.2.2.2.2.2.2.2.2.2.2.2.2.2.2.2.2.2.2.2.2.2.2.2.2.2.2.2.2.2.2.2.2.2.2.2.2.2.2.2.2.2.2.2.2.2.2.2.2.2.2.2.2.2.2.2.2.2.2.2.2.2.2.2.2.2.2.2.2.2.2.2.2.2.2.2.2.2.2.2.2.2.2.2.2.2.2.2.2.2.2.2.2.2.2.2.2.2.2.2.2.2.2.2.2.2.2.2.2.2.2.2.2.2.2.2.2.2.2.2.2.2.2.2.2.2.2.2.2.2.2.2.2.2.2.2.2.2.2.2.2.2.2.2.2.2.2.2.2.2.2.2.2.2.2.2.2.2.2.2.2.2.2.2.2.2.2.2.2.2.2.2.2.2.2.2.2.2.2.2.2.2.2.2.2.2.2.2.2.2.2.2.2.2.2.2.2.2.2.2.2.2.1 x0 x1 x2 σ h
theorem cQoO.c207 {P : oSt → Prop} {call : oCl} (hc : cQoO P call) (x0 : Option Nat) (σ : oSt) (h : P σ) : PIo P (call 207 [va_rf x0] σ) := hc.2.2.2.2.2.2.2.2.2.2.2.2.2.2.2.2.2.2.2.2.2.2.2.2.2.2.2.2.2.2.2.2.2.2.2.2.2.2.2.2.2.2.2.2.2.2.2.2.2.2.2.2.2.2.2.2.2.2.2.2.2.2.2.2.2.2.2.2.2.2.2.2.2.2.2.2.2.2.2.2.2.2.2.2.2.2.2.2.2.2.2.2.2.2.2.2.2.2.2.2.2.2.2.2.2.2.2.2.2.2.2.2.2.2.2.2.2.2.2.2.2.2.2.2.2.2.2.2.2.2.2.2.2.2.2.2.2.2.2.2.2.2.2.2.2.2.2.2.2.2.2.2.2.2.2.2.2.2.2.2.2.2.2.2.2.2.2.2.2.2.2.2.2.2.2.2.2.2.2.2.2.2.2.2.2.2.2.2.2.2.2.2.2.2.2.2.2.2.2.2.2.2.2.1 x0 σ h
theorem cQoO.c208 {P : oSt → Prop} {call : oCl} (hc : cQoO P call) (x0 : Option Nat) (σ : oSt) (h : P σ) : PIo P (call 208 [va_rf x0] σ) := hc.2.2.2.2.2.2.2.2.2.2.2.2.2.2.2.2.2.2.2.2.2.2.2.2.2.2.2.2.2.2.2.2.2.2.2.2.2.2.2.2.2.2.2.2.2.2.2.2.2.2.2.2.2.2.2.2.2.2.2.2.2.2.2.2.2.2.2.2.2.2.2.2.2.2.2.2.2.2.2.2.2.2.2.2.2.2.2.2.2.2.2.2.2.2.2.2.2.2.2.2.2.2.2.2.2.2.2.2.2.2.2.2.2.2.2.2.2.2.2.2.2.2.2.2.2.2.2.2.2.2.2.2.2.2.2.2.2.2.2.2.2.2.2.2.2.2.2.2.2.2.2.2.2.2.2.2.2.2.2.2.2.2.2.2.2.2.2.2.2.2.2.2.2.2.2.2.2.2.2.2.2.2.2.2.2.2.2.2.2.2.2.2.2.2.2.2.2.2.2.2.2.2.2.2.1 x0 σ h
theorem cQoO.c209 {P : oSt → Prop} {call : oCl} (hc : cQoO P call) (x0 : Option Nat) (x1 : Int32) (x2 : Int32) (σ : oSt) (h : P σ) : PIo P (call 209 [va_rf x0, .int x1, .int x2] σ) := hc.2.2.2.2.2.2.2.2.2.2.2.2.2.2.2.2.2.2.2.2.2.2.2.2.2.2.2.2.2.2.2.2.2.2.2.2.2.2.2.2.2.2.2.2.2.2.2.2.2.2.2.2.2.2.2.2.2.2.2.2.2.2.2.2.2.2.2.2.2.2.2.2.2.2.2.2.2.2.2.2.2.2.2.2.2.2.2.2.2.2.2.2.2.2.2.2.2.2.2.2.2.2.2.2.2.2.2.2.2.2.2.2.2.2.2.2.2.2.2.2.2.2.2.2.2.2.2.2.2.2.2.2.2.2.2.2.2.2.2.2.2.2.2.2.2.2.2.2.2.2.2.2.2.2.2.2.2.2.2.2.2.2.2.2.2.2.2.2.2.2.2.2.2.2.2.2.2.2.2.2.2.2.2.2.2.2.2.2.2.2.2.2.2.2.2.2.2.2.2.2.2.2.2.2.2.1 x0 x1 x2 σ h
theorem cQoO.c210 {P : oSt → Prop} {call : oCl} (hc : cQoO P call) (x0 : Int32) (x1 : Int32) (x2 : Int32) (σ : oSt) (h : P σ) : PIo P (call 210 [.int x0, .int x1, .int x2] σ) := hc.2.2.2.2.2.2.2.2.2.2.2.2.2.2.2.2.2.2.2.2.2.2.2.2.2.2.2.2.2.2.2.2.2.2.2.2.2.2.2.2.2.2.2.2.2.2.2.2.2.2.2.2.2.2.2.2.2.2.2.2.2.2.2.2.2.2.2.2.2.2.2.2.2.2.2.2.2.2.2.2.2.2.2.2.2.2.2.2.2.2.2.2.2.2.2.2.2.2.2.2.2.2.2.2.2.2.2.2.2.2.2.2.2.2.2.2.2.2.2.2.2.2.2.2.2.2.2.2.2.2.2.2.2.2.2.2.2.2.2.2.2.2.2.2.2.2.2.2.2.2.2.2.2.2.2.2.2.2.2.2.2.2.2.2.2.2.2.2.2.2.2.2.2.2.2.2.2.2.2.2.2.2.2.2.2.2.2.2.2.2.2.2.2.2.2.2.2.2.2.2.2.2.2.2.2.2.1 x0 x1 x2 σ h
theorem cQoO.c211 {P : oSt → Prop} {call : oCl} (hc : cQoO P call) (x0 : Int32) (x1 : Int32) (x2 : Int32) (x3 : Option Nat) (σ : oSt) (h : P σ) : PIo P (call 211 [.int x0, .int x1, .int x2, va_rf x3] σ) := hc.2.2.2.2.2.2.2.2.2.2.2.2.2.2.2.2.2.2.2.2.2.2.2.2.2.2.2.2.2.2.2.2.2.2.2.2.2.2.2.2.2.2.2.2.2.2.2.2.2.2.2.2.2.2.2.2.2.2.2.2.2.2.2.2.2.2.2.2.2.2.2.2.2.2.2.2.2.2.2.2.2.2.2.2.2.2.2.2.2.2.2.2.2.2.2.2.2.2.2.2.2.2.2.2.2.2.2.2.2.2.2.2.2.2.2.2.2.2.2.2.2.2.2.2.2.2.2.2.2.2.2.2.2.2.2.2.2.2.2.2.2.2.2.2.2.2.2.2.2.2.2.2.2.2.2.2.2.2.2.2.2.2.2.2.2.2.2.2.2.2.2.2.2.2.2.2.2.2.2.2.2.2.2.2.2.2.2.2.2.2.2.2.2.2.2.2.2.2.2.2.2.2.2.2.2.2.2.1 x0 x1 x2 x3 σ h
theorem cQoO.c212 {P : oSt → Prop} {call : oCl} (hc : cQoO P call) (x0 : Option Nat) (x1 : Int32) (x2 : Int32) (σ : oSt) (h : P σ) : PIo P (call 212 [va_rf x0, .int x1, .int x2] σ) := hc.2.2.2.2.2.2.2.2.2.2.2.2.2.2.2.2.2.2.2.2.2.2.2.2.2.2.2.2.2.2.2.2.2.2.2.2.2.2.2.2.2.2.2.2.2.2.2.2.2.2.2.2.2.2.2.2.2.2.2.2.2.2.2.2.2.2.2.2.2.2.2.2.2.2.2.2.2.2.2.2.2.2.2.2.2.2.2.2.2.2.2.2.2.2.2.2.2.2.2.2.2.2.2.2.2.2.2.2.2.2.2.2.2.2.2.2.2.2.2.2.2.2.2.2.2.2.2.2.2.2.2.2.2.2.2.2.2.2.2.2.2.2.2.2.2.2.2.2.2.2.2.2.2.2.2.2.2.2.2.2.2.2.2.2.2.2.2.2.2.2.2.2.2.2.2.2.2.2.2.2.2.2.2.2.2.2.2.2.2.2.2.2.2.2.2.2.2.2.2.2.2.2.2.2.2.2.2.2.1 x0 x1 x2 σ h
theorem cQoO.c213 {P : oSt → Prop} {call : oCl} (hc : cQoO P call) (x0 : Option Nat) (x1 : Int32) (x2 : Int32) (σ : oSt) (h : P σ) : PIo P (call 213 [va_rf x0, .int x1, .int x2] σ) := hc.2.2.2.2.2.2.2.2.2.2.2.2.2.2.2.2.2.2.2.2.2.2.2.2.2.2.2.2.2.2.2.2.2.2.2.2.2.2.2.2.2.2.2.2.2.2.2.2.2.2.2.2.2.2.2.2.2.2.2.2.2.2.2.2.2.2.2.2.2.2.2.2.2.2.2.2.2.2.2.2.2.2.2.2.2.2.2.2.2.2.2.2.2.2.2.2.2.2.2.2.2.2.2.2.2.2.2.2.2.2.2.2.2.2.2.2.2.2.2.2.2.2.2.2.2.2.2.2.2.2.2.2.2.2.2.2.2.2.2.2.2.2.2.2.2.2.2.2.2.2.2.2.2.2.2.2.2.2.2.2.2.2.2.2.2.2.2.2.2.2.2.2.2.2.2.2.2.2.2.2.2.2.2.2.2.2.2.2.2.2.2.2.2.2.2.2.2.2.2.2.2.2.2.2.2.2.2.2.2.1 x0 x1 x2 σ h
theorem cQoO.c214 {P : oSt → Prop} {call : oCl} (hc : cQoO P call) (x0 : Option Nat) (x1 : Int32) (x2 : Int32) (σ : oSt) (h : P σ) : PIo P (call 214 [va_rf x0, .int x1, .int x2] σ) := hc.2.2.2.2.2.2.2.2.2.2.2.2.2.2.2.2.2.2.2.2.2.2.2.2.2.2.2.2.2.2.2.2.2.2.2.2.2.2.2.2.2.2.2.2.2.2.2.2.2.2.2.2.2.2.2.2.2.2.2.2.2.2.2.2.2.2.2.2.2.2.2.2.2.2.2.2.2.2.2.2.2.2.2.2.2.2.2.2.2.2.2.2.2.2.2.2.2.2.2.2.2.2.2.2.2.2.2.2.2.2.2.2.2.2.2.2.2.2.2.2.2.2.2.2.2.2.2.2.2.2.2.2.2.2.2.2.2.2.2.2.2.2.2.2.2.2.2.2.2.2.2.2.2.2.2.2.2.2.2.2.2.2.2.2.2.2.2.2.2.2.2.2.2.2.2.2.2.2.2.2.2.2.2.2.2.2.2.2.2.2.2.2.2.2.2.2.2.2.2.2.2.2.2.2.2.2.2.2.2.2.1 x0 x1 x2 σ h
theorem cQoO.c215 {P : oSt → Prop} {call : oCl} (hc : cQoO P call) (x0 : Int32) (x1 : Int32) (σ : oSt) (h : P σ) : PIo P (call 215 [.int x0, .int x1] σ) := hc.2.2.2.2.2.2.2.2.2.2.2.2.2.2.2.2.2.2.2.2.2.2.2.2.2.2.2.2.2.2.2.2.2.2.2.2.2.2.2.2.2.2.2.2.2.2.2.2.2.2.2.2.2.2.2.2.2.2.2.2.2.2.2.2.2.2.2.2.2.2.2.2.2.2.2.2.2.2.2.2.2.2.2.2.2.2.2.2.2.2.2.2.2.2.2.2.2.2.2.2.2.2.2.2.2.2.2.2.2.2.2.2.2.2.2.2.2.2.2.2.2.2.2.2.2.2.2.2.2.2.2.2.2.2.2.2.2.2.2.2.2.2.2.2.2.2.2.2.2.2.2.2.2.2.2.2.2.2.2.2.2.2.2.2.2.2.2.2.2.2.2.2.2.2.2.2.2.2.2.2.2.2.2.2.2.2.2.2.2.2.2.2.2.2.2.2.2.2.2.2.2.2.2.2.2.2.2.2.2.2.2.1 x0 x1 σ h
theorem cQoO.c216 {P : oSt → Prop} {call : oCl} (hc : cQoO P call) (x0 : Option Nat) (x1 : Option Nat) (x2 : Int32) (σ : oSt) (h : P σ) : PIo P (call 216 [va_rf x0, va_rf x1, .int x2] σ) := hc.2.2.2.2.2.2.2.2.2.2.2.2.2.2.2.2.2.2.2.2.2.2.2.2.2.2.2.2.2.2.2.2.2.2.2.2.2.2.2.2.2.2.2.2.2.2.2.2.2.2.2.2.2.2.2.2.2.2.2.2.2.2.2.2.2.2.2.2.2.2.2.2.2.2.2.2.2.2.2.2.2.2.2.2.2.2.2.2.2.2.2.2.2.2.2.2.2.2.2.2.2.2.2.2.2.2.2.2.2.2.2.2.2.2.2.2.2.2.2.2.2.2.2.2.2.2.2.2.2.2.2.2.2.2.2.2.2.2.2.2.2.2.2.2.2.2.2.2.2.2.2.2.2.2.2.2.2.2.2.2.2.2.2.2.2.2.2.2.2.2.2.2.2.2.2.2.2.2.2.2.2.2.2.2.2.2.2.2.2.2.2.2.2.2.2.2.2.2.2.2.2.2.2.2.2.2.2.2.2.2.2.2.1 x0 x1 x2 σ h
theorem cQoO.c217 {P : oSt → Prop} {call : oCl} (hc : cQoO P call) (x0 : Option Nat) (x1 : Option Nat) (σ : oSt) (h : P σ) : PIo P (call 217 [va_rf x0, va_rf x1] σ) := hc.2.2.2.2.2.2.2.2.2.2.2.2.2.2.2.2.2.2.2.2.2.2.2.2.2.2.2.2.2.2.2.2.2.2.2.2.2.2.2.2.2.2.2.2.2.2.2.2.2.2.2.2.2.2.2.2.2.2.2.2.2.2.2.2.2.2.2.2.2.2.2.2.2.2.2.2.2.2.2.2.2.2.2.2.2.2.2.2.2.2.2.2.2.2.2.2.2.2.2.2.2.2.2.2.2.2.2.2.2.2.2.2.2.2.2.2.2.2.2.2.2.2.2.2.2.2.2.2.2.2.2.2.2.2.2.2.2.2.2.2.2.2.2.2.2.2.2.2.2.2.2.2.2.2.2.2.2.2.2.2.2.2.2.2.2.2.2.2.2.2.2.2.2.2.2.2.2.2.2.2.2.2.2.2.2.2.2.2.2.2.2.2.2.2.2.2.2.2.2.2.2.2.2.2.2.2.2.2.2.2.2.2.2.1 x0 x1 σ h
theorem cQoO.c218 {P : oSt → Prop} {call : oCl} (hc : cQoO P call) (x0 : Option Nat) (x1 : Option Nat) (σ : oSt) (h : P σ) : PIo P (call 218 [va_rf x0, va_rf x1] σ) := hc.2.2.2.2.2.2.2.2.2.2.2.2.2.2.2.2.2.2.2.2.2.2.2.2.2.2.2.2.2.2.2.2.2.2.2.2.2.2.2.2.2.2.2.2.2.2.2.2.2.2.2.2.2.2.2.2.2.2.2.2.2.2.2.2.2.2.2.2.2.2.2.2.2.2.2.2.2.2.2.2.2.2.2.2.2.2.2.2.2.2.2.2.2.2.2.2.2.2.2.2.2.2.2.2.2.2.2.2.2.2.2.2.2.2.2.2.2.2.2.2.2.2.2.2.2.2.2.2.2.2.2.2.2.2.2.2.2.2.2.2.2.2.2.2.2.2.2.2.2.2.2.2.2.2.2.2.2.2.2.2.2.2.2.2.2.2.2.2.2.2.2.2.2.2.2.2.2.2.2.2.2.2.2.2.2.2.2.2.2.2.2.2.2.2.2.2.2.2.2.2.2.2.2.2.2.2.2.2.2.2.2.2.2.2.1 x0 x1 σ h
theorem cQoO.c219 {P : oSt → Prop} {call : oCl} (hc : cQoO P call) (x0 : Option Nat) (x1 : Int32) (σ : oSt) (h : P σ) : PIo P (call 219 [va_rf x0, .int x1] σ) := hc.2.2.2.2.2.2.2.2.2.2.2.2.2.2.2.2.2.2.2.2.2.2.2.2.2.2.2.2.2.2.2.2.2.2.2.2.2.2.2.2.2.2.2.2.2.2.2.2.2.2.2.2.2.2.2.2.2.2.2.2.2.2.2.2.2.2.2.2.2.2.2.2.2.2.2.2.2.2.2.2.2.2.2.2.2.2.2.2.2.2.2.2.2.2.2.2.2.2.2.2.2.2.2.2.2.2.2.2.2.2.2.2.2.2.2.2.2.2.2.2.2.2.2.2.2.2.2.2.2.2.2.2.2.2.2.2.2.2.2.2.2.2.2.2.2.2.2.2.2.2.2.2.2.2.2.2.2.2.2.2.2.2.2.2.2.2.2.2.2.2.2.2.2.2.2.2.2.2.2.2.2.2.2.2.2.2.2.2.2.2.2.2.2.2.2.2.2.2.2.2.2.2.2.2.2.2.2.2.2.2.2.2.2.2.2.1 x0 x1 σ h
theorem cQoO.c220 {P : oSt → Prop} {call : oCl} (hc : cQoO P call) (x0 : Option Nat) (x1 : Int32) (x2 : Int32) (σ : oSt) (h : P σ) : PIo P (call 220 [va_rf x0, .int x1, .int x2] σ) := hc.2.2.2.2.2.2.2.2.2.2.2.2.2.2.2.2.2.2.2.2.2.2.2.2.2.2.2.2.2.2.2.2.2.2.2.2.2.2.2.2.2.2.2.2.2.2.2.2.2.2.2.2.2.2.2.2.2.2.2.2.2.2.2.2.2.2.2.2.2.2.2.2.2.2.2.2.2.2.2.2.2.2.2.2.2.2.2.2.2.2.2.2.2.2.2.2.2.2.2.2.2.2.2.2.2.2.2.2.2.2.2.2.2.2.2.2.2.2.2.2.2.2.2.2.2.2.2.2.2.2.2.2.2.2.2.2.2.2.2.2.2.2.2.2.2.2.2.2.2.2.2.2.2.2.2.2.2.2.2.2.2.2.2.2.2.2.2.2.2.2.2.2.2.2.2.2.2.2.2.2.2.2.2.2.2.2.2.2.2.2.2.2.2.2.2.2.2.2.2.2.2.2.2.2.2.2.2.2.2.2.2.2.2.2.2.2.1 x0 x1 x2 σ h
theorem cQoO.c221 {P : oSt → Prop} {call : oCl} (hc : cQoO P call) (x0 : Option Nat) (x1 : Int32) (x2 : Int32) (x3 : Int32) (σ : oSt) (h : P σ) : PIo P (call 221 [va_rf x0, .int x1, .int x2, .int x3] σ) := hc.2.2.2.2.2.2.2.2.2.2.2.2.2.2.2.2.2.2.2.2.2.2.2.2.2.2.2.2.2.2.2.2.2.2.2.2.2.2.2.2.2.2.2.2.2.2.2.2.2.2.2.2.2.2.2.2.2.2.2.2.2.2.2.2.2.2.2.2.2.2.2.2.2.2.2.2.2.2.2.2.2.2.2.2.2.2.2.2.2.2.2.2.2.2.2.2.2.2.2.2.2.2.2.2.2.2.2.2.2.2.2.2.2.2.2.2.2.2.2.2.2.2.2.2.2.2.2.2.2.2.2.2.2.2.2.2.2.2.2.2.2.2.2.2.2.2.2.2.2.2.2.2.2.2.2.2.2.2.2.2.2.2.2.2.2.2.2.2.2.2.2.2.2.2.2.2.2.2.2.2.2.2.2.2.2.2.2.2.2.2.2.2.2.2.2.2.2.2.2.2.2.2.2.2.2.2.2.2.2.2.2.2.2.2.2.2.2.1 x0 x1 x2 x3 σ h
theorem cQoO.c222 {P : oSt → Prop} {call : oCl} (hc : cQoO P call) (x0 : Int32) (σ : oSt) (h : P σ) : PIo P (call 222 [.int x0] σ) := hc.2.2.2.2.2.2.2.2.2.2.2.2.2.2.2.2.2.2.2.2.2.2.2.2.2.2.2.2.2.2.2.2.2.2.2.2.2.2.2.2.2.2.2.2.2.2.2.2.2.2.2.2.2.2.2.2.2.2.2.2.2.2.2.2.2.2.2.2.2.2.2.2.2.2.2.2.2.2.2.2.2.2.2.2.2.2.2.2.2.2.2.2.2.2.2.2.2.2.2.2.2.2.2.2.2.2.2.2.2.2.2.2.2.2.2.2.2.2.2.2.2.2.2.2.2.2.2.2.2.2.2.2.2.2.2.2.2.2.2.2.2.2.2.2.2.2.2.2.2.2.2.2.2.2.2.2.2.2.2.2.2.2.2.2.2.2.2.2.2.2.2.2.2.2.2.2.2.2.2.2.2.2.2.2.2.2.2.2.2.2.2.2.2.2.2.2.2.2.2.2.2.2.2.2.2.2.2.2.2.2.2.2.2.2.2.2.2.2.1 x0 σ h
theorem cQoO.c223 {P : oSt → Prop} {call : oCl} (hc : cQoO P call) (x0 : Option Nat) (x1 : Int32) (x2 : Int32) (x3 : Int32) (σ : oSt) (h : P σ) : PIo P (call 223 [va_rf x0, .int x1, .int x2, .int x3] σ) := hc.2.2.2.2.2.2.2.2.2.2.2.2.2.2.2.2.2.2.2.2.2.2.2.2.2.2.2.2.2.2.2.2.2.2.2.2.2.2.2.2.2.2.2.2.2.2.2.2.2.2.2.2.2.2.2.2.2.2.2.2.2.2.2.2.2.2.2.2.2.2.2.2.2.2.2.2.2.2.2.2.2.2.2.2.2.2.2.2.2.2.2.2.2.2.2.2.2.2.2.2.2.2.2.2.2.2.2.2.2.2.2.2.2.2.2.2.2.2.2.2.2.2.2.2.2.2.2.2.2.2.2.2.2.2.2.2.2.2.2.2.2.2.2.2.2.2.2.2.2.2.2.2.2.2.2.2.2.2.2.2.2.2.2.2.2.2.2.2.2.2.2.2.2.2.2.2.2.2.2.2.2.2.2.2.2.2.2.2.2.2.2.2.2.2.2.2.2.2.2.2.2.2.2.2.2.2.2.2.2.2.2.2.2.2.2.2.2.2.2.1 x0 x1 x2 x3 σ h
theorem cQoO.c224 {P : oSt → Prop} {call : oCl} (hc : cQoO P call) (x0 : Option Nat) (σ : oSt) (h : P σ) : PIo P (call 224 [va_rf x0] σ) := hc.2.2.2.2.2.2.2.2.2.2.2.2.2.2.2.2.2.2.2.2.2.2.2.2.2.2.2.2.2.2.2.2.2.2.2.2.2.2.2.2.2.2.2.2.2.2.2.2.2.2.2.2.2.2.2.2.2.2.2.2.2.2.2.2.2.2.2.2.2.2.2.2.2.2.2.2.2.2.2.2.2.2.2.2.2.2.2.2.2.2.2.2.2.2.2.2.2.2.2.2.2.2.2.2.2.2.2.2.2.2.2.2.2.2.2.2.2.2.2.2.2.2.2.2.2.2.2.2.2.2.2.2.2.2.2.2.2.2.2.2.2.2.2.2.2.2.2.2.2.2.2.2.2.2.2.2.2.2.2.2.2.2.2.2.2.2.2.2.2.2.2.2.2.2.2.2.2.2.2.2.2.2.2.2.2.2.2.2.2.2.2.2.2.2.2.2.2.2.2.2.2.2.2.2.2.2.2.2.2.2.2.2.2.2.2.2.2.2.2.2.1 x0 σ h
theorem cQoO.c225 {P : oSt → Prop} {call : oCl} (hc : cQoO P call) (x0 : Option Nat) (σ : oSt) (h : P σ) : PIo P (call 225 [va_rf x0] σ) := hc.2.2.2.2.2.2.2.2.2.2.2.2.2.2.2.2.2.2.2.2.2.2.2.2.2.2.2.2.2.2.2.2.2.2.2.2.2.2.2.2.2.2.2.2.2.2.2.2.2.2.2.2.2.2.2.2.2.2.2.2.2.2.2.2.2.2.2.2.2.2.2.2.2.2.2.2.2.2.2.2.2.2.2.2.2.2.2.2.2.2.2.2.2.2.2.2.2.2.2.2.2.2.2.2.2.2.2.2.2.2.2.2.2.2.2.2.2.2.2.2.2.2.2.2.2.2.2.2.2.2.2.2.2.2.2.2.2.2.2.2.2.2.2.2.2.2.2.2.2.2.2.2.2.2.2.2.2.2.2.2.2.2.2.2.2.2.2.2.2.2.2.2.2.2.2.2.2.2.2.2.2.2.2.2.2.2.2.2.2.2.2.2.2.2.2.2.2.2.2.2.2.2.2.2.2.2.2.2.2.2.2.2.2.2.2.2.2.2.2.2.2.1 x0 σ h
theorem cQoO.c226 {P : oSt → Prop} {call : oCl} (hc : cQoO P call) (x0 : Option Nat) (σ : oSt) (h : P σ) : PIo P (call 226 [va_rf x0] σ) := hc.2.2.2.2.2.2.2.2.2.2.2.2.2.2.2.2.2.2.2.2.2.2.2.2.2.2.2.2.2.2.2.2.2.2.2.2.2.2.2.2.2.2.2.2.2.2.2.2.2.2.2.2.2.2.2.2.2.2.2.2.2.2.2.2.2.2.2.2.2.2.2.2.2.2.2.2.2.2.2.2.2.2.2.2.2.2.2.2.2.2.2.2.2.2.2.2.2.2.2.2.2.2.2.2.2.2.2.2.2.2.2.2.2.2.2.2.2.2.2.2.2.2.2.2.2.2.2.2.2.2.2.2.2.2.2.2.2.2.2.2.2.2.2.2.2.2.2.2.2.2.2.2.2.2.2.2.2.2.2.2.2.2.2.2.2.2.2.2.2.2.2.2.2.2.2.2.2.2.2.2.2.2.2.2.2.2.2.2.2.2.2.2.2.2.2.2.2.2.2.2.2.2.2.2.2.2.2.2.2.2.2.2.2.2.2.2.2.2.2.2.2.2.1 x0 σ h
theorem cQoO.c227 {P : oSt → Prop} {call : oCl} (hc : cQoO P call) (x0 : Option Nat) (x1 : Option Nat) (σ : oSt) (h : P σ) : PIo P (call 227 [va_rf x0, va_rf x1] σ) := hc.2.2.2.2.2.2.2.2.2.2.2.2.2.2.2.2.2.2.2.2.2.2.2.2.2.2.2.2.2.2.2.2.2.2.2.2.2.2.2.2.2.2.2.2.2.2.2.2.2.2.2.2.2.2.2.2.2.2.2.2.2.2.2.2.2.2.2.2.2.2.2.2.2.2.2.2.2.2.2.2.2.2.2.2.2.2.2.2.2.2.2.2.2.2.2.2.2.2.2.2.2.2.2.2.2.2.2.2.2.2.2.2.2.2.2.2.2.2.2.2.2.2.2.2.2.2.2.2.2.2.2.2.2.2.2.2.2.2.2.2.2.2.2.2.2.2.2.2.2.2.2.2.2.2.2.2.2.2.2.2.2.2.2.2.2.2.2.2.2.2.2.2.2.2.2.2.2.2.2.2.2.2.2.2.2.2.2.2.2.2.2.2.2.2.2.2.2.2.2.2.2.2.2.2.2.2.2.2.2.2.2.2.2.2.2.2.2.2.2.2.2.2.2.1 x0 x1 σ h
theorem cQoO.c228 {P : oSt → Prop} {call : oCl} (hc : cQoO P call) (x0 : Option Nat) (x1 : Option Nat) (x2 : Option Nat) (x3 : Int32) (σ : oSt) (h : P σ) : PIo P (call 228 [va_rf x0, va_rf x1, va_rf x2, .int x3] σ) := hc.2.2.2.2.2.2.2.2.2.2.2.2.2.2.2.2.2.2.2.2.2.2.2.2.2.2.2.2.2.2.2.2.2.2.2.2.2.2.2.2.2.2.2.2.2.2.2.2.2.2.2.2.2.2.2.2.2.2.2.2.2.2.2.2.2.2.2.2.2.2.2.2.2.2.2.2.2.2.2.2.2.2.2.2.2.2.2.2.2.2.2.2.2.2.2.2.2.2.2.2.2.2.2.2.2.2.2.2.2.2.2.2.2.2.2.2.2.2.2.2.2.2.2.2.2.2.2.2.2.2.2.2.2.2.2.2.2.2.2.2.2.2.2.2.2.2.2.2.2.2.2.2.2.2.2.2.2.2.2.2.2.2.2.2.2.2.2.2.2.2.2.2.2.2.2.2.2.2.2.2.2.2.2.2.2.2.2.2.2.2.2.2.2.2.2.2.2.2.2.2.2.2.2.2.2.2.2.2.2.2.2.2.2.2.2.2.2.2.2.2.2.2.2.2.1 x0 x1 x2 x3 σ h
theorem cQoO.c229 {P : oSt → Prop} {call : oCl} (hc : cQoO P call) (x0 : Option Nat) (σ : oSt) (h : P σ) : PIo P (call 229 [va_rf x0] σ) := hc.2.2.2.2.2.2.2.2.2.2.2.2.2.2.2.2.2.2.2.2.2.2.2.2.2.2.2.2.2.2.2.2.2.2.2.2.2.2.2.2.2.2.2.2.2.2.2.2.2.2.2.2.2.2.2.2.2.2.2.2.2.2.2.2.2.2.2.2.2.2.2.2.2.2.2.2.2.2.2.2.2.2.2.2.2.2.2.2.2.2.2.2.2.2.2.2.2.2.2.2.2.2.2.2.2.2.2.2.2.2.2.2.2.2.2.2.2.2.2.2.2.2.2.2.2.2.2.2.2.2.2.2.2.2.2.2.2.2.2.2.2.2.2.2.2.2.2.2.2.2.2.2.2.2.2.2.2.2.2.2.2.2.2.2.2.2.2.2.2.2.2.2.2.2.2.2.2.2.2.2.2.2.2.2.2.2.2.2.2.2.2.2.2.2.2.2.2.2.2.2.2.2.2.2.2.2.2.2.2.2.2.2.2.2.2.2.2.2.2.2.2.2.2.2.2.1 x0 σ h
theorem cQoO.c230 {P : oSt → Prop} {call : oCl} (hc : cQoO P call) (x0 : Option Nat) (x1 : Int32) (σ : oSt) (h : P σ) : PIo P (call 230 [va_rf x0, .int x1] σ) := hc.2.2.2.2.2.2.2.2.2.2.2.2.2.2.2.2.2.2.2.2.2.2.2.2.2.2.2.2.2.2.2.2.2.2.2.2.2.2.2.2.2.2.2.2.2.2.2.2.2.2.2.2.2.2.2.2.2.2.2.2.2.2.2.2.2.2.2.2.2.2.2.2.2.2.2.2.2.2.2.2.2.2.2.2.2.2.2.2.2.2.2.2.2.2.2.2.2.2.2.2.2.2.2.2.2.2.2.2.2.2.2.2.2.2.2.2.2.2.2.2.2.2.2.2.2.2.2.2.2.2.2.2.2.2.2.2.2.2.2.2.2.2.2.2.2.2.2.2.2.2.2.2.2.2.2.2.2.2.2.2.2.2.2.2.2.2.2.2.2.2.2.2.2.2.2.2.2.2.2.2.2.2.2.2.2.2.2.2.2.2.2.2.2.2.2.2.2.2.2.2.2.2.2.2.2.2.2.2.2.2.2.2.2.2.2.2.2.2.2.2.2.2.2.2.2.2.1 x0 x1 σ h
theorem cQoO.c231 {P : oSt → Prop} {call : oCl} (hc : cQoO P call) (x0 : Int32) (x1 : Int32) (x2 : Int32) (σ : oSt) (h : P σ) : PIo P (call 231 [.int x0, .int x1, .int x2] σ) := hc.2.2.2.2.2.2.2.2.2.2.2.2.2.2.2.2.2.2.2.2.2.2.2.2.2.2.2.2.2.2.2.2.2.2.2.2.2.2.2.2.2.2.2.2.2.2.2.2.2.2.2.2.2.2.2.2.2.2.2.2.2.2.2.2.2.2.2.2.2.2.2.2.2.2.2.2.2.2.2.2.2.2.2.2.2.2.2.2.2.2.2.2.2.2.2.2.2.2.2.2.2.2.2.2.2.2.2.2.2.2.2.2.2.2.2.2.2.2.2.2.2.2.2.2.2.2.2.2.2.2.2.2.2.2.2.2.2.2.2.2.2.2.2.2.2.2.2.2.2.2.2.2.2.2.2.2.2.2.2.2.2.2.2.2.2.2.2.2.2.2.2.2.2.2.2.2.2.2.2.2.2.2.2.2.2.2.2.2.2.2.2.2.2.2.2.2.2.2.2.2.2.2.2.2.2.2.2.2.2.2.2.2.2.2.2.2.2.2.2.2.2.2.2.2.2.2.2.1 x0 x1 x2 σ h
theorem cQoO.c232 {P : oSt → Prop} {call : oCl} (hc : cQoO P call) (x0 : Option Nat) (x1 : Int32) (σ : oSt) (h : P σ) : PIo P (call 232 [va_rf x0, .int x1] σ) := hc.2.2.2.2.2.2.2.2.2.2.2.2.2.2.2.2.2.2.2.2.2.2.2.2.2.2.2.2.2.2.2.2.2.2.2.2.2.2.2.2.2.2.2.2.2.2.2.2.2.2.2.2.2.2.2.2.2.2.2.2.2.2.2.2.2.2.2.2.2.2.2.2.2.2.2.2.2.2.2.2.2.2.2.2.2.2.2.2.2.2.2.2.2.2.2.2.2.2.2.2.2.2.2.2.2.2.2.2.2.2.2.2.2.2.2.2.2.2.2.2.2.2.2.2.2.2.2.2.2.2.2.2.2.2.2.2.2.2.2.2.2.2.2.2.2.2.2.2.2.2.2.2.2.2.2.2.2.2.2.2.2.2.2.2.2.2.2.2.2.2.2.2.2.2.2.2.2.2.2.2.2.2.2.2.2.2.2.2.2.2.2.2.2.2.2.2.2.2.2.2.2.2.2.2.2.2.2.2.2.2.2.2.2.2.2.2.2.2.2.2.2.2.2.2.2.2.2.2.1 x0 x1 σ h
theorem cQoO.c233 {P : oSt → Prop} {call : oCl} (hc : cQoO P call) (x0 : Option Nat) (x1 : Int32) (x2 : Option Nat) (σ : oSt) (h : P σ) : PIo P (call 233 [va_rf x0, .int x1, va_rf x2] σ) := hc.2.2.2.2.2.2.2.2.2.2.2.2.2.2.2.2.2.2.2.2.2.2.2.2.2.2.2.2.2.2.2.2.2.2.2.2.2.2.2.2.2.2.2.2.2.2.2.2.2.2.2.2.2.2.2.2.2.2.2.2.2.2.2.2.2.2.2.2.2.2.2.2.2.2.2.2.2.2.2.2.2.2.2.2.2.2.2.2.2.2.2.2.2.2.2.2.2.2.2.2.2.2.2.2.2.2.2.2.2.2.2.2.2.2.2.2.2.2.2.2.2.2.2.2.2.2.2.2.2.2.2.2.2.2.2.2.2.2.2.2.2.2.2.2.2.2.2.2.2.2.2.2.2.2.2.2.2.2.2.2.2.2.2.2.2.2.2.2.2.2.2.2.2.2.2.2.2.2.2.2.2.2.2.2.2.2.2.2.2.2.2.2.2.2.2.2.2.2.2.2.2.2.2.2.2.2.2.2.2.2.2.2.2.2.2.2.2.2.2.2.2.2.2.2.2.2.2.2.2.1 x0 x1 x2 σ h
theorem cQoO.c234 {P : oSt → Prop} {call : oCl} (hc : cQoO P call) (x0 : Option Nat) (x1 : Int32) (σ : oSt) (h : P σ) : PIo P (call 234 [va_rf x0, .int x1] σ) := hc.2.2.2.2.2.2.2.2.2.2.2.2.2.2.2.2.2.2.2.2.2.2.2.2.2.2.2.2.2.2.2.2.2.2.2.2.2.2.2.2.2.2.2.2.2.2.2.2.2.2.2.2.2.2.2.2.2.2.2.2.2.2.2.2.2.2.2.2.2.2.2.2.2.2.2.2.2.2.2.2.2.2.2.2.2.2.2.2.2.2.2.2.2.2.2.2.2.2.2.2.2.2.2.2.2.2.2.2.2.2.2.2.2.2.2.2.2.2.2.2.2.2.2.2.2.2.2.2.2.2.2.2.2.2.2.2.2.2.2.2.2.2.2.2.2.2.2.2.2.2.2.2.2.2.2.2.2.2.2.2.2.2.2.2.2.2.2.2.2.2.2.2.2.2.2.2.2.2.2.2.2.2.2.2.2.2.2.2.2.2.2.2.2.2.2.2.2.2.2.2.2.2.2.2.2.2.2.2.2.2.2.2.2.2.2.2.2.2.2.2.2.2.2.2.2.2.2.2.2.2.1 x0 x1 σ h
theorem cQoO.c235 {P : oSt → Prop} {call : oCl} (hc : cQoO P call) (x0 : Option Nat) (x1 : Int32) (σ : oSt) (h : P σ) : PIo P (call 235 [va_rf x0, .int x1] σ) := hc.2.2.2.2.2.2.2.2.2.2.2.2.2.2.2.2.2.2.2.2.2.2.2.2.2.2.2.2.2.2.2.2.2.2.2.2.2.2.2.2.2.2.2.2.2.2.2.2.2.2.2.2.2.2.2.2.2.2.2.2.2.2.2.2.2.2.2.2.2.2.2.2.2.2.2.2.2.2.2.2.2.2.2.2.2.2.2.2.2.2.2.2.2.2.2.2.2.2.2.2.2.2.2.2.2.2.2.2.2.2.2.2.2.2.2.2.2.2.2.2.2.2.2.2.2.2.2.2.2.2.2.2.2.2.2.2.2.2.2.2.2.2.2.2.2.2.2.2.2.2.2.2.2.2.2.2.2.2.2.2.2.2.2.2.2.2.2.2.2.2.2.2.2.2.2.2.2.2.2.2.2.2.2.2.2.2.2.2.2.2.2.2.2.2.2.2.2.2.2.2.2.2.2.2.2.2.2.2.2.2.2.2.2.2.2.2.2.2.2.2.2.2.2.2.2.2.2.2.2.2.2.1 x0 x1 σ h
theorem cQoO.c236 {P : oSt → Prop} {call : oCl} (hc : cQoO P call) (x0 : Option Nat) (σ : oSt) (h : P σ) : PIo P (call 236 [va_rf x0] σ) := hc.2.2.2.2.2.2.2.2.2.2.2.2.2.2.2.2.2.2.2.2.2.2.2.2.2.2.2.2.2.2.2.2.2.2.2.2.2.2.2.2.2.2.2.2.2.2.2.2.2.2.2.2.2.2.2.2.2.2.2.2.2.2.2.2.2.2.2.2.2.2.2.2.2.2.2.2.2.2.2.2.2.2.2.2.2.2.2.2.2.2.2.2.2.2.2.2.2.2.2.2.2.2.2.2.2.2.2.2.2.2.2.2.2.2.2.2.2.2.2.2.2.2.2.2.2.2.2.2.2.2.2.2.2.2.2.2.2.2.2.2.2.2.2.2.2.2.2.2.2.2.2.2.2.2.2.2.2.2.2.2.2.2.2.2.2.2.2.2.2.2.2.2.2.2.2.2.2.2.2.2.2.2.2.2.2.2.2.2.2.2.2.2.2.2.2.2.2.2.2.2.2.2.2.2.2.2.2.2.2.2.2.2.2.2.2.2.2.2.2.2.2.2.2.2.2.2.2.2.2.2.2.2.1 x0 σ h
theorem cQoO.c237 {P : oSt → Prop} {call : oCl} (hc : cQoO P call) (x0 : Option Nat) (σ : oSt) (h : P σ) : PIo P (call 237 [va_rf x0] σ) := hc.2.2.2.2.2.2.2.2.2.2.2.2.2.2.2.2.2.2.2.2.2.2.2.2.2.2.2.2.2.2.2.2.2.2.2.2.2.2.2.2.2.2.2.2.2.2.2.2.2.2.2.2.2.2.2.2.2.2.2.2.2.2.2.2.2.2.2.2.2.2.2.2.2.2.2.2.2.2.2.2.2.2.2.2.2.2.2.2.2.2.2.2.2.2.2.2.2.2.2.2.2.2.2.2.2.2.2.2.2.2.2.2.2.2.2.2.2.2.2.2.2.2.2.2.2.2.2.2.2.2.2.2.2.2.2.2.2.2.2.2.2.2.2.2.2.2.2.2.2.2.2.2.2.2.2.2.2.2.2.2.2.2.2.2.2.2.2.2.2.2.2.2.2.2.2.2.2.2.2.2.2.2.2.2.2.2.2.2.2.2.2.2.2.2.2.2.2.2.2.2.2.2.2.2.2.2.2.2.2.2.2.2.2.2.2.2.2.2.2.2.2.2.2.2.2.2.2.2.2.2.2.2.2.1 x0 σ h
theorem cQoO.c238 {P : oSt → Prop} {call : oCl} (hc : cQoO P call) (x0 : Option Nat) (x1 : Int32) (σ : oSt) (h : P σ) : PIo P (call 238 [va_rf x0, .int x1] σ) := hc.2.2.2.2.2.2.2.2.2.2.2.2.2.2.2.2.2.2.2.2.2.2.2.2.2.2.2.2.2.2.2.2.2.2.2.2.2.2.2.2.2.2.2.2.2.2.2.2.2.2.2.2.2.2.2.2.2.2.2.2.2.2.2.2.2.2.2.2.2.2.2.2.2.2.2.2.2.2.2.2.2.2.2.2.2.2.2.2.2.2.2.2.2.2.2.2.2.2.2.2.2.2.2.2.2.2.2.2.2.2.2.2.2.2.2.2.2.2.2.2.2.2.2.2.2.2.2.2.2.2.2.2.2.2.2.2.2.2.2.2.2.2.2.2.2.2.2.2.2.2.2.2.2.2.2.2.2.2.2.2.2.2.2.2.2.2.2.2.2.2.2.2.2.2.2.2.2.2.2.2.2.2.2.2.2.2.2.2.2.2.2.2.2.2.2.2.2.2.2.2.2.2.2.2.2.2.2.2.2.2.2.2.2.2.2.2.2.2.2.2.2.2.2.2.2.2.2.2.2.2.2.2.2.2.1 x0 x1 σ h
theorem cQoO.c239 {P : oSt → Prop} {call : oCl} (hc : cQoO P call) (x0 : Option Nat) (x1 : Int32) (σ : oSt) (h : P σ) : PIo P (call 239 [va_rf x0, .int x1] σ) := hc.2.2.2.2.2.2.2.2.2.2.2.2.2.2.2.2.2.2.2.2.2.2.2.2.2.2.2.2.2.2.2.2.2.2.2.2.2.2.2.2.2.2.2.2.2.2.2.2.2.2.2.2.2.2.2.2.2.2.2.2.2.2.2.2.2.2.2.2.2.2.2.2.2.2.2.2.2.2.2.2.2.2.2.2.2.2.2.2.2.2.2.2.2.2.2.2.2.2.2.2.2.2.2.2.2.2.2.2.2.2.2.2.2.2.2.2.2.2.2.2.2.2.2.2.2.2.2.2.2.2.2.2.2.2.2.2.2.2.2.2.2.2.2.2.2.2.2.2.2.2.2.2.2.2.2.2.2.2.2.2.2.2.2.2.2.2.2.2.2.2.2.2.2.2.2.2.2.2.2.2.2.2.2.2.2.2.2.2.2.2.2.2.2.2.2.2.2.2.2.2.2.2.2.2.2.2.2.2.2.2.2.2.2.2.2.2.2.2.2.2.2.2.2.2.2.2.2.2.2.2.2.2.2.2.2.1 x0 x1 σ h
theorem cQoO.c240 {P : oSt → Prop} {call : oCl} (hc : cQoO P call) (x0 : Option Nat) (x1 : Int32) (σ : oSt) (h : P σ) : PIo P (call 240 [va_rf x0, .int x1] σ) := hc.2.2.2.2.2.2.2.2.2.2.2.2.2.2.2.2.2.2.2.2.2.2.2.2.2.2.2.2.2.2.2.2.2.2.2.2.2.2.2.2.2.2.2.2.2.2.2.2.2.2.2.2.2.2.2.2.2.2.2.2.2.2.2.2.2.2.2.2.2.2.2.2.2.2.2.2.2.2.2.2.2.2.2.2.2.2.2.2.2.2.2.2.2.2.2.2.2.2.2.2.2.2.2.2.2.2.2.2.2.2.2.2.2.2.2.2.2.2.2.2.2.2.2.2.2.2.2.2.2.2.2.2.2.2.2.2.2.2.2.2.2.2.2.2.2.2.2.2.2.2.2.2.2.2.2.2.2.2.2.2.2.2.2.2.2.2.2.2.2.2.2.2.2.2.2.2.2.2.2.2.2.2.2.2.2.2.2.2.2.2.2.2.2.2.2.2.2.2.2.2.2.2.2.2.2.2.2.2.2.2.2.2.2.2.2.2.2.2.2.2.2.2.2.2.2.2.2.2.2.2.2.2.2.2.2.2.1 x0 x1 σ h
theorem cQoO.c241 {P : oSt → Prop} {call : oCl} (hc : cQoO P call) (x0 : Option Nat) (x1 : Int64) (σ : oSt) (h : P σ) : PIo P (call 241 [va_rf x0, .long x1] σ) := hc.2.2.2.2.2.2.2.2.2.2.2.2.2.2.2.2.2.2.2.2.2.2.2.2.2.2.2.2.2.2.2.2.2.2.2.2.2.2.2.2.2.2.2.2.2.2.2.2.2.2.2.2.2.2.2.2.2.2.2.2.2.2.2.2.2.2.2.2.2.2.2.2.2.2.2.2.2.2.2.2.2.2.2.2.2.2.2.2.2.2.2.2.2.2.2.2.2.2.2.2.2.2.2.2.2.2.2.2.2.2.2.2.2.2.2.2.2.2.2.2.2.2.2.2.2.2.2.2.2.2.2.2.2.2.2.2.2.2.2.2.2.2.2.2.2.2.2.2.2.2.2.2.2.2.2.2.2.2.2.2.2.2.2.2.2.2.2.2.2.2.2.2.2.2.2.2.2.2.2.2.2.2.2.2.2.2.2.2.2.2.2.2.2.2.2.2.2.2.2.2.2.2.2.2.2.2.2.2.2.2.2.2.2.2.2.2.2.2.2.2.2.2.2.2.2.2.2.2.2.2.2.2.2.2.2.2.2.1 x0 x1 σ h
theorem cQoO.c242 {P : oSt → Prop} {call : oCl} (hc : cQoO P call) (x0 : Option Nat) (x1 : Int32) (σ : oSt) (h : P σ) : PIo P (call 242 [va_rf x0, .int x1] σ) := hc.2.2.2.2.2.2.2.2.2.2.2.2.2.2.2.2.2.2.2.2.2.2.2.2.2.2.2.2.2.2.2.2.2.2.2.2.2.2.2.2.2.2.2.2.2.2.2.2.2.2.2.2.2.2.2.2.2.2.2.2.2.2.2.2.2.2.2.2.2.2.2.2.2.2.2.2.2.2.2.2.2.2.2.2.2.2.2.2.2.2.2.2.2.2.2.2.2.2.2.2.2.2.2.2.2.2.2.2.2.2.2.2.2.2.2.2.2.2.2.2.2.2.2.2.2.2.2.2.2.2.2.2.2.2.2.2.2.2.2.2.2.2.2.2.2.2.2.2.2.2.2.2.2.2.2.2.2.2.2.2.2.2.2.2.2.2.2.2.2.2.2.2.2.2.2.2.2.2.2.2.2.2.2.2.2.2.2.2.2.2.2.2.2.2.2.2.2.2.2.2.2.2.2.2.2.2.2.2.2.2.2.2.2.2.2.2.2.2.2.2.2.2.2.2.2.2.2.2.2.2.2.2.2.2.2.2.2.2.1 x0 x1 σ h
theorem cQoO.c243 {P : oSt → Prop} {call : oCl} (hc : cQoO P call) (x0 : Int64) (x1 : Int64) (σ : oSt) (h : P σ) : PIo P (call 243 [.long x0, .long x1] σ) := hc.2.2.2.2.2.2.2.2.2.2.2.2.2.2.2.2.2.2.2.2.2.2.2.2.2.2.2.2.2.2.2.2.2.2.2.2.2.2.2.2.2.2.2.2.2.2.2.2.2.2.2.2.2.2.2.2.2.2.2.2.2.2.2.2.2.2.2.2.2.2.2.2.2.2.2.2.2.2.2.2.2.2.2.2.2.2.2.2.2.2.2.2.2.2.2.2.2.2.2.2.2.2.2.2.2.2.2.2.2.2.2.2.2.2.2.2.2.2.2.2.2.2.2.2.2.2.2.2.2.2.2.2.2.2.2.2.2.2.2.2.2.2.2.2.2.2.2.2.2.2.2.2.2.2.2.2.2.2.2.2.2.2.2.2.2.2.2.2.2.2.2.2.2.2.2.2.2.2.2.2.2.2.2.2.2.2.2.2.2.2.2.2.2.2.2.2.2.2.2.2.2.2.2.2.2.2.2.2.2.2.2.2.2.2.2.2.2.2.2.2.2.2.2.2.2.2.2.2.2.2.2.2.2.2.2.2.2.2.2.1 x0 x1 σ h
theorem cQoO.c244 {P : oSt → Prop} {call : oCl} (hc : cQoO P call) (x0 : Int64) (x1 : Int64) (σ : oSt) (h : P σ) : PIo P (call 244 [.long x0, .long x1] σ) := hc.2.2.2.2.2.2.2.2.2.2.2.2.2.2.2.2.2.2.2.2.2.2.2.2.2.2.2.2.2.2.2.2.2.2.2.2.2.2.2.2.2.2.2.2.2.2.2.2.2.2.2.2.2.2.2.2.2.2.2.2.2.2.2.2.2.2.2.2.2.2.2.2.2.2.2.2.2.2.2.2.2.2.2.2.2.2.2.2.2.2.2.2.2.2.2.2.2.2.2.2.2.2.2.2.2.2.2.2.2.2.2.2.2.2.2.2.2.2.2.2.2.2.2.2.2.2.2.2.2.2.2.2.2.2.2.2.2.2.2.2.2.2.2.2.2.2.2.2.2.2.2.2.2.2.2.2.2.2.2.2.2.2.2.2.2.2.2.2.2.2.2.2.2.2.2.2.2.2.2.2.2.2.2.2.2.2.2.2.2.2.2.2.2.2.2.2.2.2.2.2.2.2.2.2.2.2.2.2.2.2.2.2.2.2.2.2.2.2.2.2.2.2.2.2.2.2.2.2.2.2.2.2.2.2.2.2.2.2.2.2 x0 x1 σ h
section OPGO
variable {P : oSt → Prop} {n : Nat} {call : oCl} {κ : oKv}
theorem pioO_ob_X0_init  {x0 : Option Nat} {x1 : Option Nat} {x2 : Option Nat} {x3 : Option Nat} {σ : oSt} (hP : iKptO P) (hc : cQoO P call)  (h : P σ) : PIo P (ob_X0_init n call κ  x0 x1 x2 x3 σ) := by
  unfold ob_X0_init
  repeat' (with_reducible (first | assumption | (refine PIoO_gd ?_) | (refine PIoO_pf hP ?_ (by decide) (by with_unfolding_all rfl) (fun _ _ => ?_)) | (refine PIoO_si hP ?_ (fun _ _ => ?_)) | (refine PIoO_sj hP ?_ (fun _ _ => ?_)) | (refine PIoO_sr hP ?_ (fun _ _ => ?_)) | (refine PIoO_cy hP ?_ (fun _ _ => ?_)) | (refine PIoO_bn (fun _ => ?_)) | (refine PIoO_na hP ?_ (fun _ _ => ?_)) | (refine PIoO_no hP ?_ (fun _ _ => ?_)) | (refine PIoO_ite ?_ ?_) | (refine PIoO_some ?_) | (exact PIoO_none) | (refine PIoO_cv (cQoO.c224 hc _ _ ?_) (fun _ _ => ?_))))
theorem pioO_ob_X2_init  {x0 : Option Nat} {x1 : Int32} {σ : oSt} (hP : iKptO P) (hc : cQoO P call)  (h : P σ) : PIo P (ob_X2_init n call κ  x0 x1 σ) := by
  unfold ob_X2_init
  repeat' (with_reducible (first | assumption | (refine PIoO_gd ?_) | (refine PIoO_pf hP ?_ (by decide) (by with_unfolding_all rfl) (fun _ _ => ?_)) | (refine PIoO_si hP ?_ (fun _ _ => ?_)) | (refine PIoO_sj hP ?_ (fun _ _ => ?_)) | (refine PIoO_sr hP ?_ (fun _ _ => ?_)) | (refine PIoO_cy hP ?_ (fun _ _ => ?_)) | (refine PIoO_bn (fun _ => ?_)) | (refine PIoO_na hP ?_ (fun _ _ => ?_)) | (refine PIoO_no hP ?_ (fun _ _ => ?_)) | (refine PIoO_ite ?_ ?_) | (refine PIoO_some ?_) | (exact PIoO_none)))
theorem pioO_ob_X8_init  {x0 : Option Nat} {x1 : Option Nat} {x2 : Option Nat} {σ : oSt} (hP : iKptO P) (hc : cQoO P call)  (h : P σ) : PIo P (ob_X8_init n call κ  x0 x1 x2 σ) := by
  unfold ob_X8_init
  repeat' (with_reducible (first | assumption | (refine PIoO_gd ?_) | (refine PIoO_pf hP ?_ (by decide) (by with_unfolding_all rfl) (fun _ _ => ?_)) | (refine PIoO_si hP ?_ (fun _ _ => ?_)) | (refine PIoO_sj hP ?_ (fun _ _ => ?_)) | (refine PIoO_sr hP ?_ (fun _ _ => ?_)) | (refine PIoO_cy hP ?_ (fun _ _ => ?_)) | (refine PIoO_bn (fun _ => ?_)) | (refine PIoO_na hP ?_ (fun _ _ => ?_)) | (refine PIoO_no hP ?_ (fun _ _ => ?_)) | (refine PIoO_ite ?_ ?_) | (refine PIoO_some ?_) | (exact PIoO_none)))
theorem pioO_ob_X2_init_  {x0 : Option Nat} {x1 : Option Nat} {x2 : Option Nat} {x3 : Option Nat} {σ : oSt} (hP : iKptO P) (hc : cQoO P call)  (h : P σ) : PIo P (ob_X2_init_ n call κ  x0 x1 x2 x3 σ) := by
  unfold ob_X2_init_
  repeat' (with_reducible (first | assumption | (refine PIoO_gd ?_) | (refine PIoO_pf hP ?_ (by decide) (by with_unfolding_all rfl) (fun _ _ => ?_)) | (refine PIoO_si hP ?_ (fun _ _ => ?_)) | (refine PIoO_sj hP ?_ (fun _ _ => ?_)) | (refine PIoO_sr hP ?_ (fun _ _ => ?_)) | (refine PIoO_cy hP ?_ (fun _ _ => ?_)) | (refine PIoO_bn (fun _ => ?_)) | (refine PIoO_na hP ?_ (fun _ _ => ?_)) | (refine PIoO_no hP ?_ (fun _ _ => ?_)) | (refine PIoO_ite ?_ ?_) | (refine PIoO_some ?_) | (exact PIoO_none)))
theorem pioO_ol_X2_answered_79  (hP : iKptO P) (hc : cQoO P call)  : ∀ (t : Nat) (x0 : Option Nat) (x1 : Option Nat) (x2 : Int32) (x3 : Option Nat) (x4 : Option Nat) (x5 : Int32) (σ : oSt), P σ → PIo P (ol_X2_answered_79 n call κ  t x0 x1 x2 x3 x4 x5 σ) := by
  intro t
  induction t with
  | zero => intros; exact PIoO_none
  | succ t ih =>
    intro x0 x1 x2 x3 x4 x5 σ h
    rw [ol_X2_answered_79]
    repeat' (with_reducible (first | assumption | (refine PIoO_gd ?_) | (refine PIoO_pf hP ?_ (by decide) (by with_unfolding_all rfl) (fun _ _ => ?_)) | (refine PIoO_si hP ?_ (fun _ _ => ?_)) | (refine PIoO_sj hP ?_ (fun _ _ => ?_)) | (refine PIoO_sr hP ?_ (fun _ _ => ?_)) | (refine PIoO_cy hP ?_ (fun _ _ => ?_)) | (refine PIoO_bn (fun _ => ?_)) | (refine PIoO_na hP ?_ (fun _ _ => ?_)) | (refine PIoO_no hP ?_ (fun _ _ => ?_)) | (refine PIoO_ite ?_ ?_) | (refine PIoO_some ?_) | (exact PIoO_none) | (refine PIoO_cv (cQoO.c3 hc _ _ _ _ _ ?_) (fun _ _ => ?_)) | (refine ih _ _ _ _ _ _ _ ?_)))
theorem pioO_oj_X2_answered_60  {x0 : Option Nat} {x1 : Option Nat} {t0 : Int32} {σ : oSt} (hP : iKptO P) (hc : cQoO P call)  (h : P σ) : PIo P (oj_X2_answered_60 n call κ  x0 x1 t0 σ) := by
  unfold oj_X2_answered_60
  repeat' (with_reducible (first | assumption | (refine PIoO_gd ?_) | (refine PIoO_pf hP ?_ (by decide) (by with_unfolding_all rfl) (fun _ _ => ?_)) | (refine PIoO_si hP ?_ (fun _ _ => ?_)) | (refine PIoO_sj hP ?_ (fun _ _ => ?_)) | (refine PIoO_sr hP ?_ (fun _ _ => ?_)) | (refine PIoO_cy hP ?_ (fun _ _ => ?_)) | (refine PIoO_bn (fun _ => ?_)) | (refine PIoO_na hP ?_ (fun _ _ => ?_)) | (refine PIoO_no hP ?_ (fun _ _ => ?_)) | (refine PIoO_ite ?_ ?_) | (refine PIoO_some ?_) | (exact PIoO_none) | (refine pioO_ol_X2_answered_79 hP hc  _ _ _ _ _ _ _ _ ?_)))
theorem pioO_ob_X2_answered  {x0 : Option Nat} {x1 : Option Nat} {σ : oSt} (hP : iKptO P) (hc : cQoO P call)  (h : P σ) : PIo P (ob_X2_answered n call κ  x0 x1 σ) := by
  unfold ob_X2_answered
  repeat' (with_reducible (first | assumption | (refine PIoO_gd ?_) | (refine PIoO_pf hP ?_ (by decide) (by with_unfolding_all rfl) (fun _ _ => ?_)) | (refine PIoO_si hP ?_ (fun _ _ => ?_)) | (refine PIoO_sj hP ?_ (fun _ _ => ?_)) | (refine PIoO_sr hP ?_ (fun _ _ => ?_)) | (refine PIoO_cy hP ?_ (fun _ _ => ?_)) | (refine PIoO_bn (fun _ => ?_)) | (refine PIoO_na hP ?_ (fun _ _ => ?_)) | (refine PIoO_no hP ?_ (fun _ _ => ?_)) | (refine PIoO_ite ?_ ?_) | (refine PIoO_some ?_) | (exact PIoO_none) | (refine PIoO_cv (cQoO.c3 hc _ _ _ _ _ ?_) (fun _ _ => ?_)) | (refine pioO_oj_X2_answered_60 hP hc  ?_)))
theorem pioO_ob_X2_taken  {x0 : Option Nat} {σ : oSt} (hP : iKptO P) (hc : cQoO P call)  (h : P σ) : PIo P (ob_X2_taken n call κ  x0 σ) := by
  unfold ob_X2_taken
  repeat' (with_reducible (first | assumption | (refine PIoO_gd ?_) | (refine PIoO_pf hP ?_ (by decide) (by with_unfolding_all rfl) (fun _ _ => ?_)) | (refine PIoO_si hP ?_ (fun _ _ => ?_)) | (refine PIoO_sj hP ?_ (fun _ _ => ?_)) | (refine PIoO_sr hP ?_ (fun _ _ => ?_)) | (refine PIoO_cy hP ?_ (fun _ _ => ?_)) | (refine PIoO_bn (fun _ => ?_)) | (refine PIoO_na hP ?_ (fun _ _ => ?_)) | (refine PIoO_no hP ?_ (fun _ _ => ?_)) | (refine PIoO_ite ?_ ?_) | (refine PIoO_some ?_) | (exact PIoO_none) | (refine PIoO_cv (cQoO.c3 hc _ _ _ _ _ ?_) (fun _ _ => ?_))))
theorem pioO_oj_X4_isMeasured_30   {σ : oSt} (hP : iKptO P) (hc : cQoO P call)  (h : P σ) : PIo P (oj_X4_isMeasured_30 n call κ   σ) := by
  unfold oj_X4_isMeasured_30
  repeat' (with_reducible (first | assumption | (refine PIoO_gd ?_) | (refine PIoO_pf hP ?_ (by decide) (by with_unfolding_all rfl) (fun _ _ => ?_)) | (refine PIoO_si hP ?_ (fun _ _ => ?_)) | (refine PIoO_sj hP ?_ (fun _ _ => ?_)) | (refine PIoO_sr hP ?_ (fun _ _ => ?_)) | (refine PIoO_cy hP ?_ (fun _ _ => ?_)) | (refine PIoO_bn (fun _ => ?_)) | (refine PIoO_na hP ?_ (fun _ _ => ?_)) | (refine PIoO_no hP ?_ (fun _ _ => ?_)) | (refine PIoO_ite ?_ ?_) | (refine PIoO_some ?_) | (exact PIoO_none)))
theorem pioO_ob_X4_isMeasured  {x0 : Option Nat} {σ : oSt} (hP : iKptO P) (hc : cQoO P call)  (h : P σ) : PIo P (ob_X4_isMeasured n call κ  x0 σ) := by
  unfold ob_X4_isMeasured
  repeat' (with_reducible (first | assumption | (refine PIoO_gd ?_) | (refine PIoO_pf hP ?_ (by decide) (by with_unfolding_all rfl) (fun _ _ => ?_)) | (refine PIoO_si hP ?_ (fun _ _ => ?_)) | (refine PIoO_sj hP ?_ (fun _ _ => ?_)) | (refine PIoO_sr hP ?_ (fun _ _ => ?_)) | (refine PIoO_cy hP ?_ (fun _ _ => ?_)) | (refine PIoO_bn (fun _ => ?_)) | (refine PIoO_na hP ?_ (fun _ _ => ?_)) | (refine PIoO_no hP ?_ (fun _ _ => ?_)) | (refine PIoO_ite ?_ ?_) | (refine PIoO_some ?_) | (exact PIoO_none) | (refine pioO_oj_X4_isMeasured_30 hP hc  ?_)))
theorem pioO_ob_X4_init  {x0 : Option Nat} {x1 : Option Nat} {x2 : Int32} {σ : oSt} (hP : iKptO P) (hc : cQoO P call)  (h : P σ) : PIo P (ob_X4_init n call κ  x0 x1 x2 σ) := by
  unfold ob_X4_init
  repeat' (with_reducible (first | assumption | (refine PIoO_gd ?_) | (refine PIoO_pf hP ?_ (by decide) (by with_unfolding_all rfl) (fun _ _ => ?_)) | (refine PIoO_si hP ?_ (fun _ _ => ?_)) | (refine PIoO_sj hP ?_ (fun _ _ => ?_)) | (refine PIoO_sr hP ?_ (fun _ _ => ?_)) | (refine PIoO_cy hP ?_ (fun _ _ => ?_)) | (refine PIoO_bn (fun _ => ?_)) | (refine PIoO_na hP ?_ (fun _ _ => ?_)) | (refine PIoO_no hP ?_ (fun _ _ => ?_)) | (refine PIoO_ite ?_ ?_) | (refine PIoO_some ?_) | (exact PIoO_none)))
theorem pioO_ob_X9_init  {x0 : Option Nat} {σ : oSt} (hP : iKptO P) (hc : cQoO P call)  (h : P σ) : PIo P (ob_X9_init n call κ  x0 σ) := by
  unfold ob_X9_init
  repeat' (with_reducible (first | assumption | (refine PIoO_gd ?_) | (refine PIoO_pf hP ?_ (by decide) (by with_unfolding_all rfl) (fun _ _ => ?_)) | (refine PIoO_si hP ?_ (fun _ _ => ?_)) | (refine PIoO_sj hP ?_ (fun _ _ => ?_)) | (refine PIoO_sr hP ?_ (fun _ _ => ?_)) | (refine PIoO_cy hP ?_ (fun _ _ => ?_)) | (refine PIoO_bn (fun _ => ?_)) | (refine PIoO_na hP ?_ (fun _ _ => ?_)) | (refine PIoO_no hP ?_ (fun _ _ => ?_)) | (refine PIoO_ite ?_ ?_) | (refine PIoO_some ?_) | (exact PIoO_none)))
theorem pioO_oj_X9_append_58  {x0 : Option Nat} {x1 : Option Nat} {σ : oSt} (hP : iKptO P) (hc : cQoO P call)  (h : P σ) : PIo P (oj_X9_append_58 n call κ  x0 x1 σ) := by
  unfold oj_X9_append_58
  repeat' (with_reducible (first | assumption | (refine PIoO_gd ?_) | (refine PIoO_pf hP ?_ (by decide) (by with_unfolding_all rfl) (fun _ _ => ?_)) | (refine PIoO_si hP ?_ (fun _ _ => ?_)) | (refine PIoO_sj hP ?_ (fun _ _ => ?_)) | (refine PIoO_sr hP ?_ (fun _ _ => ?_)) | (refine PIoO_cy hP ?_ (fun _ _ => ?_)) | (refine PIoO_bn (fun _ => ?_)) | (refine PIoO_na hP ?_ (fun _ _ => ?_)) | (refine PIoO_no hP ?_ (fun _ _ => ?_)) | (refine PIoO_ite ?_ ?_) | (refine PIoO_some ?_) | (exact PIoO_none)))
theorem pioO_ob_X9_append  {x0 : Option Nat} {x1 : Option Nat} {σ : oSt} (hP : iKptO P) (hc : cQoO P call)  (h : P σ) : PIo P (ob_X9_append n call κ  x0 x1 σ) := by
  unfold ob_X9_append
  repeat' (with_reducible (first | assumption | (refine PIoO_gd ?_) | (refine PIoO_pf hP ?_ (by decide) (by with_unfolding_all rfl) (fun _ _ => ?_)) | (refine PIoO_si hP ?_ (fun _ _ => ?_)) | (refine PIoO_sj hP ?_ (fun _ _ => ?_)) | (refine PIoO_sr hP ?_ (fun _ _ => ?_)) | (refine PIoO_cy hP ?_ (fun _ _ => ?_)) | (refine PIoO_bn (fun _ => ?_)) | (refine PIoO_na hP ?_ (fun _ _ => ?_)) | (refine PIoO_no hP ?_ (fun _ _ => ?_)) | (refine PIoO_ite ?_ ?_) | (refine PIoO_some ?_) | (exact PIoO_none) | (refine PIoO_rn (cQoO.c238 hc _ _ _ ?_) (fun _ _ _ => ?_)) | (refine pioO_oj_X9_append_58 hP hc  ?_)))
theorem pioO_oj_X9_add_44  {x0 : Option Nat} {x2 : Int32} {x3 : Int32} {σ : oSt} (hP : iKptO P) (hc : cQoO P call)  (h : P σ) : PIo P (oj_X9_add_44 n call κ  x0 x2 x3 σ) := by
  unfold oj_X9_add_44
  repeat' (with_reducible (first | assumption | (refine PIoO_gd ?_) | (refine PIoO_pf hP ?_ (by decide) (by with_unfolding_all rfl) (fun _ _ => ?_)) | (refine PIoO_si hP ?_ (fun _ _ => ?_)) | (refine PIoO_sj hP ?_ (fun _ _ => ?_)) | (refine PIoO_sr hP ?_ (fun _ _ => ?_)) | (refine PIoO_cy hP ?_ (fun _ _ => ?_)) | (refine PIoO_bn (fun _ => ?_)) | (refine PIoO_na hP ?_ (fun _ _ => ?_)) | (refine PIoO_no hP ?_ (fun _ _ => ?_)) | (refine PIoO_ite ?_ ?_) | (refine PIoO_some ?_) | (exact PIoO_none)))
theorem pioO_oj_X9_add_31  {x0 : Option Nat} {x1 : Option Nat} {x2 : Int32} {x3 : Int32} {σ : oSt} (hP : iKptO P) (hc : cQoO P call)  (h : P σ) : PIo P (oj_X9_add_31 n call κ  x0 x1 x2 x3 σ) := by
  unfold oj_X9_add_31
  repeat' (with_reducible (first | assumption | (refine PIoO_gd ?_) | (refine PIoO_pf hP ?_ (by decide) (by with_unfolding_all rfl) (fun _ _ => ?_)) | (refine PIoO_si hP ?_ (fun _ _ => ?_)) | (refine PIoO_sj hP ?_ (fun _ _ => ?_)) | (refine PIoO_sr hP ?_ (fun _ _ => ?_)) | (refine PIoO_cy hP ?_ (fun _ _ => ?_)) | (refine PIoO_bn (fun _ => ?_)) | (refine PIoO_na hP ?_ (fun _ _ => ?_)) | (refine PIoO_no hP ?_ (fun _ _ => ?_)) | (refine PIoO_ite ?_ ?_) | (refine PIoO_some ?_) | (exact PIoO_none) | (refine PIoO_cv (cQoO.c9 hc _ _ _ ?_) (fun _ _ => ?_)) | (refine pioO_oj_X9_add_44 hP hc  ?_)))
theorem pioO_ol_X9_add_7  (hP : iKptO P) (hc : cQoO P call)  : ∀ (t : Nat) (x0 : Option Nat) (x1 : Option Nat) (x2 : Int32) (x3 : Int32) (σ : oSt), P σ → PIo P (ol_X9_add_7 n call κ  t x0 x1 x2 x3 σ) := by
  intro t
  induction t with
  | zero => intros; exact PIoO_none
  | succ t ih =>
    intro x0 x1 x2 x3 σ h
    rw [ol_X9_add_7]
    repeat' (with_reducible (first | assumption | (refine PIoO_gd ?_) | (refine PIoO_pf hP ?_ (by decide) (by with_unfolding_all rfl) (fun _ _ => ?_)) | (refine PIoO_si hP ?_ (fun _ _ => ?_)) | (refine PIoO_sj hP ?_ (fun _ _ => ?_)) | (refine PIoO_sr hP ?_ (fun _ _ => ?_)) | (refine PIoO_cy hP ?_ (fun _ _ => ?_)) | (refine PIoO_bn (fun _ => ?_)) | (refine PIoO_na hP ?_ (fun _ _ => ?_)) | (refine PIoO_no hP ?_ (fun _ _ => ?_)) | (refine PIoO_ite ?_ ?_) | (refine PIoO_some ?_) | (exact PIoO_none) | (refine pioO_oj_X9_add_31 hP hc  ?_) | (refine ih _ _ _ _ _ ?_)))
theorem pioO_ob_X9_add  {x0 : Option Nat} {x1 : Option Nat} {x2 : Int32} {σ : oSt} (hP : iKptO P) (hc : cQoO P call)  (h : P σ) : PIo P (ob_X9_add n call κ  x0 x1 x2 σ) := by
  unfold ob_X9_add
  repeat' (with_reducible (first | assumption | (refine PIoO_gd ?_) | (refine PIoO_pf hP ?_ (by decide) (by with_unfolding_all rfl) (fun _ _ => ?_)) | (refine PIoO_si hP ?_ (fun _ _ => ?_)) | (refine PIoO_sj hP ?_ (fun _ _ => ?_)) | (refine PIoO_sr hP ?_ (fun _ _ => ?_)) | (refine PIoO_cy hP ?_ (fun _ _ => ?_)) | (refine PIoO_bn (fun _ => ?_)) | (refine PIoO_na hP ?_ (fun _ _ => ?_)) | (refine PIoO_no hP ?_ (fun _ _ => ?_)) | (refine PIoO_ite ?_ ?_) | (refine PIoO_some ?_) | (exact PIoO_none) | (refine pioO_ol_X9_add_7 hP hc  _ _ _ _ _ _ ?_)))
theorem pioO_oj_X9_of_20  {x1 : Int32} {x2 : Int64} {x4 : Option Nat} {t0 : Option Nat} {t1 : Option Nat} {σ : oSt} (hP : iKptO P) (hc : cQoO P call)  (h : P σ) : PIo P (oj_X9_of_20 n call κ  x1 x2 x4 t0 t1 σ) := by
  unfold oj_X9_of_20
  repeat' (with_reducible (first | assumption | (refine PIoO_gd ?_) | (refine PIoO_pf hP ?_ (by decide) (by with_unfolding_all rfl) (fun _ _ => ?_)) | (refine PIoO_si hP ?_ (fun _ _ => ?_)) | (refine PIoO_sj hP ?_ (fun _ _ => ?_)) | (refine PIoO_sr hP ?_ (fun _ _ => ?_)) | (refine PIoO_cy hP ?_ (fun _ _ => ?_)) | (refine PIoO_bn (fun _ => ?_)) | (refine PIoO_na hP ?_ (fun _ _ => ?_)) | (refine PIoO_no hP ?_ (fun _ _ => ?_)) | (refine PIoO_ite ?_ ?_) | (refine PIoO_some ?_) | (exact PIoO_none) | (refine PIoO_cv (cQoO.c10 hc _ _ _ _ ?_) (fun _ _ => ?_))))
theorem pioO_ob_X9_of  {x0 : Option Nat} {x1 : Int32} {x2 : Int64} {σ : oSt} (hP : iKptO P) (hc : cQoO P call)  (h : P σ) : PIo P (ob_X9_of n call κ  x0 x1 x2 σ) := by
  unfold ob_X9_of
  repeat' (with_reducible (first | assumption | (refine PIoO_gd ?_) | (refine PIoO_pf hP ?_ (by decide) (by with_unfolding_all rfl) (fun _ _ => ?_)) | (refine PIoO_si hP ?_ (fun _ _ => ?_)) | (refine PIoO_sj hP ?_ (fun _ _ => ?_)) | (refine PIoO_sr hP ?_ (fun _ _ => ?_)) | (refine PIoO_cy hP ?_ (fun _ _ => ?_)) | (refine PIoO_bn (fun _ => ?_)) | (refine PIoO_na hP ?_ (fun _ _ => ?_)) | (refine PIoO_no hP ?_ (fun _ _ => ?_)) | (refine PIoO_ite ?_ ?_) | (refine PIoO_some ?_) | (exact PIoO_none) | (refine PIoO_cv (cQoO.c8 hc _ _ ?_) (fun _ _ => ?_)) | (refine pioO_oj_X9_of_20 hP hc  ?_)))
theorem pioO_oj_X0_fit_146  {x0 : Option Nat} {x4 : Option Nat} {x5 : Option Nat} {x6 : Option Nat} {σ : oSt} (hP : iKptO P) (hc : cQoO P call)  (h : P σ) : PIo P (oj_X0_fit_146 n call κ  x0 x4 x5 x6 σ) := by
  unfold oj_X0_fit_146
  repeat' (with_reducible (first | assumption | (refine PIoO_gd ?_) | (refine PIoO_pf hP ?_ (by decide) (by with_unfolding_all rfl) (fun _ _ => ?_)) | (refine PIoO_si hP ?_ (fun _ _ => ?_)) | (refine PIoO_sj hP ?_ (fun _ _ => ?_)) | (refine PIoO_sr hP ?_ (fun _ _ => ?_)) | (refine PIoO_cy hP ?_ (fun _ _ => ?_)) | (refine PIoO_bn (fun _ => ?_)) | (refine PIoO_na hP ?_ (fun _ _ => ?_)) | (refine PIoO_no hP ?_ (fun _ _ => ?_)) | (refine PIoO_ite ?_ ?_) | (refine PIoO_some ?_) | (exact PIoO_none) | (refine PIoO_in (cQoO.c227 hc _ _ _ ?_) (fun _ _ _ => ?_))))
theorem pioO_oj_X0_fit_122 {k12 : Option Nat → Option Nat → Option Nat → Option Nat → Int32 → oSt → oRs} {x0 : Option Nat} {x4 : Option Nat} {x5 : Option Nat} {x6 : Option Nat} {x7 : Int32} {x9 : Option Nat} {σ : oSt} (hP : iKptO P) (hc : cQoO P call) (hk12 : ∀ (a0 : Option Nat) (a1 : Option Nat) (a2 : Option Nat) (a3 : Option Nat) (a4 : Int32), ∀ σ, P σ → PIo P (k12 a0 a1 a2 a3 a4 σ)) (h : P σ) : PIo P (oj_X0_fit_122 n call κ k12 x0 x4 x5 x6 x7 x9 σ) := by
  unfold oj_X0_fit_122
  repeat' (with_reducible (first | assumption | (refine PIoO_gd ?_) | (refine PIoO_pf hP ?_ (by decide) (by with_unfolding_all rfl) (fun _ _ => ?_)) | (refine PIoO_si hP ?_ (fun _ _ => ?_)) | (refine PIoO_sj hP ?_ (fun _ _ => ?_)) | (refine PIoO_sr hP ?_ (fun _ _ => ?_)) | (refine PIoO_cy hP ?_ (fun _ _ => ?_)) | (refine PIoO_bn (fun _ => ?_)) | (refine PIoO_na hP ?_ (fun _ _ => ?_)) | (refine PIoO_no hP ?_ (fun _ _ => ?_)) | (refine PIoO_ite ?_ ?_) | (refine PIoO_some ?_) | (exact PIoO_none) | (refine PIoO_rn (cQoO.c4 hc _ _ _ ?_) (fun _ _ _ => ?_)) | (refine hk12 _ _ _ _ _ _ ?_)))
theorem pioO_ol_X0_fit_12  (hP : iKptO P) (hc : cQoO P call)  : ∀ (t : Nat) (x0 : Option Nat) (x1 : Option Nat) (x2 : Option Nat) (x3 : Option Nat) (x4 : Int32) (σ : oSt), P σ → PIo P (ol_X0_fit_12 n call κ  t x0 x1 x2 x3 x4 σ) := by
  intro t
  induction t with
  | zero => intros; exact PIoO_none
  | succ t ih =>
    intro x0 x1 x2 x3 x4 σ h
    rw [ol_X0_fit_12]
    repeat' (with_reducible (first | assumption | (refine PIoO_gd ?_) | (refine PIoO_pf hP ?_ (by decide) (by with_unfolding_all rfl) (fun _ _ => ?_)) | (refine PIoO_si hP ?_ (fun _ _ => ?_)) | (refine PIoO_sj hP ?_ (fun _ _ => ?_)) | (refine PIoO_sr hP ?_ (fun _ _ => ?_)) | (refine PIoO_cy hP ?_ (fun _ _ => ?_)) | (refine PIoO_bn (fun _ => ?_)) | (refine PIoO_na hP ?_ (fun _ _ => ?_)) | (refine PIoO_no hP ?_ (fun _ _ => ?_)) | (refine PIoO_ite ?_ ?_) | (refine PIoO_some ?_) | (exact PIoO_none) | (refine PIoO_cv (cQoO.c2 hc _ _ _ _ ?_) (fun _ _ => ?_)) | (refine PIoO_cv (cQoO.c7 hc _ _ _ _ ?_) (fun _ _ => ?_)) | (refine PIoO_cv (cQoO.c12 hc _ _ _ _ _ ?_) (fun _ _ => ?_)) | (refine PIoO_in (cQoO.c6 hc _ _ ?_) (fun _ _ _ => ?_)) | (refine PIoO_rn (cQoO.c5 hc _ _ ?_) (fun _ _ _ => ?_)) | (refine PIoO_rn (cQoO.c11 hc _ _ _ _ ?_) (fun _ _ _ => ?_)) | (refine pioO_oj_X0_fit_146 hP hc  ?_) | (refine pioO_oj_X0_fit_122 hP hc ih ?_)))
theorem pioO_ob_X0_fit  {x0 : Option Nat} {x1 : Option Nat} {x2 : Option Nat} {x3 : Option Nat} {σ : oSt} (hP : iKptO P) (hc : cQoO P call)  (h : P σ) : PIo P (ob_X0_fit n call κ  x0 x1 x2 x3 σ) := by
  unfold ob_X0_fit
  repeat' (with_reducible (first | assumption | (refine PIoO_gd ?_) | (refine PIoO_pf hP ?_ (by decide) (by with_unfolding_all rfl) (fun _ _ => ?_)) | (refine PIoO_si hP ?_ (fun _ _ => ?_)) | (refine PIoO_sj hP ?_ (fun _ _ => ?_)) | (refine PIoO_sr hP ?_ (fun _ _ => ?_)) | (refine PIoO_cy hP ?_ (fun _ _ => ?_)) | (refine PIoO_bn (fun _ => ?_)) | (refine PIoO_na hP ?_ (fun _ _ => ?_)) | (refine PIoO_no hP ?_ (fun _ _ => ?_)) | (refine PIoO_ite ?_ ?_) | (refine PIoO_some ?_) | (exact PIoO_none) | (refine pioO_ol_X0_fit_12 hP hc  _ _ _ _ _ _ _ ?_)))
theorem pioO_ob_X8_init_  {x0 : Option Nat} {x1 : Option Nat} {x2 : Int32} {x3 : Option Nat} {σ : oSt} (hP : iKptO P) (hc : cQoO P call)  (h : P σ) : PIo P (ob_X8_init_ n call κ  x0 x1 x2 x3 σ) := by
  unfold ob_X8_init_
  repeat' (with_reducible (first | assumption | (refine PIoO_gd ?_) | (refine PIoO_pf hP ?_ (by decide) (by with_unfolding_all rfl) (fun _ _ => ?_)) | (refine PIoO_si hP ?_ (fun _ _ => ?_)) | (refine PIoO_sj hP ?_ (fun _ _ => ?_)) | (refine PIoO_sr hP ?_ (fun _ _ => ?_)) | (refine PIoO_cy hP ?_ (fun _ _ => ?_)) | (refine PIoO_bn (fun _ => ?_)) | (refine PIoO_na hP ?_ (fun _ _ => ?_)) | (refine PIoO_no hP ?_ (fun _ _ => ?_)) | (refine PIoO_ite ?_ ?_) | (refine PIoO_some ?_) | (exact PIoO_none)))
theorem pioO_oj_X9_isTerm_28   {σ : oSt} (hP : iKptO P) (hc : cQoO P call)  (h : P σ) : PIo P (oj_X9_isTerm_28 n call κ   σ) := by
  unfold oj_X9_isTerm_28
  repeat' (with_reducible (first | assumption | (refine PIoO_gd ?_) | (refine PIoO_pf hP ?_ (by decide) (by with_unfolding_all rfl) (fun _ _ => ?_)) | (refine PIoO_si hP ?_ (fun _ _ => ?_)) | (refine PIoO_sj hP ?_ (fun _ _ => ?_)) | (refine PIoO_sr hP ?_ (fun _ _ => ?_)) | (refine PIoO_cy hP ?_ (fun _ _ => ?_)) | (refine PIoO_bn (fun _ => ?_)) | (refine PIoO_na hP ?_ (fun _ _ => ?_)) | (refine PIoO_no hP ?_ (fun _ _ => ?_)) | (refine PIoO_ite ?_ ?_) | (refine PIoO_some ?_) | (exact PIoO_none)))
theorem pioO_ob_X9_isTerm  {x0 : Option Nat} {σ : oSt} (hP : iKptO P) (hc : cQoO P call)  (h : P σ) : PIo P (ob_X9_isTerm n call κ  x0 σ) := by
  unfold ob_X9_isTerm
  repeat' (with_reducible (first | assumption | (refine PIoO_gd ?_) | (refine PIoO_pf hP ?_ (by decide) (by with_unfolding_all rfl) (fun _ _ => ?_)) | (refine PIoO_si hP ?_ (fun _ _ => ?_)) | (refine PIoO_sj hP ?_ (fun _ _ => ?_)) | (refine PIoO_sr hP ?_ (fun _ _ => ?_)) | (refine PIoO_cy hP ?_ (fun _ _ => ?_)) | (refine PIoO_bn (fun _ => ?_)) | (refine PIoO_na hP ?_ (fun _ _ => ?_)) | (refine PIoO_no hP ?_ (fun _ _ => ?_)) | (refine PIoO_ite ?_ ?_) | (refine PIoO_some ?_) | (exact PIoO_none) | (refine pioO_oj_X9_isTerm_28 hP hc  ?_)))
theorem pioO_ob_X2_say  {x0 : Option Nat} {x1 : Int32} {x2 : Option Nat} {σ : oSt} (hP : iKptO P) (hc : cQoO P call)  (h : P σ) : PIo P (ob_X2_say n call κ  x0 x1 x2 σ) := by
  unfold ob_X2_say
  repeat' (with_reducible (first | assumption | (refine PIoO_gd ?_) | (refine PIoO_pf hP ?_ (by decide) (by with_unfolding_all rfl) (fun _ _ => ?_)) | (refine PIoO_si hP ?_ (fun _ _ => ?_)) | (refine PIoO_sj hP ?_ (fun _ _ => ?_)) | (refine PIoO_sr hP ?_ (fun _ _ => ?_)) | (refine PIoO_cy hP ?_ (fun _ _ => ?_)) | (refine PIoO_bn (fun _ => ?_)) | (refine PIoO_na hP ?_ (fun _ _ => ?_)) | (refine PIoO_no hP ?_ (fun _ _ => ?_)) | (refine PIoO_ite ?_ ?_) | (refine PIoO_some ?_) | (exact PIoO_none)))
theorem pioO_ob_X2_of  {x0 : Int32} {x1 : Option Nat} {σ : oSt} (hP : iKptO P) (hc : cQoO P call)  (h : P σ) : PIo P (ob_X2_of n call κ  x0 x1 σ) := by
  unfold ob_X2_of
  repeat' (with_reducible (first | assumption | (refine PIoO_gd ?_) | (refine PIoO_pf hP ?_ (by decide) (by with_unfolding_all rfl) (fun _ _ => ?_)) | (refine PIoO_si hP ?_ (fun _ _ => ?_)) | (refine PIoO_sj hP ?_ (fun _ _ => ?_)) | (refine PIoO_sr hP ?_ (fun _ _ => ?_)) | (refine PIoO_cy hP ?_ (fun _ _ => ?_)) | (refine PIoO_bn (fun _ => ?_)) | (refine PIoO_na hP ?_ (fun _ _ => ?_)) | (refine PIoO_no hP ?_ (fun _ _ => ?_)) | (refine PIoO_ite ?_ ?_) | (refine PIoO_some ?_) | (exact PIoO_none) | (refine PIoO_cv (cQoO.c1 hc _ _ _ ?_) (fun _ _ => ?_)) | (refine PIoO_cv (cQoO.c15 hc _ _ _ ?_) (fun _ _ => ?_)) | (refine PIoO_cv (cQoO.c16 hc _ _ _ _ ?_) (fun _ _ => ?_)) | (refine PIoO_in (cQoO.c14 hc _ _ ?_) (fun _ _ _ => ?_))))
theorem pioO_oj_X0_product_19  {x0 : Option Nat} {x1 : Option Nat} {t0 : Int32} {σ : oSt} (hP : iKptO P) (hc : cQoO P call)  (h : P σ) : PIo P (oj_X0_product_19 n call κ  x0 x1 t0 σ) := by
  unfold oj_X0_product_19
  repeat' (with_reducible (first | assumption | (refine PIoO_gd ?_) | (refine PIoO_pf hP ?_ (by decide) (by with_unfolding_all rfl) (fun _ _ => ?_)) | (refine PIoO_si hP ?_ (fun _ _ => ?_)) | (refine PIoO_sj hP ?_ (fun _ _ => ?_)) | (refine PIoO_sr hP ?_ (fun _ _ => ?_)) | (refine PIoO_cy hP ?_ (fun _ _ => ?_)) | (refine PIoO_bn (fun _ => ?_)) | (refine PIoO_na hP ?_ (fun _ _ => ?_)) | (refine PIoO_no hP ?_ (fun _ _ => ?_)) | (refine PIoO_ite ?_ ?_) | (refine PIoO_some ?_) | (exact PIoO_none) | (refine PIoO_rn (cQoO.c11 hc _ _ _ _ ?_) (fun _ _ _ => ?_)) | (refine PIoO_rn (cQoO.c17 hc _ _ _ ?_) (fun _ _ _ => ?_))))
theorem pioO_oj_X0_product_18  {x0 : Option Nat} {x1 : Option Nat} {σ : oSt} (hP : iKptO P) (hc : cQoO P call)  (h : P σ) : PIo P (oj_X0_product_18 n call κ  x0 x1 σ) := by
  unfold oj_X0_product_18
  repeat' (with_reducible (first | assumption | (refine PIoO_gd ?_) | (refine PIoO_pf hP ?_ (by decide) (by with_unfolding_all rfl) (fun _ _ => ?_)) | (refine PIoO_si hP ?_ (fun _ _ => ?_)) | (refine PIoO_sj hP ?_ (fun _ _ => ?_)) | (refine PIoO_sr hP ?_ (fun _ _ => ?_)) | (refine PIoO_cy hP ?_ (fun _ _ => ?_)) | (refine PIoO_bn (fun _ => ?_)) | (refine PIoO_na hP ?_ (fun _ _ => ?_)) | (refine PIoO_no hP ?_ (fun _ _ => ?_)) | (refine PIoO_ite ?_ ?_) | (refine PIoO_some ?_) | (exact PIoO_none) | (refine pioO_oj_X0_product_19 hP hc  ?_)))
theorem pioO_ob_X0_product  {x0 : Option Nat} {x1 : Option Nat} {σ : oSt} (hP : iKptO P) (hc : cQoO P call)  (h : P σ) : PIo P (ob_X0_product n call κ  x0 x1 σ) := by
  unfold ob_X0_product
  repeat' (with_reducible (first | assumption | (refine PIoO_gd ?_) | (refine PIoO_pf hP ?_ (by decide) (by with_unfolding_all rfl) (fun _ _ => ?_)) | (refine PIoO_si hP ?_ (fun _ _ => ?_)) | (refine PIoO_sj hP ?_ (fun _ _ => ?_)) | (refine PIoO_sr hP ?_ (fun _ _ => ?_)) | (refine PIoO_cy hP ?_ (fun _ _ => ?_)) | (refine PIoO_bn (fun _ => ?_)) | (refine PIoO_na hP ?_ (fun _ _ => ?_)) | (refine PIoO_no hP ?_ (fun _ _ => ?_)) | (refine PIoO_ite ?_ ?_) | (refine PIoO_some ?_) | (exact PIoO_none) | (refine pioO_oj_X0_product_19 hP hc  ?_) | (refine pioO_oj_X0_product_18 hP hc  ?_)))
theorem pioO_ob_X0_remainder  {x0 : Option Nat} {σ : oSt} (hP : iKptO P) (hc : cQoO P call)  (h : P σ) : PIo P (ob_X0_remainder n call κ  x0 σ) := by
  unfold ob_X0_remainder
  repeat' (with_reducible (first | assumption | (refine PIoO_gd ?_) | (refine PIoO_pf hP ?_ (by decide) (by with_unfolding_all rfl) (fun _ _ => ?_)) | (refine PIoO_si hP ?_ (fun _ _ => ?_)) | (refine PIoO_sj hP ?_ (fun _ _ => ?_)) | (refine PIoO_sr hP ?_ (fun _ _ => ?_)) | (refine PIoO_cy hP ?_ (fun _ _ => ?_)) | (refine PIoO_bn (fun _ => ?_)) | (refine PIoO_na hP ?_ (fun _ _ => ?_)) | (refine PIoO_no hP ?_ (fun _ _ => ?_)) | (refine PIoO_ite ?_ ?_) | (refine PIoO_some ?_) | (exact PIoO_none) | (refine PIoO_cv (cQoO.c1 hc _ _ _ ?_) (fun _ _ => ?_)) | (refine PIoO_cv (cQoO.c8 hc _ _ ?_) (fun _ _ => ?_)) | (refine PIoO_cv (cQoO.c15 hc _ _ _ ?_) (fun _ _ => ?_)) | (refine PIoO_cv (cQoO.c16 hc _ _ _ _ ?_) (fun _ _ => ?_))))
theorem pioO_ob_X0_plain  {x0 : Option Nat} {σ : oSt} (hP : iKptO P) (hc : cQoO P call)  (h : P σ) : PIo P (ob_X0_plain n call κ  x0 σ) := by
  unfold ob_X0_plain
  repeat' (with_reducible (first | assumption | (refine PIoO_gd ?_) | (refine PIoO_pf hP ?_ (by decide) (by with_unfolding_all rfl) (fun _ _ => ?_)) | (refine PIoO_si hP ?_ (fun _ _ => ?_)) | (refine PIoO_sj hP ?_ (fun _ _ => ?_)) | (refine PIoO_sr hP ?_ (fun _ _ => ?_)) | (refine PIoO_cy hP ?_ (fun _ _ => ?_)) | (refine PIoO_bn (fun _ => ?_)) | (refine PIoO_na hP ?_ (fun _ _ => ?_)) | (refine PIoO_no hP ?_ (fun _ _ => ?_)) | (refine PIoO_ite ?_ ?_) | (refine PIoO_some ?_) | (exact PIoO_none) | (refine PIoO_cv (cQoO.c1 hc _ _ _ ?_) (fun _ _ => ?_)) | (refine PIoO_cv (cQoO.c8 hc _ _ ?_) (fun _ _ => ?_)) | (refine PIoO_in (cQoO.c6 hc _ _ ?_) (fun _ _ _ => ?_)) | (refine PIoO_rn (cQoO.c11 hc _ _ _ _ ?_) (fun _ _ _ => ?_)) | (refine PIoO_rn (cQoO.c17 hc _ _ _ ?_) (fun _ _ _ => ?_)) | (refine PIoO_rn (cQoO.c18 hc _ _ _ ?_) (fun _ _ _ => ?_)) | (refine PIoO_rn (cQoO.c19 hc _ _ ?_) (fun _ _ _ => ?_))))
theorem pioO_ol_X10_root_4  (hP : iKptO P) (hc : cQoO P call)  : ∀ (t : Nat) (x0 : Option Nat) (x1 : Int32) (x2 : Int32) (σ : oSt), P σ → PIo P (ol_X10_root_4 n call κ  t x0 x1 x2 σ) := by
  intro t
  induction t with
  | zero => intros; exact PIoO_none
  | succ t ih =>
    intro x0 x1 x2 σ h
    rw [ol_X10_root_4]
    repeat' (with_reducible (first | assumption | (refine PIoO_gd ?_) | (refine PIoO_pf hP ?_ (by decide) (by with_unfolding_all rfl) (fun _ _ => ?_)) | (refine PIoO_si hP ?_ (fun _ _ => ?_)) | (refine PIoO_sj hP ?_ (fun _ _ => ?_)) | (refine PIoO_sr hP ?_ (fun _ _ => ?_)) | (refine PIoO_cy hP ?_ (fun _ _ => ?_)) | (refine PIoO_bn (fun _ => ?_)) | (refine PIoO_na hP ?_ (fun _ _ => ?_)) | (refine PIoO_no hP ?_ (fun _ _ => ?_)) | (refine PIoO_ite ?_ ?_) | (refine PIoO_some ?_) | (exact PIoO_none) | (refine ih _ _ _ _ ?_)))
theorem pioO_ob_X10_root  {x0 : Option Nat} {x1 : Int32} {σ : oSt} (hP : iKptO P) (hc : cQoO P call)  (h : P σ) : PIo P (ob_X10_root n call κ  x0 x1 σ) := by
  unfold ob_X10_root
  repeat' (with_reducible (first | assumption | (refine PIoO_gd ?_) | (refine PIoO_pf hP ?_ (by decide) (by with_unfolding_all rfl) (fun _ _ => ?_)) | (refine PIoO_si hP ?_ (fun _ _ => ?_)) | (refine PIoO_sj hP ?_ (fun _ _ => ?_)) | (refine PIoO_sr hP ?_ (fun _ _ => ?_)) | (refine PIoO_cy hP ?_ (fun _ _ => ?_)) | (refine PIoO_bn (fun _ => ?_)) | (refine PIoO_na hP ?_ (fun _ _ => ?_)) | (refine PIoO_no hP ?_ (fun _ _ => ?_)) | (refine PIoO_ite ?_ ?_) | (refine PIoO_some ?_) | (exact PIoO_none) | (refine pioO_ol_X10_root_4 hP hc  _ _ _ _ _ ?_)))
theorem pioO_ob_X10_kindOf  {x0 : Option Nat} {x1 : Int32} {σ : oSt} (hP : iKptO P) (hc : cQoO P call)  (h : P σ) : PIo P (ob_X10_kindOf n call κ  x0 x1 σ) := by
  unfold ob_X10_kindOf
  repeat' (with_reducible (first | assumption | (refine PIoO_gd ?_) | (refine PIoO_pf hP ?_ (by decide) (by with_unfolding_all rfl) (fun _ _ => ?_)) | (refine PIoO_si hP ?_ (fun _ _ => ?_)) | (refine PIoO_sj hP ?_ (fun _ _ => ?_)) | (refine PIoO_sr hP ?_ (fun _ _ => ?_)) | (refine PIoO_cy hP ?_ (fun _ _ => ?_)) | (refine PIoO_bn (fun _ => ?_)) | (refine PIoO_na hP ?_ (fun _ _ => ?_)) | (refine PIoO_no hP ?_ (fun _ _ => ?_)) | (refine PIoO_ite ?_ ?_) | (refine PIoO_some ?_) | (exact PIoO_none) | (refine PIoO_in (cQoO.c21 hc _ _ _ ?_) (fun _ _ _ => ?_))))
theorem pioO_ob_X10_takenBy  {x0 : Option Nat} {x1 : Int32} {σ : oSt} (hP : iKptO P) (hc : cQoO P call)  (h : P σ) : PIo P (ob_X10_takenBy n call κ  x0 x1 σ) := by
  unfold ob_X10_takenBy
  repeat' (with_reducible (first | assumption | (refine PIoO_gd ?_) | (refine PIoO_pf hP ?_ (by decide) (by with_unfolding_all rfl) (fun _ _ => ?_)) | (refine PIoO_si hP ?_ (fun _ _ => ?_)) | (refine PIoO_sj hP ?_ (fun _ _ => ?_)) | (refine PIoO_sr hP ?_ (fun _ _ => ?_)) | (refine PIoO_cy hP ?_ (fun _ _ => ?_)) | (refine PIoO_bn (fun _ => ?_)) | (refine PIoO_na hP ?_ (fun _ _ => ?_)) | (refine PIoO_no hP ?_ (fun _ _ => ?_)) | (refine PIoO_ite ?_ ?_) | (refine PIoO_some ?_) | (exact PIoO_none) | (refine PIoO_in (cQoO.c21 hc _ _ _ ?_) (fun _ _ _ => ?_))))
theorem pioO_ob_X10_answeredBy  {x0 : Option Nat} {x1 : Int32} {σ : oSt} (hP : iKptO P) (hc : cQoO P call)  (h : P σ) : PIo P (ob_X10_answeredBy n call κ  x0 x1 σ) := by
  unfold ob_X10_answeredBy
  repeat' (with_reducible (first | assumption | (refine PIoO_gd ?_) | (refine PIoO_pf hP ?_ (by decide) (by with_unfolding_all rfl) (fun _ _ => ?_)) | (refine PIoO_si hP ?_ (fun _ _ => ?_)) | (refine PIoO_sj hP ?_ (fun _ _ => ?_)) | (refine PIoO_sr hP ?_ (fun _ _ => ?_)) | (refine PIoO_cy hP ?_ (fun _ _ => ?_)) | (refine PIoO_bn (fun _ => ?_)) | (refine PIoO_na hP ?_ (fun _ _ => ?_)) | (refine PIoO_no hP ?_ (fun _ _ => ?_)) | (refine PIoO_ite ?_ ?_) | (refine PIoO_some ?_) | (exact PIoO_none) | (refine PIoO_in (cQoO.c21 hc _ _ _ ?_) (fun _ _ _ => ?_))))
theorem pioO_oj_X0_instance_54  {x1 : Option Nat} {x2 : Int32} {σ : oSt} (hP : iKptO P) (hc : cQoO P call)  (h : P σ) : PIo P (oj_X0_instance_54 n call κ  x1 x2 σ) := by
  unfold oj_X0_instance_54
  repeat' (with_reducible (first | assumption | (refine PIoO_gd ?_) | (refine PIoO_pf hP ?_ (by decide) (by with_unfolding_all rfl) (fun _ _ => ?_)) | (refine PIoO_si hP ?_ (fun _ _ => ?_)) | (refine PIoO_sj hP ?_ (fun _ _ => ?_)) | (refine PIoO_sr hP ?_ (fun _ _ => ?_)) | (refine PIoO_cy hP ?_ (fun _ _ => ?_)) | (refine PIoO_bn (fun _ => ?_)) | (refine PIoO_na hP ?_ (fun _ _ => ?_)) | (refine PIoO_no hP ?_ (fun _ _ => ?_)) | (refine PIoO_ite ?_ ?_) | (refine PIoO_some ?_) | (exact PIoO_none)))
theorem pioO_oj_X0_instance_16  {x0 : Option Nat} {x1 : Option Nat} {x2 : Int32} {σ : oSt} (hP : iKptO P) (hc : cQoO P call)  (h : P σ) : PIo P (oj_X0_instance_16 n call κ  x0 x1 x2 σ) := by
  unfold oj_X0_instance_16
  repeat' (with_reducible (first | assumption | (refine PIoO_gd ?_) | (refine PIoO_pf hP ?_ (by decide) (by with_unfolding_all rfl) (fun _ _ => ?_)) | (refine PIoO_si hP ?_ (fun _ _ => ?_)) | (refine PIoO_sj hP ?_ (fun _ _ => ?_)) | (refine PIoO_sr hP ?_ (fun _ _ => ?_)) | (refine PIoO_cy hP ?_ (fun _ _ => ?_)) | (refine PIoO_bn (fun _ => ?_)) | (refine PIoO_na hP ?_ (fun _ _ => ?_)) | (refine PIoO_no hP ?_ (fun _ _ => ?_)) | (refine PIoO_ite ?_ ?_) | (refine PIoO_some ?_) | (exact PIoO_none) | (refine PIoO_rn (cQoO.c11 hc _ _ _ _ ?_) (fun _ _ _ => ?_)) | (refine pioO_oj_X0_instance_54 hP hc  ?_)))
theorem pioO_ob_X0_instance  {x0 : Option Nat} {x1 : Option Nat} {x2 : Int32} {σ : oSt} (hP : iKptO P) (hc : cQoO P call)  (h : P σ) : PIo P (ob_X0_instance n call κ  x0 x1 x2 σ) := by
  unfold ob_X0_instance
  repeat' (with_reducible (first | assumption | (refine PIoO_gd ?_) | (refine PIoO_pf hP ?_ (by decide) (by with_unfolding_all rfl) (fun _ _ => ?_)) | (refine PIoO_si hP ?_ (fun _ _ => ?_)) | (refine PIoO_sj hP ?_ (fun _ _ => ?_)) | (refine PIoO_sr hP ?_ (fun _ _ => ?_)) | (refine PIoO_cy hP ?_ (fun _ _ => ?_)) | (refine PIoO_bn (fun _ => ?_)) | (refine PIoO_na hP ?_ (fun _ _ => ?_)) | (refine PIoO_no hP ?_ (fun _ _ => ?_)) | (refine PIoO_ite ?_ ?_) | (refine PIoO_some ?_) | (exact PIoO_none) | (refine pioO_oj_X0_instance_16 hP hc  ?_)))
theorem pioO_oj_X0_sayInstances_200 {k71 : Option Nat → Option Nat → Int32 → oSt → oRs} {x0 : Option Nat} {x1 : Option Nat} {x3 : Int32} {σ : oSt} (hP : iKptO P) (hc : cQoO P call) (hk71 : ∀ (a0 : Option Nat) (a1 : Option Nat) (a2 : Int32), ∀ σ, P σ → PIo P (k71 a0 a1 a2 σ)) (h : P σ) : PIo P (oj_X0_sayInstances_200 n call κ k71 x0 x1 x3 σ) := by
  unfold oj_X0_sayInstances_200
  repeat' (with_reducible (first | assumption | (refine PIoO_gd ?_) | (refine PIoO_pf hP ?_ (by decide) (by with_unfolding_all rfl) (fun _ _ => ?_)) | (refine PIoO_si hP ?_ (fun _ _ => ?_)) | (refine PIoO_sj hP ?_ (fun _ _ => ?_)) | (refine PIoO_sr hP ?_ (fun _ _ => ?_)) | (refine PIoO_cy hP ?_ (fun _ _ => ?_)) | (refine PIoO_bn (fun _ => ?_)) | (refine PIoO_na hP ?_ (fun _ _ => ?_)) | (refine PIoO_no hP ?_ (fun _ _ => ?_)) | (refine PIoO_ite ?_ ?_) | (refine PIoO_some ?_) | (exact PIoO_none) | (refine hk71 _ _ _ _ ?_)))
theorem pioO_ol_X0_sayInstances_160 {k71 : Option Nat → Option Nat → Int32 → oSt → oRs} (hP : iKptO P) (hc : cQoO P call) (hk71 : ∀ (a0 : Option Nat) (a1 : Option Nat) (a2 : Int32), ∀ σ, P σ → PIo P (k71 a0 a1 a2 σ)) : ∀ (t : Nat) (x0 : Option Nat) (x1 : Option Nat) (x2 : Int32) (x3 : Int32) (σ : oSt), P σ → PIo P (ol_X0_sayInstances_160 n call κ k71 t x0 x1 x2 x3 σ) := by
  intro t
  induction t with
  | zero => intros; exact PIoO_none
  | succ t ih =>
    intro x0 x1 x2 x3 σ h
    rw [ol_X0_sayInstances_160]
    repeat' (with_reducible (first | assumption | (refine PIoO_gd ?_) | (refine PIoO_pf hP ?_ (by decide) (by with_unfolding_all rfl) (fun _ _ => ?_)) | (refine PIoO_si hP ?_ (fun _ _ => ?_)) | (refine PIoO_sj hP ?_ (fun _ _ => ?_)) | (refine PIoO_sr hP ?_ (fun _ _ => ?_)) | (refine PIoO_cy hP ?_ (fun _ _ => ?_)) | (refine PIoO_bn (fun _ => ?_)) | (refine PIoO_na hP ?_ (fun _ _ => ?_)) | (refine PIoO_no hP ?_ (fun _ _ => ?_)) | (refine PIoO_ite ?_ ?_) | (refine PIoO_some ?_) | (exact PIoO_none) | (refine PIoO_cv (cQoO.c16 hc _ _ _ _ ?_) (fun _ _ => ?_)) | (refine PIoO_rn (cQoO.c25 hc _ _ _ _ ?_) (fun _ _ _ => ?_)) | (refine pioO_oj_X0_sayInstances_200 hP hc hk71 ?_) | (refine ih _ _ _ _ _ ?_) | (refine hk71 _ _ _ _ ?_)))
theorem pioO_oj_X0_sayInstances_141 {k71 : Option Nat → Option Nat → Int32 → oSt → oRs} {x0 : Option Nat} {x1 : Option Nat} {x3 : Int32} {σ : oSt} (hP : iKptO P) (hc : cQoO P call) (hk71 : ∀ (a0 : Option Nat) (a1 : Option Nat) (a2 : Int32), ∀ σ, P σ → PIo P (k71 a0 a1 a2 σ)) (h : P σ) : PIo P (oj_X0_sayInstances_141 n call κ k71 x0 x1 x3 σ) := by
  unfold oj_X0_sayInstances_141
  repeat' (with_reducible (first | assumption | (refine PIoO_gd ?_) | (refine PIoO_pf hP ?_ (by decide) (by with_unfolding_all rfl) (fun _ _ => ?_)) | (refine PIoO_si hP ?_ (fun _ _ => ?_)) | (refine PIoO_sj hP ?_ (fun _ _ => ?_)) | (refine PIoO_sr hP ?_ (fun _ _ => ?_)) | (refine PIoO_cy hP ?_ (fun _ _ => ?_)) | (refine PIoO_bn (fun _ => ?_)) | (refine PIoO_na hP ?_ (fun _ _ => ?_)) | (refine PIoO_no hP ?_ (fun _ _ => ?_)) | (refine PIoO_ite ?_ ?_) | (refine PIoO_some ?_) | (exact PIoO_none) | (refine pioO_ol_X0_sayInstances_160 hP hc hk71 _ _ _ _ _ _ ?_) | (refine pioO_oj_X0_sayInstances_200 hP hc hk71 ?_) | (refine hk71 _ _ _ _ ?_)))
theorem pioO_ol_X0_sayInstances_71  (hP : iKptO P) (hc : cQoO P call)  : ∀ (t : Nat) (x0 : Option Nat) (x1 : Option Nat) (x2 : Int32) (σ : oSt), P σ → PIo P (ol_X0_sayInstances_71 n call κ  t x0 x1 x2 σ) := by
  intro t
  induction t with
  | zero => intros; exact PIoO_none
  | succ t ih =>
    intro x0 x1 x2 σ h
    rw [ol_X0_sayInstances_71]
    repeat' (with_reducible (first | assumption | (refine PIoO_gd ?_) | (refine PIoO_pf hP ?_ (by decide) (by with_unfolding_all rfl) (fun _ _ => ?_)) | (refine PIoO_si hP ?_ (fun _ _ => ?_)) | (refine PIoO_sj hP ?_ (fun _ _ => ?_)) | (refine PIoO_sr hP ?_ (fun _ _ => ?_)) | (refine PIoO_cy hP ?_ (fun _ _ => ?_)) | (refine PIoO_bn (fun _ => ?_)) | (refine PIoO_na hP ?_ (fun _ _ => ?_)) | (refine PIoO_no hP ?_ (fun _ _ => ?_)) | (refine PIoO_ite ?_ ?_) | (refine PIoO_some ?_) | (exact PIoO_none) | (refine PIoO_cv (cQoO.c16 hc _ _ _ _ ?_) (fun _ _ => ?_)) | (refine PIoO_rn (cQoO.c11 hc _ _ _ _ ?_) (fun _ _ _ => ?_)) | (refine pioO_oj_X0_sayInstances_200 hP hc ih ?_) | (refine pioO_oj_X0_sayInstances_141 hP hc ih ?_)))
theorem pioO_oj_X0_sayInstances_56 {k4 : Option Nat → Option Nat → Int32 → Int32 → oSt → oRs} {x0 : Option Nat} {x1 : Option Nat} {x3 : Int32} {t0 : Int32} {t1 : Int32} {σ : oSt} (hP : iKptO P) (hc : cQoO P call) (hk4 : ∀ (a0 : Option Nat) (a1 : Option Nat) (a2 : Int32) (a3 : Int32), ∀ σ, P σ → PIo P (k4 a0 a1 a2 a3 σ)) (h : P σ) : PIo P (oj_X0_sayInstances_56 n call κ k4 x0 x1 x3 t0 t1 σ) := by
  unfold oj_X0_sayInstances_56
  repeat' (with_reducible (first | assumption | (refine PIoO_gd ?_) | (refine PIoO_pf hP ?_ (by decide) (by with_unfolding_all rfl) (fun _ _ => ?_)) | (refine PIoO_si hP ?_ (fun _ _ => ?_)) | (refine PIoO_sj hP ?_ (fun _ _ => ?_)) | (refine PIoO_sr hP ?_ (fun _ _ => ?_)) | (refine PIoO_cy hP ?_ (fun _ _ => ?_)) | (refine PIoO_bn (fun _ => ?_)) | (refine PIoO_na hP ?_ (fun _ _ => ?_)) | (refine PIoO_no hP ?_ (fun _ _ => ?_)) | (refine PIoO_ite ?_ ?_) | (refine PIoO_some ?_) | (exact PIoO_none) | (refine hk4 _ _ _ _ _ ?_)))
theorem pioO_ol_X0_sayInstances_4  (hP : iKptO P) (hc : cQoO P call)  : ∀ (t : Nat) (x0 : Option Nat) (x1 : Option Nat) (x2 : Int32) (x3 : Int32) (σ : oSt), P σ → PIo P (ol_X0_sayInstances_4 n call κ  t x0 x1 x2 x3 σ) := by
  intro t
  induction t with
  | zero => intros; exact PIoO_none
  | succ t ih =>
    intro x0 x1 x2 x3 σ h
    rw [ol_X0_sayInstances_4]
    repeat' (with_reducible (first | assumption | (refine PIoO_gd ?_) | (refine PIoO_pf hP ?_ (by decide) (by with_unfolding_all rfl) (fun _ _ => ?_)) | (refine PIoO_si hP ?_ (fun _ _ => ?_)) | (refine PIoO_sj hP ?_ (fun _ _ => ?_)) | (refine PIoO_sr hP ?_ (fun _ _ => ?_)) | (refine PIoO_cy hP ?_ (fun _ _ => ?_)) | (refine PIoO_bn (fun _ => ?_)) | (refine PIoO_na hP ?_ (fun _ _ => ?_)) | (refine PIoO_no hP ?_ (fun _ _ => ?_)) | (refine PIoO_ite ?_ ?_) | (refine PIoO_some ?_) | (exact PIoO_none) | (refine PIoO_cv (cQoO.c15 hc _ _ _ ?_) (fun _ _ => ?_)) | (refine pioO_ol_X0_sayInstances_71 hP hc  _ _ _ _ _ ?_) | (refine pioO_oj_X0_sayInstances_56 hP hc ih ?_)))
theorem pioO_ob_X0_sayInstances  {x0 : Option Nat} {x1 : Option Nat} {σ : oSt} (hP : iKptO P) (hc : cQoO P call)  (h : P σ) : PIo P (ob_X0_sayInstances n call κ  x0 x1 σ) := by
  unfold ob_X0_sayInstances
  repeat' (with_reducible (first | assumption | (refine PIoO_gd ?_) | (refine PIoO_pf hP ?_ (by decide) (by with_unfolding_all rfl) (fun _ _ => ?_)) | (refine PIoO_si hP ?_ (fun _ _ => ?_)) | (refine PIoO_sj hP ?_ (fun _ _ => ?_)) | (refine PIoO_sr hP ?_ (fun _ _ => ?_)) | (refine PIoO_cy hP ?_ (fun _ _ => ?_)) | (refine PIoO_bn (fun _ => ?_)) | (refine PIoO_na hP ?_ (fun _ _ => ?_)) | (refine PIoO_no hP ?_ (fun _ _ => ?_)) | (refine PIoO_ite ?_ ?_) | (refine PIoO_some ?_) | (exact PIoO_none) | (refine pioO_ol_X0_sayInstances_4 hP hc  _ _ _ _ _ _ ?_)))
theorem pioO_oj_X0_shape_205  {x0 : Option Nat} {x4 : Option Nat} {σ : oSt} (hP : iKptO P) (hc : cQoO P call)  (h : P σ) : PIo P (oj_X0_shape_205 n call κ  x0 x4 σ) := by
  unfold oj_X0_shape_205
  repeat' (with_reducible (first | assumption | (refine PIoO_gd ?_) | (refine PIoO_pf hP ?_ (by decide) (by with_unfolding_all rfl) (fun _ _ => ?_)) | (refine PIoO_si hP ?_ (fun _ _ => ?_)) | (refine PIoO_sj hP ?_ (fun _ _ => ?_)) | (refine PIoO_sr hP ?_ (fun _ _ => ?_)) | (refine PIoO_cy hP ?_ (fun _ _ => ?_)) | (refine PIoO_bn (fun _ => ?_)) | (refine PIoO_na hP ?_ (fun _ _ => ?_)) | (refine PIoO_no hP ?_ (fun _ _ => ?_)) | (refine PIoO_ite ?_ ?_) | (refine PIoO_some ?_) | (exact PIoO_none) | (refine PIoO_cv (cQoO.c26 hc _ _ _ ?_) (fun _ _ => ?_))))
theorem pioO_oj_X0_shape_175  {x0 : Option Nat} {x1 : Int32} {x2 : Option Nat} {x3 : Int32} {x4 : Option Nat} {x6 : Int32} {σ : oSt} (hP : iKptO P) (hc : cQoO P call)  (h : P σ) : PIo P (oj_X0_shape_175 n call κ  x0 x1 x2 x3 x4 x6 σ) := by
  unfold oj_X0_shape_175
  repeat' (with_reducible (first | assumption | (refine PIoO_gd ?_) | (refine PIoO_pf hP ?_ (by decide) (by with_unfolding_all rfl) (fun _ _ => ?_)) | (refine PIoO_si hP ?_ (fun _ _ => ?_)) | (refine PIoO_sj hP ?_ (fun _ _ => ?_)) | (refine PIoO_sr hP ?_ (fun _ _ => ?_)) | (refine PIoO_cy hP ?_ (fun _ _ => ?_)) | (refine PIoO_bn (fun _ => ?_)) | (refine PIoO_na hP ?_ (fun _ _ => ?_)) | (refine PIoO_no hP ?_ (fun _ _ => ?_)) | (refine PIoO_ite ?_ ?_) | (refine PIoO_some ?_) | (exact PIoO_none) | (refine PIoO_in (cQoO.c24 hc _ _ _ ?_) (fun _ _ _ => ?_)) | (refine PIoO_rn (cQoO.c27 hc _ _ _ _ _ ?_) (fun _ _ _ => ?_))))
theorem pioO_oj_X0_shape_106  {x0 : Option Nat} {x1 : Int32} {x2 : Option Nat} {x3 : Int32} {x4 : Option Nat} {t0 : Option Nat} {t1 : Option Nat} {σ : oSt} (hP : iKptO P) (hc : cQoO P call)  (h : P σ) : PIo P (oj_X0_shape_106 n call κ  x0 x1 x2 x3 x4 t0 t1 σ) := by
  unfold oj_X0_shape_106
  repeat' (with_reducible (first | assumption | (refine PIoO_gd ?_) | (refine PIoO_pf hP ?_ (by decide) (by with_unfolding_all rfl) (fun _ _ => ?_)) | (refine PIoO_si hP ?_ (fun _ _ => ?_)) | (refine PIoO_sj hP ?_ (fun _ _ => ?_)) | (refine PIoO_sr hP ?_ (fun _ _ => ?_)) | (refine PIoO_cy hP ?_ (fun _ _ => ?_)) | (refine PIoO_bn (fun _ => ?_)) | (refine PIoO_na hP ?_ (fun _ _ => ?_)) | (refine PIoO_no hP ?_ (fun _ _ => ?_)) | (refine PIoO_ite ?_ ?_) | (refine PIoO_some ?_) | (exact PIoO_none) | (refine PIoO_in (cQoO.c6 hc _ _ ?_) (fun _ _ _ => ?_)) | (refine pioO_oj_X0_shape_175 hP hc  ?_)))
theorem pioO_oj_X0_shape_51  {x0 : Option Nat} {x1 : Int32} {x2 : Option Nat} {x3 : Int32} {x4 : Option Nat} {t0 : Int32} {σ : oSt} (hP : iKptO P) (hc : cQoO P call)  (h : P σ) : PIo P (oj_X0_shape_51 n call κ  x0 x1 x2 x3 x4 t0 σ) := by
  unfold oj_X0_shape_51
  repeat' (with_reducible (first | assumption | (refine PIoO_gd ?_) | (refine PIoO_pf hP ?_ (by decide) (by with_unfolding_all rfl) (fun _ _ => ?_)) | (refine PIoO_si hP ?_ (fun _ _ => ?_)) | (refine PIoO_sj hP ?_ (fun _ _ => ?_)) | (refine PIoO_sr hP ?_ (fun _ _ => ?_)) | (refine PIoO_cy hP ?_ (fun _ _ => ?_)) | (refine PIoO_bn (fun _ => ?_)) | (refine PIoO_na hP ?_ (fun _ _ => ?_)) | (refine PIoO_no hP ?_ (fun _ _ => ?_)) | (refine PIoO_ite ?_ ?_) | (refine PIoO_some ?_) | (exact PIoO_none) | (refine PIoO_cv (cQoO.c7 hc _ _ _ _ ?_) (fun _ _ => ?_)) | (refine PIoO_in (cQoO.c23 hc _ _ _ ?_) (fun _ _ _ => ?_)) | (refine PIoO_rn (cQoO.c27 hc _ _ _ _ _ ?_) (fun _ _ _ => ?_)) | (refine PIoO_rn (cQoO.c234 hc _ _ _ ?_) (fun _ _ _ => ?_)) | (refine pioO_oj_X0_shape_106 hP hc  ?_)))
theorem pioO_oj_X0_shape_50  {x0 : Option Nat} {x1 : Int32} {x2 : Option Nat} {x3 : Int32} {x4 : Option Nat} {σ : oSt} (hP : iKptO P) (hc : cQoO P call)  (h : P σ) : PIo P (oj_X0_shape_50 n call κ  x0 x1 x2 x3 x4 σ) := by
  unfold oj_X0_shape_50
  repeat' (with_reducible (first | assumption | (refine PIoO_gd ?_) | (refine PIoO_pf hP ?_ (by decide) (by with_unfolding_all rfl) (fun _ _ => ?_)) | (refine PIoO_si hP ?_ (fun _ _ => ?_)) | (refine PIoO_sj hP ?_ (fun _ _ => ?_)) | (refine PIoO_sr hP ?_ (fun _ _ => ?_)) | (refine PIoO_cy hP ?_ (fun _ _ => ?_)) | (refine PIoO_bn (fun _ => ?_)) | (refine PIoO_na hP ?_ (fun _ _ => ?_)) | (refine PIoO_no hP ?_ (fun _ _ => ?_)) | (refine PIoO_ite ?_ ?_) | (refine PIoO_some ?_) | (exact PIoO_none) | (refine pioO_oj_X0_shape_51 hP hc  ?_)))
theorem pioO_ob_X0_shape  {x0 : Option Nat} {x1 : Int32} {x2 : Option Nat} {x3 : Int32} {σ : oSt} (hP : iKptO P) (hc : cQoO P call)  (h : P σ) : PIo P (ob_X0_shape n call κ  x0 x1 x2 x3 σ) := by
  unfold ob_X0_shape
  repeat' (with_reducible (first | assumption | (refine PIoO_gd ?_) | (refine PIoO_pf hP ?_ (by decide) (by with_unfolding_all rfl) (fun _ _ => ?_)) | (refine PIoO_si hP ?_ (fun _ _ => ?_)) | (refine PIoO_sj hP ?_ (fun _ _ => ?_)) | (refine PIoO_sr hP ?_ (fun _ _ => ?_)) | (refine PIoO_cy hP ?_ (fun _ _ => ?_)) | (refine PIoO_bn (fun _ => ?_)) | (refine PIoO_na hP ?_ (fun _ _ => ?_)) | (refine PIoO_no hP ?_ (fun _ _ => ?_)) | (refine PIoO_ite ?_ ?_) | (refine PIoO_some ?_) | (exact PIoO_none) | (refine PIoO_cv (cQoO.c1 hc _ _ _ ?_) (fun _ _ => ?_)) | (refine PIoO_in (cQoO.c22 hc _ _ _ ?_) (fun _ _ _ => ?_)) | (refine PIoO_in (cQoO.c236 hc _ _ ?_) (fun _ _ _ => ?_)) | (refine pioO_oj_X0_shape_205 hP hc  ?_) | (refine pioO_oj_X0_shape_50 hP hc  ?_) | (refine pioO_oj_X0_shape_51 hP hc  ?_)))
theorem pioO_oj_X0_template_103 {k59 : Option Nat → Int32 → Option Nat → Int32 → Option Nat → oSt → oRs} {x0 : Option Nat} {x1 : Int32} {x2 : Option Nat} {x4 : Int32} {x5 : Option Nat} {σ : oSt} (hP : iKptO P) (hc : cQoO P call) (hk59 : ∀ (a0 : Option Nat) (a1 : Int32) (a2 : Option Nat) (a3 : Int32) (a4 : Option Nat), ∀ σ, P σ → PIo P (k59 a0 a1 a2 a3 a4 σ)) (h : P σ) : PIo P (oj_X0_template_103 n call κ k59 x0 x1 x2 x4 x5 σ) := by
  unfold oj_X0_template_103
  repeat' (with_reducible (first | assumption | (refine PIoO_gd ?_) | (refine PIoO_pf hP ?_ (by decide) (by with_unfolding_all rfl) (fun _ _ => ?_)) | (refine PIoO_si hP ?_ (fun _ _ => ?_)) | (refine PIoO_sj hP ?_ (fun _ _ => ?_)) | (refine PIoO_sr hP ?_ (fun _ _ => ?_)) | (refine PIoO_cy hP ?_ (fun _ _ => ?_)) | (refine PIoO_bn (fun _ => ?_)) | (refine PIoO_na hP ?_ (fun _ _ => ?_)) | (refine PIoO_no hP ?_ (fun _ _ => ?_)) | (refine PIoO_ite ?_ ?_) | (refine PIoO_some ?_) | (exact PIoO_none) | (refine hk59 _ _ _ _ _ _ ?_)))
theorem pioO_ol_X0_template_59  (hP : iKptO P) (hc : cQoO P call)  : ∀ (t : Nat) (x0 : Option Nat) (x1 : Int32) (x2 : Option Nat) (x3 : Int32) (x4 : Option Nat) (σ : oSt), P σ → PIo P (ol_X0_template_59 n call κ  t x0 x1 x2 x3 x4 σ) := by
  intro t
  induction t with
  | zero => intros; exact PIoO_none
  | succ t ih =>
    intro x0 x1 x2 x3 x4 σ h
    rw [ol_X0_template_59]
    repeat' (with_reducible (first | assumption | (refine PIoO_gd ?_) | (refine PIoO_pf hP ?_ (by decide) (by with_unfolding_all rfl) (fun _ _ => ?_)) | (refine PIoO_si hP ?_ (fun _ _ => ?_)) | (refine PIoO_sj hP ?_ (fun _ _ => ?_)) | (refine PIoO_sr hP ?_ (fun _ _ => ?_)) | (refine PIoO_cy hP ?_ (fun _ _ => ?_)) | (refine PIoO_bn (fun _ => ?_)) | (refine PIoO_na hP ?_ (fun _ _ => ?_)) | (refine PIoO_no hP ?_ (fun _ _ => ?_)) | (refine PIoO_ite ?_ ?_) | (refine PIoO_some ?_) | (exact PIoO_none) | (refine PIoO_in (cQoO.c6 hc _ _ ?_) (fun _ _ _ => ?_)) | (refine PIoO_rn (cQoO.c27 hc _ _ _ _ _ ?_) (fun _ _ _ => ?_)) | (refine pioO_oj_X0_template_103 hP hc ih ?_)))
theorem pioO_oj_X0_template_37 {k6 : Option Nat → Int32 → Option Nat → Option Nat → Int32 → Option Nat → oSt → oRs} {x0 : Option Nat} {x1 : Int32} {x2 : Option Nat} {x3 : Option Nat} {x5 : Option Nat} {t0 : Int32} {t1 : Int32} {σ : oSt} (hP : iKptO P) (hc : cQoO P call) (hk6 : ∀ (a0 : Option Nat) (a1 : Int32) (a2 : Option Nat) (a3 : Option Nat) (a4 : Int32) (a5 : Option Nat), ∀ σ, P σ → PIo P (k6 a0 a1 a2 a3 a4 a5 σ)) (h : P σ) : PIo P (oj_X0_template_37 n call κ k6 x0 x1 x2 x3 x5 t0 t1 σ) := by
  unfold oj_X0_template_37
  repeat' (with_reducible (first | assumption | (refine PIoO_gd ?_) | (refine PIoO_pf hP ?_ (by decide) (by with_unfolding_all rfl) (fun _ _ => ?_)) | (refine PIoO_si hP ?_ (fun _ _ => ?_)) | (refine PIoO_sj hP ?_ (fun _ _ => ?_)) | (refine PIoO_sr hP ?_ (fun _ _ => ?_)) | (refine PIoO_cy hP ?_ (fun _ _ => ?_)) | (refine PIoO_bn (fun _ => ?_)) | (refine PIoO_na hP ?_ (fun _ _ => ?_)) | (refine PIoO_no hP ?_ (fun _ _ => ?_)) | (refine PIoO_ite ?_ ?_) | (refine PIoO_some ?_) | (exact PIoO_none) | (refine hk6 _ _ _ _ _ _ _ ?_)))
theorem pioO_oj_X0_template_36 {k6 : Option Nat → Int32 → Option Nat → Option Nat → Int32 → Option Nat → oSt → oRs} {x0 : Option Nat} {x1 : Int32} {x2 : Option Nat} {x3 : Option Nat} {x5 : Option Nat} {t0 : Int32} {σ : oSt} (hP : iKptO P) (hc : cQoO P call) (hk6 : ∀ (a0 : Option Nat) (a1 : Int32) (a2 : Option Nat) (a3 : Option Nat) (a4 : Int32) (a5 : Option Nat), ∀ σ, P σ → PIo P (k6 a0 a1 a2 a3 a4 a5 σ)) (h : P σ) : PIo P (oj_X0_template_36 n call κ k6 x0 x1 x2 x3 x5 t0 σ) := by
  unfold oj_X0_template_36
  repeat' (with_reducible (first | assumption | (refine PIoO_gd ?_) | (refine PIoO_pf hP ?_ (by decide) (by with_unfolding_all rfl) (fun _ _ => ?_)) | (refine PIoO_si hP ?_ (fun _ _ => ?_)) | (refine PIoO_sj hP ?_ (fun _ _ => ?_)) | (refine PIoO_sr hP ?_ (fun _ _ => ?_)) | (refine PIoO_cy hP ?_ (fun _ _ => ?_)) | (refine PIoO_bn (fun _ => ?_)) | (refine PIoO_na hP ?_ (fun _ _ => ?_)) | (refine PIoO_no hP ?_ (fun _ _ => ?_)) | (refine PIoO_ite ?_ ?_) | (refine PIoO_some ?_) | (exact PIoO_none) | (refine pioO_oj_X0_template_37 hP hc hk6 ?_) | (refine hk6 _ _ _ _ _ _ _ ?_)))
theorem pioO_ol_X0_template_6  (hP : iKptO P) (hc : cQoO P call)  : ∀ (t : Nat) (x0 : Option Nat) (x1 : Int32) (x2 : Option Nat) (x3 : Option Nat) (x4 : Int32) (x5 : Option Nat) (σ : oSt), P σ → PIo P (ol_X0_template_6 n call κ  t x0 x1 x2 x3 x4 x5 σ) := by
  intro t
  induction t with
  | zero => intros; exact PIoO_none
  | succ t ih =>
    intro x0 x1 x2 x3 x4 x5 σ h
    rw [ol_X0_template_6]
    repeat' (with_reducible (first | assumption | (refine PIoO_gd ?_) | (refine PIoO_pf hP ?_ (by decide) (by with_unfolding_all rfl) (fun _ _ => ?_)) | (refine PIoO_si hP ?_ (fun _ _ => ?_)) | (refine PIoO_sj hP ?_ (fun _ _ => ?_)) | (refine PIoO_sr hP ?_ (fun _ _ => ?_)) | (refine PIoO_cy hP ?_ (fun _ _ => ?_)) | (refine PIoO_bn (fun _ => ?_)) | (refine PIoO_na hP ?_ (fun _ _ => ?_)) | (refine PIoO_no hP ?_ (fun _ _ => ?_)) | (refine PIoO_ite ?_ ?_) | (refine PIoO_some ?_) | (exact PIoO_none) | (refine PIoO_in (cQoO.c6 hc _ _ ?_) (fun _ _ _ => ?_)) | (refine pioO_ol_X0_template_59 hP hc  _ _ _ _ _ _ _ ?_) | (refine pioO_oj_X0_template_36 hP hc ih ?_) | (refine pioO_oj_X0_template_37 hP hc ih ?_)))
theorem pioO_ob_X0_template  {x0 : Option Nat} {x1 : Int32} {x2 : Option Nat} {x3 : Option Nat} {σ : oSt} (hP : iKptO P) (hc : cQoO P call)  (h : P σ) : PIo P (ob_X0_template n call κ  x0 x1 x2 x3 σ) := by
  unfold ob_X0_template
  repeat' (with_reducible (first | assumption | (refine PIoO_gd ?_) | (refine PIoO_pf hP ?_ (by decide) (by with_unfolding_all rfl) (fun _ _ => ?_)) | (refine PIoO_si hP ?_ (fun _ _ => ?_)) | (refine PIoO_sj hP ?_ (fun _ _ => ?_)) | (refine PIoO_sr hP ?_ (fun _ _ => ?_)) | (refine PIoO_cy hP ?_ (fun _ _ => ?_)) | (refine PIoO_bn (fun _ => ?_)) | (refine PIoO_na hP ?_ (fun _ _ => ?_)) | (refine PIoO_no hP ?_ (fun _ _ => ?_)) | (refine PIoO_ite ?_ ?_) | (refine PIoO_some ?_) | (exact PIoO_none) | (refine pioO_ol_X0_template_6 hP hc  _ _ _ _ _ _ _ _ ?_)))
theorem pioO_ol_X0_fitBody_9  (hP : iKptO P) (hc : cQoO P call)  : ∀ (t : Nat) (x0 : Option Nat) (x1 : Option Nat) (x2 : Option Nat) (x3 : Option Nat) (x4 : Int32) (σ : oSt), P σ → PIo P (ol_X0_fitBody_9 n call κ  t x0 x1 x2 x3 x4 σ) := by
  intro t
  induction t with
  | zero => intros; exact PIoO_none
  | succ t ih =>
    intro x0 x1 x2 x3 x4 σ h
    rw [ol_X0_fitBody_9]
    repeat' (with_reducible (first | assumption | (refine PIoO_gd ?_) | (refine PIoO_pf hP ?_ (by decide) (by with_unfolding_all rfl) (fun _ _ => ?_)) | (refine PIoO_si hP ?_ (fun _ _ => ?_)) | (refine PIoO_sj hP ?_ (fun _ _ => ?_)) | (refine PIoO_sr hP ?_ (fun _ _ => ?_)) | (refine PIoO_cy hP ?_ (fun _ _ => ?_)) | (refine PIoO_bn (fun _ => ?_)) | (refine PIoO_na hP ?_ (fun _ _ => ?_)) | (refine PIoO_no hP ?_ (fun _ _ => ?_)) | (refine PIoO_ite ?_ ?_) | (refine PIoO_some ?_) | (exact PIoO_none) | (refine PIoO_cv (cQoO.c2 hc _ _ _ _ ?_) (fun _ _ => ?_)) | (refine PIoO_cv (cQoO.c12 hc _ _ _ _ _ ?_) (fun _ _ => ?_)) | (refine PIoO_in (cQoO.c236 hc _ _ ?_) (fun _ _ _ => ?_)) | (refine PIoO_rn (cQoO.c4 hc _ _ _ ?_) (fun _ _ _ => ?_)) | (refine PIoO_rn (cQoO.c30 hc _ _ _ _ ?_) (fun _ _ _ => ?_)) | (refine PIoO_rn (cQoO.c234 hc _ _ _ ?_) (fun _ _ _ => ?_)) | (refine ih _ _ _ _ _ _ ?_)))
theorem pioO_ob_X0_fitBody  {x0 : Option Nat} {x1 : Option Nat} {x2 : Option Nat} {x3 : Option Nat} {σ : oSt} (hP : iKptO P) (hc : cQoO P call)  (h : P σ) : PIo P (ob_X0_fitBody n call κ  x0 x1 x2 x3 σ) := by
  unfold ob_X0_fitBody
  repeat' (with_reducible (first | assumption | (refine PIoO_gd ?_) | (refine PIoO_pf hP ?_ (by decide) (by with_unfolding_all rfl) (fun _ _ => ?_)) | (refine PIoO_si hP ?_ (fun _ _ => ?_)) | (refine PIoO_sj hP ?_ (fun _ _ => ?_)) | (refine PIoO_sr hP ?_ (fun _ _ => ?_)) | (refine PIoO_cy hP ?_ (fun _ _ => ?_)) | (refine PIoO_bn (fun _ => ?_)) | (refine PIoO_na hP ?_ (fun _ _ => ?_)) | (refine PIoO_no hP ?_ (fun _ _ => ?_)) | (refine PIoO_ite ?_ ?_) | (refine PIoO_some ?_) | (exact PIoO_none) | (refine pioO_ol_X0_fitBody_9 hP hc  _ _ _ _ _ _ _ ?_)))
theorem pioO_oj_X0_walk_21  {x0 : Option Nat} {x1 : Option Nat} {x2 : Option Nat} {σ : oSt} (hP : iKptO P) (hc : cQoO P call)  (h : P σ) : PIo P (oj_X0_walk_21 n call κ  x0 x1 x2 σ) := by
  unfold oj_X0_walk_21
  repeat' (with_reducible (first | assumption | (refine PIoO_gd ?_) | (refine PIoO_pf hP ?_ (by decide) (by with_unfolding_all rfl) (fun _ _ => ?_)) | (refine PIoO_si hP ?_ (fun _ _ => ?_)) | (refine PIoO_sj hP ?_ (fun _ _ => ?_)) | (refine PIoO_sr hP ?_ (fun _ _ => ?_)) | (refine PIoO_cy hP ?_ (fun _ _ => ?_)) | (refine PIoO_bn (fun _ => ?_)) | (refine PIoO_na hP ?_ (fun _ _ => ?_)) | (refine PIoO_no hP ?_ (fun _ _ => ?_)) | (refine PIoO_ite ?_ ?_) | (refine PIoO_some ?_) | (exact PIoO_none) | (refine PIoO_cv (cQoO.c13 hc _ _ _ _ _ ?_) (fun _ _ => ?_)) | (refine PIoO_rn (cQoO.c20 hc _ _ ?_) (fun _ _ _ => ?_)) | (refine PIoO_rn (cQoO.c30 hc _ _ _ _ ?_) (fun _ _ _ => ?_)) | (refine PIoO_rn (cQoO.c31 hc _ _ _ _ ?_) (fun _ _ _ => ?_)) | (refine PIoO_rn (cQoO.c32 hc _ _ _ _ ?_) (fun _ _ _ => ?_)) | (refine PIoO_rn (cQoO.c33 hc _ _ _ _ ?_) (fun _ _ _ => ?_)) | (refine PIoO_rn (cQoO.c34 hc _ _ _ _ ?_) (fun _ _ _ => ?_)) | (refine PIoO_rn (cQoO.c35 hc _ _ _ _ ?_) (fun _ _ _ => ?_)) | (refine PIoO_rn (cQoO.c36 hc _ _ _ _ ?_) (fun _ _ _ => ?_))))
theorem pioO_ob_X0_walk  {x0 : Option Nat} {x1 : Option Nat} {x2 : Option Nat} {σ : oSt} (hP : iKptO P) (hc : cQoO P call)  (h : P σ) : PIo P (ob_X0_walk n call κ  x0 x1 x2 σ) := by
  unfold ob_X0_walk
  repeat' (with_reducible (first | assumption | (refine PIoO_gd ?_) | (refine PIoO_pf hP ?_ (by decide) (by with_unfolding_all rfl) (fun _ _ => ?_)) | (refine PIoO_si hP ?_ (fun _ _ => ?_)) | (refine PIoO_sj hP ?_ (fun _ _ => ?_)) | (refine PIoO_sr hP ?_ (fun _ _ => ?_)) | (refine PIoO_cy hP ?_ (fun _ _ => ?_)) | (refine PIoO_bn (fun _ => ?_)) | (refine PIoO_na hP ?_ (fun _ _ => ?_)) | (refine PIoO_no hP ?_ (fun _ _ => ?_)) | (refine PIoO_ite ?_ ?_) | (refine PIoO_some ?_) | (exact PIoO_none) | (refine PIoO_in (cQoO.c227 hc _ _ _ ?_) (fun _ _ _ => ?_)) | (refine pioO_oj_X0_walk_21 hP hc  ?_)))
theorem pioO_oj_X0_walkCall_90 {k11 : Option Nat → Option Nat → Option Nat → Option Nat → Int32 → oSt → oRs} {x0 : Option Nat} {x1 : Option Nat} {x2 : Option Nat} {x4 : Int32} {t0 : Option Nat} {t1 : Option Nat} {σ : oSt} (hP : iKptO P) (hc : cQoO P call) (hk11 : ∀ (a0 : Option Nat) (a1 : Option Nat) (a2 : Option Nat) (a3 : Option Nat) (a4 : Int32), ∀ σ, P σ → PIo P (k11 a0 a1 a2 a3 a4 σ)) (h : P σ) : PIo P (oj_X0_walkCall_90 n call κ k11 x0 x1 x2 x4 t0 t1 σ) := by
  unfold oj_X0_walkCall_90
  repeat' (with_reducible (first | assumption | (refine PIoO_gd ?_) | (refine PIoO_pf hP ?_ (by decide) (by with_unfolding_all rfl) (fun _ _ => ?_)) | (refine PIoO_si hP ?_ (fun _ _ => ?_)) | (refine PIoO_sj hP ?_ (fun _ _ => ?_)) | (refine PIoO_sr hP ?_ (fun _ _ => ?_)) | (refine PIoO_cy hP ?_ (fun _ _ => ?_)) | (refine PIoO_bn (fun _ => ?_)) | (refine PIoO_na hP ?_ (fun _ _ => ?_)) | (refine PIoO_no hP ?_ (fun _ _ => ?_)) | (refine PIoO_ite ?_ ?_) | (refine PIoO_some ?_) | (exact PIoO_none) | (refine PIoO_rn (cQoO.c4 hc _ _ _ ?_) (fun _ _ _ => ?_)) | (refine hk11 _ _ _ _ _ _ ?_)))
theorem pioO_ol_X0_walkCall_11  (hP : iKptO P) (hc : cQoO P call)  : ∀ (t : Nat) (x0 : Option Nat) (x1 : Option Nat) (x2 : Option Nat) (x3 : Option Nat) (x4 : Int32) (σ : oSt), P σ → PIo P (ol_X0_walkCall_11 n call κ  t x0 x1 x2 x3 x4 σ) := by
  intro t
  induction t with
  | zero => intros; exact PIoO_none
  | succ t ih =>
    intro x0 x1 x2 x3 x4 σ h
    rw [ol_X0_walkCall_11]
    repeat' (with_reducible (first | assumption | (refine PIoO_gd ?_) | (refine PIoO_pf hP ?_ (by decide) (by with_unfolding_all rfl) (fun _ _ => ?_)) | (refine PIoO_si hP ?_ (fun _ _ => ?_)) | (refine PIoO_sj hP ?_ (fun _ _ => ?_)) | (refine PIoO_sr hP ?_ (fun _ _ => ?_)) | (refine PIoO_cy hP ?_ (fun _ _ => ?_)) | (refine PIoO_bn (fun _ => ?_)) | (refine PIoO_na hP ?_ (fun _ _ => ?_)) | (refine PIoO_no hP ?_ (fun _ _ => ?_)) | (refine PIoO_ite ?_ ?_) | (refine PIoO_some ?_) | (exact PIoO_none) | (refine PIoO_cv (cQoO.c12 hc _ _ _ _ _ ?_) (fun _ _ => ?_)) | (refine PIoO_in (cQoO.c6 hc _ _ ?_) (fun _ _ _ => ?_)) | (refine PIoO_in (cQoO.c236 hc _ _ ?_) (fun _ _ _ => ?_)) | (refine PIoO_rn (cQoO.c5 hc _ _ ?_) (fun _ _ _ => ?_)) | (refine PIoO_rn (cQoO.c30 hc _ _ _ _ ?_) (fun _ _ _ => ?_)) | (refine PIoO_rn (cQoO.c234 hc _ _ _ ?_) (fun _ _ _ => ?_)) | (refine pioO_oj_X0_walkCall_90 hP hc ih ?_)))
theorem pioO_ob_X0_walkCall  {x0 : Option Nat} {x1 : Option Nat} {x2 : Option Nat} {σ : oSt} (hP : iKptO P) (hc : cQoO P call)  (h : P σ) : PIo P (ob_X0_walkCall n call κ  x0 x1 x2 σ) := by
  unfold ob_X0_walkCall
  repeat' (with_reducible (first | assumption | (refine PIoO_gd ?_) | (refine PIoO_pf hP ?_ (by decide) (by with_unfolding_all rfl) (fun _ _ => ?_)) | (refine PIoO_si hP ?_ (fun _ _ => ?_)) | (refine PIoO_sj hP ?_ (fun _ _ => ?_)) | (refine PIoO_sr hP ?_ (fun _ _ => ?_)) | (refine PIoO_cy hP ?_ (fun _ _ => ?_)) | (refine PIoO_bn (fun _ => ?_)) | (refine PIoO_na hP ?_ (fun _ _ => ?_)) | (refine PIoO_no hP ?_ (fun _ _ => ?_)) | (refine PIoO_ite ?_ ?_) | (refine PIoO_some ?_) | (exact PIoO_none) | (refine pioO_ol_X0_walkCall_11 hP hc  _ _ _ _ _ _ _ ?_)))
theorem pioO_ob_X0_walkFunction  {x0 : Option Nat} {x1 : Option Nat} {x2 : Option Nat} {σ : oSt} (hP : iKptO P) (hc : cQoO P call)  (h : P σ) : PIo P (ob_X0_walkFunction n call κ  x0 x1 x2 σ) := by
  unfold ob_X0_walkFunction
  repeat' (with_reducible (first | assumption | (refine PIoO_gd ?_) | (refine PIoO_pf hP ?_ (by decide) (by with_unfolding_all rfl) (fun _ _ => ?_)) | (refine PIoO_si hP ?_ (fun _ _ => ?_)) | (refine PIoO_sj hP ?_ (fun _ _ => ?_)) | (refine PIoO_sr hP ?_ (fun _ _ => ?_)) | (refine PIoO_cy hP ?_ (fun _ _ => ?_)) | (refine PIoO_bn (fun _ => ?_)) | (refine PIoO_na hP ?_ (fun _ _ => ?_)) | (refine PIoO_no hP ?_ (fun _ _ => ?_)) | (refine PIoO_ite ?_ ?_) | (refine PIoO_some ?_) | (exact PIoO_none) | (refine PIoO_cv (cQoO.c29 hc _ _ _ _ _ ?_) (fun _ _ => ?_)) | (refine PIoO_rn (cQoO.c28 hc _ _ _ _ _ ?_) (fun _ _ _ => ?_))))
theorem pioO_ob_X0_walkIf  {x0 : Option Nat} {x1 : Option Nat} {x2 : Option Nat} {σ : oSt} (hP : iKptO P) (hc : cQoO P call)  (h : P σ) : PIo P (ob_X0_walkIf n call κ  x0 x1 x2 σ) := by
  unfold ob_X0_walkIf
  repeat' (with_reducible (first | assumption | (refine PIoO_gd ?_) | (refine PIoO_pf hP ?_ (by decide) (by with_unfolding_all rfl) (fun _ _ => ?_)) | (refine PIoO_si hP ?_ (fun _ _ => ?_)) | (refine PIoO_sj hP ?_ (fun _ _ => ?_)) | (refine PIoO_sr hP ?_ (fun _ _ => ?_)) | (refine PIoO_cy hP ?_ (fun _ _ => ?_)) | (refine PIoO_bn (fun _ => ?_)) | (refine PIoO_na hP ?_ (fun _ _ => ?_)) | (refine PIoO_no hP ?_ (fun _ _ => ?_)) | (refine PIoO_ite ?_ ?_) | (refine PIoO_some ?_) | (exact PIoO_none) | (refine PIoO_cv (cQoO.c12 hc _ _ _ _ _ ?_) (fun _ _ => ?_)) | (refine PIoO_cv (cQoO.c13 hc _ _ _ _ _ ?_) (fun _ _ => ?_)) | (refine PIoO_rn (cQoO.c28 hc _ _ _ _ _ ?_) (fun _ _ _ => ?_)) | (refine PIoO_rn (cQoO.c30 hc _ _ _ _ ?_) (fun _ _ _ => ?_))))
theorem pioO_ob_X0_walkLet  {x0 : Option Nat} {x1 : Option Nat} {x2 : Option Nat} {σ : oSt} (hP : iKptO P) (hc : cQoO P call)  (h : P σ) : PIo P (ob_X0_walkLet n call κ  x0 x1 x2 σ) := by
  unfold ob_X0_walkLet
  repeat' (with_reducible (first | assumption | (refine PIoO_gd ?_) | (refine PIoO_pf hP ?_ (by decide) (by with_unfolding_all rfl) (fun _ _ => ?_)) | (refine PIoO_si hP ?_ (fun _ _ => ?_)) | (refine PIoO_sj hP ?_ (fun _ _ => ?_)) | (refine PIoO_sr hP ?_ (fun _ _ => ?_)) | (refine PIoO_cy hP ?_ (fun _ _ => ?_)) | (refine PIoO_bn (fun _ => ?_)) | (refine PIoO_na hP ?_ (fun _ _ => ?_)) | (refine PIoO_no hP ?_ (fun _ _ => ?_)) | (refine PIoO_ite ?_ ?_) | (refine PIoO_some ?_) | (exact PIoO_none) | (refine PIoO_cv (cQoO.c2 hc _ _ _ _ ?_) (fun _ _ => ?_)) | (refine PIoO_cv (cQoO.c12 hc _ _ _ _ _ ?_) (fun _ _ => ?_)) | (refine PIoO_rn (cQoO.c28 hc _ _ _ _ _ ?_) (fun _ _ _ => ?_)) | (refine PIoO_rn (cQoO.c30 hc _ _ _ _ ?_) (fun _ _ _ => ?_))))
theorem pioO_ob_X0_walkMatch  {x0 : Option Nat} {x1 : Option Nat} {x2 : Option Nat} {σ : oSt} (hP : iKptO P) (hc : cQoO P call)  (h : P σ) : PIo P (ob_X0_walkMatch n call κ  x0 x1 x2 σ) := by
  unfold ob_X0_walkMatch
  repeat' (with_reducible (first | assumption | (refine PIoO_gd ?_) | (refine PIoO_pf hP ?_ (by decide) (by with_unfolding_all rfl) (fun _ _ => ?_)) | (refine PIoO_si hP ?_ (fun _ _ => ?_)) | (refine PIoO_sj hP ?_ (fun _ _ => ?_)) | (refine PIoO_sr hP ?_ (fun _ _ => ?_)) | (refine PIoO_cy hP ?_ (fun _ _ => ?_)) | (refine PIoO_bn (fun _ => ?_)) | (refine PIoO_na hP ?_ (fun _ _ => ?_)) | (refine PIoO_no hP ?_ (fun _ _ => ?_)) | (refine PIoO_ite ?_ ?_) | (refine PIoO_some ?_) | (exact PIoO_none) | (refine PIoO_cv (cQoO.c1 hc _ _ _ ?_) (fun _ _ => ?_)) | (refine PIoO_cv (cQoO.c2 hc _ _ _ _ ?_) (fun _ _ => ?_)) | (refine PIoO_cv (cQoO.c12 hc _ _ _ _ _ ?_) (fun _ _ => ?_)) | (refine PIoO_cv (cQoO.c13 hc _ _ _ _ _ ?_) (fun _ _ => ?_)) | (refine PIoO_rn (cQoO.c11 hc _ _ _ _ ?_) (fun _ _ _ => ?_)) | (refine PIoO_rn (cQoO.c17 hc _ _ _ ?_) (fun _ _ _ => ?_)) | (refine PIoO_rn (cQoO.c28 hc _ _ _ _ _ ?_) (fun _ _ _ => ?_)) | (refine PIoO_rn (cQoO.c30 hc _ _ _ _ ?_) (fun _ _ _ => ?_)) | (refine PIoO_rn (cQoO.c234 hc _ _ _ ?_) (fun _ _ _ => ?_))))
theorem pioO_ob_X0_walkRec  {x0 : Option Nat} {x1 : Option Nat} {x2 : Option Nat} {σ : oSt} (hP : iKptO P) (hc : cQoO P call)  (h : P σ) : PIo P (ob_X0_walkRec n call κ  x0 x1 x2 σ) := by
  unfold ob_X0_walkRec
  repeat' (with_reducible (first | assumption | (refine PIoO_gd ?_) | (refine PIoO_pf hP ?_ (by decide) (by with_unfolding_all rfl) (fun _ _ => ?_)) | (refine PIoO_si hP ?_ (fun _ _ => ?_)) | (refine PIoO_sj hP ?_ (fun _ _ => ?_)) | (refine PIoO_sr hP ?_ (fun _ _ => ?_)) | (refine PIoO_cy hP ?_ (fun _ _ => ?_)) | (refine PIoO_bn (fun _ => ?_)) | (refine PIoO_na hP ?_ (fun _ _ => ?_)) | (refine PIoO_no hP ?_ (fun _ _ => ?_)) | (refine PIoO_ite ?_ ?_) | (refine PIoO_some ?_) | (exact PIoO_none) | (refine PIoO_cv (cQoO.c2 hc _ _ _ _ ?_) (fun _ _ => ?_)) | (refine PIoO_cv (cQoO.c12 hc _ _ _ _ _ ?_) (fun _ _ => ?_)) | (refine PIoO_cv (cQoO.c29 hc _ _ _ _ _ ?_) (fun _ _ => ?_)) | (refine PIoO_rn (cQoO.c28 hc _ _ _ _ _ ?_) (fun _ _ _ => ?_)) | (refine PIoO_rn (cQoO.c30 hc _ _ _ _ ?_) (fun _ _ _ => ?_))))
theorem pioO_ol_X0_gather_4  (hP : iKptO P) (hc : cQoO P call)  : ∀ (t : Nat) (x0 : Option Nat) (x1 : Option Nat) (x2 : Int32) (σ : oSt), P σ → PIo P (ol_X0_gather_4 n call κ  t x0 x1 x2 σ) := by
  intro t
  induction t with
  | zero => intros; exact PIoO_none
  | succ t ih =>
    intro x0 x1 x2 σ h
    rw [ol_X0_gather_4]
    repeat' (with_reducible (first | assumption | (refine PIoO_gd ?_) | (refine PIoO_pf hP ?_ (by decide) (by with_unfolding_all rfl) (fun _ _ => ?_)) | (refine PIoO_si hP ?_ (fun _ _ => ?_)) | (refine PIoO_sj hP ?_ (fun _ _ => ?_)) | (refine PIoO_sr hP ?_ (fun _ _ => ?_)) | (refine PIoO_cy hP ?_ (fun _ _ => ?_)) | (refine PIoO_bn (fun _ => ?_)) | (refine PIoO_na hP ?_ (fun _ _ => ?_)) | (refine PIoO_no hP ?_ (fun _ _ => ?_)) | (refine PIoO_ite ?_ ?_) | (refine PIoO_some ?_) | (exact PIoO_none) | (refine PIoO_cv (cQoO.c1 hc _ _ _ ?_) (fun _ _ => ?_)) | (refine PIoO_cv (cQoO.c2 hc _ _ _ _ ?_) (fun _ _ => ?_)) | (refine PIoO_rn (cQoO.c30 hc _ _ _ _ ?_) (fun _ _ _ => ?_)) | (refine PIoO_rn (cQoO.c234 hc _ _ _ ?_) (fun _ _ _ => ?_)) | (refine ih _ _ _ _ ?_)))
theorem pioO_ob_X0_gather  {x0 : Option Nat} {σ : oSt} (hP : iKptO P) (hc : cQoO P call)  (h : P σ) : PIo P (ob_X0_gather n call κ  x0 σ) := by
  unfold ob_X0_gather
  repeat' (with_reducible (first | assumption | (refine PIoO_gd ?_) | (refine PIoO_pf hP ?_ (by decide) (by with_unfolding_all rfl) (fun _ _ => ?_)) | (refine PIoO_si hP ?_ (fun _ _ => ?_)) | (refine PIoO_sj hP ?_ (fun _ _ => ?_)) | (refine PIoO_sr hP ?_ (fun _ _ => ?_)) | (refine PIoO_cy hP ?_ (fun _ _ => ?_)) | (refine PIoO_bn (fun _ => ?_)) | (refine PIoO_na hP ?_ (fun _ _ => ?_)) | (refine PIoO_no hP ?_ (fun _ _ => ?_)) | (refine PIoO_ite ?_ ?_) | (refine PIoO_some ?_) | (exact PIoO_none) | (refine pioO_ol_X0_gather_4 hP hc  _ _ _ _ _ ?_)))
theorem pioO_oj_X9_isFact_68   {σ : oSt} (hP : iKptO P) (hc : cQoO P call)  (h : P σ) : PIo P (oj_X9_isFact_68 n call κ   σ) := by
  unfold oj_X9_isFact_68
  repeat' (with_reducible (first | assumption | (refine PIoO_gd ?_) | (refine PIoO_pf hP ?_ (by decide) (by with_unfolding_all rfl) (fun _ _ => ?_)) | (refine PIoO_si hP ?_ (fun _ _ => ?_)) | (refine PIoO_sj hP ?_ (fun _ _ => ?_)) | (refine PIoO_sr hP ?_ (fun _ _ => ?_)) | (refine PIoO_cy hP ?_ (fun _ _ => ?_)) | (refine PIoO_bn (fun _ => ?_)) | (refine PIoO_na hP ?_ (fun _ _ => ?_)) | (refine PIoO_no hP ?_ (fun _ _ => ?_)) | (refine PIoO_ite ?_ ?_) | (refine PIoO_some ?_) | (exact PIoO_none)))
theorem pioO_ob_X9_isFact  {x0 : Option Nat} {σ : oSt} (hP : iKptO P) (hc : cQoO P call)  (h : P σ) : PIo P (ob_X9_isFact n call κ  x0 σ) := by
  unfold ob_X9_isFact
  repeat' (with_reducible (first | assumption | (refine PIoO_gd ?_) | (refine PIoO_pf hP ?_ (by decide) (by with_unfolding_all rfl) (fun _ _ => ?_)) | (refine PIoO_si hP ?_ (fun _ _ => ?_)) | (refine PIoO_sj hP ?_ (fun _ _ => ?_)) | (refine PIoO_sr hP ?_ (fun _ _ => ?_)) | (refine PIoO_cy hP ?_ (fun _ _ => ?_)) | (refine PIoO_bn (fun _ => ?_)) | (refine PIoO_na hP ?_ (fun _ _ => ?_)) | (refine PIoO_no hP ?_ (fun _ _ => ?_)) | (refine PIoO_ite ?_ ?_) | (refine PIoO_some ?_) | (exact PIoO_none) | (refine pioO_oj_X9_isFact_68 hP hc  ?_)))
theorem pioO_oj_X1_isFormed_90 {k28 : Option Nat → Int32 → Int32 → oSt → oRs} {x0 : Option Nat} {x2 : Int32} {t0 : Int32} {σ : oSt} (hP : iKptO P) (hc : cQoO P call) (hk28 : ∀ (a0 : Option Nat) (a1 : Int32) (a2 : Int32), ∀ σ, P σ → PIo P (k28 a0 a1 a2 σ)) (h : P σ) : PIo P (oj_X1_isFormed_90 n call κ k28 x0 x2 t0 σ) := by
  unfold oj_X1_isFormed_90
  repeat' (with_reducible (first | assumption | (refine PIoO_gd ?_) | (refine PIoO_pf hP ?_ (by decide) (by with_unfolding_all rfl) (fun _ _ => ?_)) | (refine PIoO_si hP ?_ (fun _ _ => ?_)) | (refine PIoO_sj hP ?_ (fun _ _ => ?_)) | (refine PIoO_sr hP ?_ (fun _ _ => ?_)) | (refine PIoO_cy hP ?_ (fun _ _ => ?_)) | (refine PIoO_bn (fun _ => ?_)) | (refine PIoO_na hP ?_ (fun _ _ => ?_)) | (refine PIoO_no hP ?_ (fun _ _ => ?_)) | (refine PIoO_ite ?_ ?_) | (refine PIoO_some ?_) | (exact PIoO_none) | (refine hk28 _ _ _ _ ?_)))
theorem pioO_oj_X1_isFormed_89 {k28 : Option Nat → Int32 → Int32 → oSt → oRs} {x0 : Option Nat} {x2 : Int32} {σ : oSt} (hP : iKptO P) (hc : cQoO P call) (hk28 : ∀ (a0 : Option Nat) (a1 : Int32) (a2 : Int32), ∀ σ, P σ → PIo P (k28 a0 a1 a2 σ)) (h : P σ) : PIo P (oj_X1_isFormed_89 n call κ k28 x0 x2 σ) := by
  unfold oj_X1_isFormed_89
  repeat' (with_reducible (first | assumption | (refine PIoO_gd ?_) | (refine PIoO_pf hP ?_ (by decide) (by with_unfolding_all rfl) (fun _ _ => ?_)) | (refine PIoO_si hP ?_ (fun _ _ => ?_)) | (refine PIoO_sj hP ?_ (fun _ _ => ?_)) | (refine PIoO_sr hP ?_ (fun _ _ => ?_)) | (refine PIoO_cy hP ?_ (fun _ _ => ?_)) | (refine PIoO_bn (fun _ => ?_)) | (refine PIoO_na hP ?_ (fun _ _ => ?_)) | (refine PIoO_no hP ?_ (fun _ _ => ?_)) | (refine PIoO_ite ?_ ?_) | (refine PIoO_some ?_) | (exact PIoO_none) | (refine pioO_oj_X1_isFormed_90 hP hc hk28 ?_) | (refine hk28 _ _ _ _ ?_)))
theorem pioO_oj_X1_isFormed_85 {k28 : Option Nat → Int32 → Int32 → oSt → oRs} {x0 : Option Nat} {x2 : Int32} {σ : oSt} (hP : iKptO P) (hc : cQoO P call) (hk28 : ∀ (a0 : Option Nat) (a1 : Int32) (a2 : Int32), ∀ σ, P σ → PIo P (k28 a0 a1 a2 σ)) (h : P σ) : PIo P (oj_X1_isFormed_85 n call κ k28 x0 x2 σ) := by
  unfold oj_X1_isFormed_85
  repeat' (with_reducible (first | assumption | (refine PIoO_gd ?_) | (refine PIoO_pf hP ?_ (by decide) (by with_unfolding_all rfl) (fun _ _ => ?_)) | (refine PIoO_si hP ?_ (fun _ _ => ?_)) | (refine PIoO_sj hP ?_ (fun _ _ => ?_)) | (refine PIoO_sr hP ?_ (fun _ _ => ?_)) | (refine PIoO_cy hP ?_ (fun _ _ => ?_)) | (refine PIoO_bn (fun _ => ?_)) | (refine PIoO_na hP ?_ (fun _ _ => ?_)) | (refine PIoO_no hP ?_ (fun _ _ => ?_)) | (refine PIoO_ite ?_ ?_) | (refine PIoO_some ?_) | (exact PIoO_none) | (refine pioO_oj_X1_isFormed_90 hP hc hk28 ?_) | (refine hk28 _ _ _ _ ?_)))
theorem pioO_ol_X1_isFormed_28  (hP : iKptO P) (hc : cQoO P call)  : ∀ (t : Nat) (x0 : Option Nat) (x1 : Int32) (x2 : Int32) (σ : oSt), P σ → PIo P (ol_X1_isFormed_28 n call κ  t x0 x1 x2 σ) := by
  intro t
  induction t with
  | zero => intros; exact PIoO_none
  | succ t ih =>
    intro x0 x1 x2 σ h
    rw [ol_X1_isFormed_28]
    repeat' (with_reducible (first | assumption | (refine PIoO_gd ?_) | (refine PIoO_pf hP ?_ (by decide) (by with_unfolding_all rfl) (fun _ _ => ?_)) | (refine PIoO_si hP ?_ (fun _ _ => ?_)) | (refine PIoO_sj hP ?_ (fun _ _ => ?_)) | (refine PIoO_sr hP ?_ (fun _ _ => ?_)) | (refine PIoO_cy hP ?_ (fun _ _ => ?_)) | (refine PIoO_bn (fun _ => ?_)) | (refine PIoO_na hP ?_ (fun _ _ => ?_)) | (refine PIoO_no hP ?_ (fun _ _ => ?_)) | (refine PIoO_ite ?_ ?_) | (refine PIoO_some ?_) | (exact PIoO_none) | (refine PIoO_in (cQoO.c38 hc _ _ ?_) (fun _ _ _ => ?_)) | (refine PIoO_in (cQoO.c236 hc _ _ ?_) (fun _ _ _ => ?_)) | (refine PIoO_rn (cQoO.c234 hc _ _ _ ?_) (fun _ _ _ => ?_)) | (refine pioO_oj_X1_isFormed_89 hP hc ih ?_) | (refine pioO_oj_X1_isFormed_85 hP hc ih ?_)))
theorem pioO_oj_X1_isFormed_25  {x0 : Option Nat} {t0 : Int32} {σ : oSt} (hP : iKptO P) (hc : cQoO P call)  (h : P σ) : PIo P (oj_X1_isFormed_25 n call κ  x0 t0 σ) := by
  unfold oj_X1_isFormed_25
  repeat' (with_reducible (first | assumption | (refine PIoO_gd ?_) | (refine PIoO_pf hP ?_ (by decide) (by with_unfolding_all rfl) (fun _ _ => ?_)) | (refine PIoO_si hP ?_ (fun _ _ => ?_)) | (refine PIoO_sj hP ?_ (fun _ _ => ?_)) | (refine PIoO_sr hP ?_ (fun _ _ => ?_)) | (refine PIoO_cy hP ?_ (fun _ _ => ?_)) | (refine PIoO_bn (fun _ => ?_)) | (refine PIoO_na hP ?_ (fun _ _ => ?_)) | (refine PIoO_no hP ?_ (fun _ _ => ?_)) | (refine PIoO_ite ?_ ?_) | (refine PIoO_some ?_) | (exact PIoO_none) | (refine pioO_ol_X1_isFormed_28 hP hc  _ _ _ _ _ ?_)))
theorem pioO_oj_X1_isFormed_20  {x0 : Option Nat} {σ : oSt} (hP : iKptO P) (hc : cQoO P call)  (h : P σ) : PIo P (oj_X1_isFormed_20 n call κ  x0 σ) := by
  unfold oj_X1_isFormed_20
  repeat' (with_reducible (first | assumption | (refine PIoO_gd ?_) | (refine PIoO_pf hP ?_ (by decide) (by with_unfolding_all rfl) (fun _ _ => ?_)) | (refine PIoO_si hP ?_ (fun _ _ => ?_)) | (refine PIoO_sj hP ?_ (fun _ _ => ?_)) | (refine PIoO_sr hP ?_ (fun _ _ => ?_)) | (refine PIoO_cy hP ?_ (fun _ _ => ?_)) | (refine PIoO_bn (fun _ => ?_)) | (refine PIoO_na hP ?_ (fun _ _ => ?_)) | (refine PIoO_no hP ?_ (fun _ _ => ?_)) | (refine PIoO_ite ?_ ?_) | (refine PIoO_some ?_) | (exact PIoO_none) | (refine pioO_oj_X1_isFormed_25 hP hc  ?_)))
theorem pioO_ob_X1_isFormed  {x0 : Option Nat} {σ : oSt} (hP : iKptO P) (hc : cQoO P call)  (h : P σ) : PIo P (ob_X1_isFormed n call κ  x0 σ) := by
  unfold ob_X1_isFormed
  repeat' (with_reducible (first | assumption | (refine PIoO_gd ?_) | (refine PIoO_pf hP ?_ (by decide) (by with_unfolding_all rfl) (fun _ _ => ?_)) | (refine PIoO_si hP ?_ (fun _ _ => ?_)) | (refine PIoO_sj hP ?_ (fun _ _ => ?_)) | (refine PIoO_sr hP ?_ (fun _ _ => ?_)) | (refine PIoO_cy hP ?_ (fun _ _ => ?_)) | (refine PIoO_bn (fun _ => ?_)) | (refine PIoO_na hP ?_ (fun _ _ => ?_)) | (refine PIoO_no hP ?_ (fun _ _ => ?_)) | (refine PIoO_ite ?_ ?_) | (refine PIoO_some ?_) | (exact PIoO_none) | (refine PIoO_in (cQoO.c38 hc _ _ ?_) (fun _ _ _ => ?_)) | (refine pioO_oj_X1_isFormed_25 hP hc  ?_) | (refine pioO_oj_X1_isFormed_20 hP hc  ?_)))
theorem pioO_ob_X6_makeRoom  {x0 : Option Nat} {x1 : Int32} {σ : oSt} (hP : iKptO P) (hc : cQoO P call)  (h : P σ) : PIo P (ob_X6_makeRoom n call κ  x0 x1 σ) := by
  unfold ob_X6_makeRoom
  repeat' (with_reducible (first | assumption | (refine PIoO_gd ?_) | (refine PIoO_pf hP ?_ (by decide) (by with_unfolding_all rfl) (fun _ _ => ?_)) | (refine PIoO_si hP ?_ (fun _ _ => ?_)) | (refine PIoO_sj hP ?_ (fun _ _ => ?_)) | (refine PIoO_sr hP ?_ (fun _ _ => ?_)) | (refine PIoO_cy hP ?_ (fun _ _ => ?_)) | (refine PIoO_bn (fun _ => ?_)) | (refine PIoO_na hP ?_ (fun _ _ => ?_)) | (refine PIoO_no hP ?_ (fun _ _ => ?_)) | (refine PIoO_ite ?_ ?_) | (refine PIoO_some ?_) | (exact PIoO_none) | (refine PIoO_rn (cQoO.c239 hc _ _ _ ?_) (fun _ _ _ => ?_))))
theorem pioO_ol_X6_reset_67  (hP : iKptO P) (hc : cQoO P call)  : ∀ (t : Nat) (x0 : Option Nat) (x1 : Int32) (σ : oSt), P σ → PIo P (ol_X6_reset_67 n call κ  t x0 x1 σ) := by
  intro t
  induction t with
  | zero => intros; exact PIoO_none
  | succ t ih =>
    intro x0 x1 σ h
    rw [ol_X6_reset_67]
    repeat' (with_reducible (first | assumption | (refine PIoO_gd ?_) | (refine PIoO_pf hP ?_ (by decide) (by with_unfolding_all rfl) (fun _ _ => ?_)) | (refine PIoO_si hP ?_ (fun _ _ => ?_)) | (refine PIoO_sj hP ?_ (fun _ _ => ?_)) | (refine PIoO_sr hP ?_ (fun _ _ => ?_)) | (refine PIoO_cy hP ?_ (fun _ _ => ?_)) | (refine PIoO_bn (fun _ => ?_)) | (refine PIoO_na hP ?_ (fun _ _ => ?_)) | (refine PIoO_no hP ?_ (fun _ _ => ?_)) | (refine PIoO_ite ?_ ?_) | (refine PIoO_some ?_) | (exact PIoO_none) | (refine ih _ _ _ ?_)))
theorem pioO_ol_X6_reset_37  (hP : iKptO P) (hc : cQoO P call)  : ∀ (t : Nat) (x0 : Option Nat) (x1 : Int32) (σ : oSt), P σ → PIo P (ol_X6_reset_37 n call κ  t x0 x1 σ) := by
  intro t
  induction t with
  | zero => intros; exact PIoO_none
  | succ t ih =>
    intro x0 x1 σ h
    rw [ol_X6_reset_37]
    repeat' (with_reducible (first | assumption | (refine PIoO_gd ?_) | (refine PIoO_pf hP ?_ (by decide) (by with_unfolding_all rfl) (fun _ _ => ?_)) | (refine PIoO_si hP ?_ (fun _ _ => ?_)) | (refine PIoO_sj hP ?_ (fun _ _ => ?_)) | (refine PIoO_sr hP ?_ (fun _ _ => ?_)) | (refine PIoO_cy hP ?_ (fun _ _ => ?_)) | (refine PIoO_bn (fun _ => ?_)) | (refine PIoO_na hP ?_ (fun _ _ => ?_)) | (refine PIoO_no hP ?_ (fun _ _ => ?_)) | (refine PIoO_ite ?_ ?_) | (refine PIoO_some ?_) | (exact PIoO_none) | (refine pioO_ol_X6_reset_67 hP hc  _ _ _ _ ?_) | (refine ih _ _ _ ?_)))
theorem pioO_ob_X6_reset  {x0 : Option Nat} {x1 : Int32} {σ : oSt} (hP : iKptO P) (hc : cQoO P call)  (h : P σ) : PIo P (ob_X6_reset n call κ  x0 x1 σ) := by
  unfold ob_X6_reset
  repeat' (with_reducible (first | assumption | (refine PIoO_gd ?_) | (refine PIoO_pf hP ?_ (by decide) (by with_unfolding_all rfl) (fun _ _ => ?_)) | (refine PIoO_si hP ?_ (fun _ _ => ?_)) | (refine PIoO_sj hP ?_ (fun _ _ => ?_)) | (refine PIoO_sr hP ?_ (fun _ _ => ?_)) | (refine PIoO_cy hP ?_ (fun _ _ => ?_)) | (refine PIoO_bn (fun _ => ?_)) | (refine PIoO_na hP ?_ (fun _ _ => ?_)) | (refine PIoO_no hP ?_ (fun _ _ => ?_)) | (refine PIoO_ite ?_ ?_) | (refine PIoO_some ?_) | (exact PIoO_none) | (refine PIoO_cv (cQoO.c40 hc _ _ _ ?_) (fun _ _ => ?_)) | (refine pioO_ol_X6_reset_37 hP hc  _ _ _ _ ?_)))
theorem pioO_oj_X6_lead_148 {k16 : Option Nat → Int32 → Int64 → Int32 → Int32 → oSt → oRs} {x0 : Option Nat} {x1 : Int32} {x3 : Int64} {x5 : Int32} {x6 : Int32} {σ : oSt} (hP : iKptO P) (hc : cQoO P call) (hk16 : ∀ (a0 : Option Nat) (a1 : Int32) (a2 : Int64) (a3 : Int32) (a4 : Int32), ∀ σ, P σ → PIo P (k16 a0 a1 a2 a3 a4 σ)) (h : P σ) : PIo P (oj_X6_lead_148 n call κ k16 x0 x1 x3 x5 x6 σ) := by
  unfold oj_X6_lead_148
  repeat' (with_reducible (first | assumption | (refine PIoO_gd ?_) | (refine PIoO_pf hP ?_ (by decide) (by with_unfolding_all rfl) (fun _ _ => ?_)) | (refine PIoO_si hP ?_ (fun _ _ => ?_)) | (refine PIoO_sj hP ?_ (fun _ _ => ?_)) | (refine PIoO_sr hP ?_ (fun _ _ => ?_)) | (refine PIoO_cy hP ?_ (fun _ _ => ?_)) | (refine PIoO_bn (fun _ => ?_)) | (refine PIoO_na hP ?_ (fun _ _ => ?_)) | (refine PIoO_no hP ?_ (fun _ _ => ?_)) | (refine PIoO_ite ?_ ?_) | (refine PIoO_some ?_) | (exact PIoO_none) | (refine hk16 _ _ _ _ _ _ ?_)))
theorem pioO_oj_X6_lead_142 {k16 : Option Nat → Int32 → Int64 → Int32 → Int32 → oSt → oRs} {k53 : Option Nat → Int32 → Int64 → Int32 → Int32 → Int32 → Int64 → Int32 → oSt → oRs} {x0 : Option Nat} {x1 : Int32} {x3 : Int64} {x5 : Int32} {x6 : Int32} {x7 : Int32} {x8 : Int64} {x10 : Int32} {σ : oSt} (hP : iKptO P) (hc : cQoO P call) (hk16 : ∀ (a0 : Option Nat) (a1 : Int32) (a2 : Int64) (a3 : Int32) (a4 : Int32), ∀ σ, P σ → PIo P (k16 a0 a1 a2 a3 a4 σ)) (hk53 : ∀ (a0 : Option Nat) (a1 : Int32) (a2 : Int64) (a3 : Int32) (a4 : Int32) (a5 : Int32) (a6 : Int64) (a7 : Int32), ∀ σ, P σ → PIo P (k53 a0 a1 a2 a3 a4 a5 a6 a7 σ)) (h : P σ) : PIo P (oj_X6_lead_142 n call κ k16 k53 x0 x1 x3 x5 x6 x7 x8 x10 σ) := by
  unfold oj_X6_lead_142
  repeat' (with_reducible (first | assumption | (refine PIoO_gd ?_) | (refine PIoO_pf hP ?_ (by decide) (by with_unfolding_all rfl) (fun _ _ => ?_)) | (refine PIoO_si hP ?_ (fun _ _ => ?_)) | (refine PIoO_sj hP ?_ (fun _ _ => ?_)) | (refine PIoO_sr hP ?_ (fun _ _ => ?_)) | (refine PIoO_cy hP ?_ (fun _ _ => ?_)) | (refine PIoO_bn (fun _ => ?_)) | (refine PIoO_na hP ?_ (fun _ _ => ?_)) | (refine PIoO_no hP ?_ (fun _ _ => ?_)) | (refine PIoO_ite ?_ ?_) | (refine PIoO_some ?_) | (exact PIoO_none) | (refine hk16 _ _ _ _ _ _ ?_) | (refine hk53 _ _ _ _ _ _ _ _ _ ?_)))
theorem pioO_ol_X6_lead_53 {k16 : Option Nat → Int32 → Int64 → Int32 → Int32 → oSt → oRs} (hP : iKptO P) (hc : cQoO P call) (hk16 : ∀ (a0 : Option Nat) (a1 : Int32) (a2 : Int64) (a3 : Int32) (a4 : Int32), ∀ σ, P σ → PIo P (k16 a0 a1 a2 a3 a4 σ)) : ∀ (t : Nat) (x0 : Option Nat) (x1 : Int32) (x2 : Int64) (x3 : Int32) (x4 : Int32) (x5 : Int32) (x6 : Int64) (x7 : Int32) (σ : oSt), P σ → PIo P (ol_X6_lead_53 n call κ k16 t x0 x1 x2 x3 x4 x5 x6 x7 σ) := by
  intro t
  induction t with
  | zero => intros; exact PIoO_none
  | succ t ih =>
    intro x0 x1 x2 x3 x4 x5 x6 x7 σ h
    rw [ol_X6_lead_53]
    repeat' (with_reducible (first | assumption | (refine PIoO_gd ?_) | (refine PIoO_pf hP ?_ (by decide) (by with_unfolding_all rfl) (fun _ _ => ?_)) | (refine PIoO_si hP ?_ (fun _ _ => ?_)) | (refine PIoO_sj hP ?_ (fun _ _ => ?_)) | (refine PIoO_sr hP ?_ (fun _ _ => ?_)) | (refine PIoO_cy hP ?_ (fun _ _ => ?_)) | (refine PIoO_bn (fun _ => ?_)) | (refine PIoO_na hP ?_ (fun _ _ => ?_)) | (refine PIoO_no hP ?_ (fun _ _ => ?_)) | (refine PIoO_ite ?_ ?_) | (refine PIoO_some ?_) | (exact PIoO_none) | (refine pioO_oj_X6_lead_148 hP hc hk16 ?_) | (refine pioO_oj_X6_lead_142 hP hc hk16 ih ?_) | (refine hk16 _ _ _ _ _ _ ?_)))
theorem pioO_ol_X6_lead_16  (hP : iKptO P) (hc : cQoO P call)  : ∀ (t : Nat) (x0 : Option Nat) (x1 : Int32) (x2 : Int64) (x3 : Int32) (x4 : Int32) (σ : oSt), P σ → PIo P (ol_X6_lead_16 n call κ  t x0 x1 x2 x3 x4 σ) := by
  intro t
  induction t with
  | zero => intros; exact PIoO_none
  | succ t ih =>
    intro x0 x1 x2 x3 x4 σ h
    rw [ol_X6_lead_16]
    repeat' (with_reducible (first | assumption | (refine PIoO_gd ?_) | (refine PIoO_pf hP ?_ (by decide) (by with_unfolding_all rfl) (fun _ _ => ?_)) | (refine PIoO_si hP ?_ (fun _ _ => ?_)) | (refine PIoO_sj hP ?_ (fun _ _ => ?_)) | (refine PIoO_sr hP ?_ (fun _ _ => ?_)) | (refine PIoO_cy hP ?_ (fun _ _ => ?_)) | (refine PIoO_bn (fun _ => ?_)) | (refine PIoO_na hP ?_ (fun _ _ => ?_)) | (refine PIoO_no hP ?_ (fun _ _ => ?_)) | (refine PIoO_ite ?_ ?_) | (refine PIoO_some ?_) | (exact PIoO_none) | (refine pioO_ol_X6_lead_53 hP hc ih _ _ _ _ _ _ _ _ _ _ ?_)))
theorem pioO_ob_X6_lead  {x0 : Option Nat} {x1 : Int32} {x2 : Int32} {x3 : Int64} {σ : oSt} (hP : iKptO P) (hc : cQoO P call)  (h : P σ) : PIo P (ob_X6_lead n call κ  x0 x1 x2 x3 σ) := by
  unfold ob_X6_lead
  repeat' (with_reducible (first | assumption | (refine PIoO_gd ?_) | (refine PIoO_pf hP ?_ (by decide) (by with_unfolding_all rfl) (fun _ _ => ?_)) | (refine PIoO_si hP ?_ (fun _ _ => ?_)) | (refine PIoO_sj hP ?_ (fun _ _ => ?_)) | (refine PIoO_sr hP ?_ (fun _ _ => ?_)) | (refine PIoO_cy hP ?_ (fun _ _ => ?_)) | (refine PIoO_bn (fun _ => ?_)) | (refine PIoO_na hP ?_ (fun _ _ => ?_)) | (refine PIoO_no hP ?_ (fun _ _ => ?_)) | (refine PIoO_ite ?_ ?_) | (refine PIoO_some ?_) | (exact PIoO_none) | (refine pioO_ol_X6_lead_16 hP hc  _ _ _ _ _ _ _ ?_)))
theorem pioO_oj_X6_tighten_278 {k98 : Option Nat → Int32 → oSt → oRs} {x0 : Option Nat} {x1 : Int32} {σ : oSt} (hP : iKptO P) (hc : cQoO P call) (hk98 : ∀ (a0 : Option Nat) (a1 : Int32), ∀ σ, P σ → PIo P (k98 a0 a1 σ)) (h : P σ) : PIo P (oj_X6_tighten_278 n call κ k98 x0 x1 σ) := by
  unfold oj_X6_tighten_278
  repeat' (with_reducible (first | assumption | (refine PIoO_gd ?_) | (refine PIoO_pf hP ?_ (by decide) (by with_unfolding_all rfl) (fun _ _ => ?_)) | (refine PIoO_si hP ?_ (fun _ _ => ?_)) | (refine PIoO_sj hP ?_ (fun _ _ => ?_)) | (refine PIoO_sr hP ?_ (fun _ _ => ?_)) | (refine PIoO_cy hP ?_ (fun _ _ => ?_)) | (refine PIoO_bn (fun _ => ?_)) | (refine PIoO_na hP ?_ (fun _ _ => ?_)) | (refine PIoO_no hP ?_ (fun _ _ => ?_)) | (refine PIoO_ite ?_ ?_) | (refine PIoO_some ?_) | (exact PIoO_none) | (refine hk98 _ _ _ ?_)))
theorem pioO_oj_X6_tighten_272 {k98 : Option Nat → Int32 → oSt → oRs} {k181 : Option Nat → Int32 → Int64 → Int32 → oSt → oRs} {x0 : Option Nat} {x1 : Int32} {x2 : Int64} {x4 : Int32} {σ : oSt} (hP : iKptO P) (hc : cQoO P call) (hk98 : ∀ (a0 : Option Nat) (a1 : Int32), ∀ σ, P σ → PIo P (k98 a0 a1 σ)) (hk181 : ∀ (a0 : Option Nat) (a1 : Int32) (a2 : Int64) (a3 : Int32), ∀ σ, P σ → PIo P (k181 a0 a1 a2 a3 σ)) (h : P σ) : PIo P (oj_X6_tighten_272 n call κ k98 k181 x0 x1 x2 x4 σ) := by
  unfold oj_X6_tighten_272
  repeat' (with_reducible (first | assumption | (refine PIoO_gd ?_) | (refine PIoO_pf hP ?_ (by decide) (by with_unfolding_all rfl) (fun _ _ => ?_)) | (refine PIoO_si hP ?_ (fun _ _ => ?_)) | (refine PIoO_sj hP ?_ (fun _ _ => ?_)) | (refine PIoO_sr hP ?_ (fun _ _ => ?_)) | (refine PIoO_cy hP ?_ (fun _ _ => ?_)) | (refine PIoO_bn (fun _ => ?_)) | (refine PIoO_na hP ?_ (fun _ _ => ?_)) | (refine PIoO_no hP ?_ (fun _ _ => ?_)) | (refine PIoO_ite ?_ ?_) | (refine PIoO_some ?_) | (exact PIoO_none) | (refine hk98 _ _ _ ?_) | (refine hk181 _ _ _ _ _ ?_)))
theorem pioO_ol_X6_tighten_181 {k98 : Option Nat → Int32 → oSt → oRs} (hP : iKptO P) (hc : cQoO P call) (hk98 : ∀ (a0 : Option Nat) (a1 : Int32), ∀ σ, P σ → PIo P (k98 a0 a1 σ)) : ∀ (t : Nat) (x0 : Option Nat) (x1 : Int32) (x2 : Int64) (x3 : Int32) (σ : oSt), P σ → PIo P (ol_X6_tighten_181 n call κ k98 t x0 x1 x2 x3 σ) := by
  intro t
  induction t with
  | zero => intros; exact PIoO_none
  | succ t ih =>
    intro x0 x1 x2 x3 σ h
    rw [ol_X6_tighten_181]
    repeat' (with_reducible (first | assumption | (refine PIoO_gd ?_) | (refine PIoO_pf hP ?_ (by decide) (by with_unfolding_all rfl) (fun _ _ => ?_)) | (refine PIoO_si hP ?_ (fun _ _ => ?_)) | (refine PIoO_sj hP ?_ (fun _ _ => ?_)) | (refine PIoO_sr hP ?_ (fun _ _ => ?_)) | (refine PIoO_cy hP ?_ (fun _ _ => ?_)) | (refine PIoO_bn (fun _ => ?_)) | (refine PIoO_na hP ?_ (fun _ _ => ?_)) | (refine PIoO_no hP ?_ (fun _ _ => ?_)) | (refine PIoO_ite ?_ ?_) | (refine PIoO_some ?_) | (exact PIoO_none) | (refine pioO_oj_X6_tighten_278 hP hc hk98 ?_) | (refine pioO_oj_X6_tighten_272 hP hc hk98 ih ?_) | (refine hk98 _ _ _ ?_)))
theorem pioO_oj_X6_tighten_175 {k98 : Option Nat → Int32 → oSt → oRs} {x0 : Option Nat} {x1 : Int32} {x2 : Int64} {t0 : Option Nat} {t1 : Int32} {σ : oSt} (hP : iKptO P) (hc : cQoO P call) (hk98 : ∀ (a0 : Option Nat) (a1 : Int32), ∀ σ, P σ → PIo P (k98 a0 a1 σ)) (h : P σ) : PIo P (oj_X6_tighten_175 n call κ k98 x0 x1 x2 t0 t1 σ) := by
  unfold oj_X6_tighten_175
  repeat' (with_reducible (first | assumption | (refine PIoO_gd ?_) | (refine PIoO_pf hP ?_ (by decide) (by with_unfolding_all rfl) (fun _ _ => ?_)) | (refine PIoO_si hP ?_ (fun _ _ => ?_)) | (refine PIoO_sj hP ?_ (fun _ _ => ?_)) | (refine PIoO_sr hP ?_ (fun _ _ => ?_)) | (refine PIoO_cy hP ?_ (fun _ _ => ?_)) | (refine PIoO_bn (fun _ => ?_)) | (refine PIoO_na hP ?_ (fun _ _ => ?_)) | (refine PIoO_no hP ?_ (fun _ _ => ?_)) | (refine PIoO_ite ?_ ?_) | (refine PIoO_some ?_) | (exact PIoO_none) | (refine pioO_ol_X6_tighten_181 hP hc hk98 _ _ _ _ _ _ ?_) | (refine hk98 _ _ _ ?_)))
theorem pioO_oj_X6_tighten_174 {k98 : Option Nat → Int32 → oSt → oRs} {x0 : Option Nat} {x1 : Int32} {x2 : Int64} {t0 : Option Nat} {σ : oSt} (hP : iKptO P) (hc : cQoO P call) (hk98 : ∀ (a0 : Option Nat) (a1 : Int32), ∀ σ, P σ → PIo P (k98 a0 a1 σ)) (h : P σ) : PIo P (oj_X6_tighten_174 n call κ k98 x0 x1 x2 t0 σ) := by
  unfold oj_X6_tighten_174
  repeat' (with_reducible (first | assumption | (refine PIoO_gd ?_) | (refine PIoO_pf hP ?_ (by decide) (by with_unfolding_all rfl) (fun _ _ => ?_)) | (refine PIoO_si hP ?_ (fun _ _ => ?_)) | (refine PIoO_sj hP ?_ (fun _ _ => ?_)) | (refine PIoO_sr hP ?_ (fun _ _ => ?_)) | (refine PIoO_cy hP ?_ (fun _ _ => ?_)) | (refine PIoO_bn (fun _ => ?_)) | (refine PIoO_na hP ?_ (fun _ _ => ?_)) | (refine PIoO_no hP ?_ (fun _ _ => ?_)) | (refine PIoO_ite ?_ ?_) | (refine PIoO_some ?_) | (exact PIoO_none) | (refine pioO_oj_X6_tighten_175 hP hc hk98 ?_) | (refine hk98 _ _ _ ?_)))
theorem pioO_ol_X6_tighten_98  (hP : iKptO P) (hc : cQoO P call)  : ∀ (t : Nat) (x0 : Option Nat) (x1 : Int32) (σ : oSt), P σ → PIo P (ol_X6_tighten_98 n call κ  t x0 x1 σ) := by
  intro t
  induction t with
  | zero => intros; exact PIoO_none
  | succ t ih =>
    intro x0 x1 σ h
    rw [ol_X6_tighten_98]
    repeat' (with_reducible (first | assumption | (refine PIoO_gd ?_) | (refine PIoO_pf hP ?_ (by decide) (by with_unfolding_all rfl) (fun _ _ => ?_)) | (refine PIoO_si hP ?_ (fun _ _ => ?_)) | (refine PIoO_sj hP ?_ (fun _ _ => ?_)) | (refine PIoO_sr hP ?_ (fun _ _ => ?_)) | (refine PIoO_cy hP ?_ (fun _ _ => ?_)) | (refine PIoO_bn (fun _ => ?_)) | (refine PIoO_na hP ?_ (fun _ _ => ?_)) | (refine PIoO_no hP ?_ (fun _ _ => ?_)) | (refine PIoO_ite ?_ ?_) | (refine PIoO_some ?_) | (exact PIoO_none) | (refine pioO_oj_X6_tighten_174 hP hc ih ?_) | (refine pioO_oj_X6_tighten_175 hP hc ih ?_)))
theorem pioO_oj_X6_tighten_96  {x0 : Option Nat} {σ : oSt} (hP : iKptO P) (hc : cQoO P call)  (h : P σ) : PIo P (oj_X6_tighten_96 n call κ  x0 σ) := by
  unfold oj_X6_tighten_96
  repeat' (with_reducible (first | assumption | (refine PIoO_gd ?_) | (refine PIoO_pf hP ?_ (by decide) (by with_unfolding_all rfl) (fun _ _ => ?_)) | (refine PIoO_si hP ?_ (fun _ _ => ?_)) | (refine PIoO_sj hP ?_ (fun _ _ => ?_)) | (refine PIoO_sr hP ?_ (fun _ _ => ?_)) | (refine PIoO_cy hP ?_ (fun _ _ => ?_)) | (refine PIoO_bn (fun _ => ?_)) | (refine PIoO_na hP ?_ (fun _ _ => ?_)) | (refine PIoO_no hP ?_ (fun _ _ => ?_)) | (refine PIoO_ite ?_ ?_) | (refine PIoO_some ?_) | (exact PIoO_none) | (refine pioO_ol_X6_tighten_98 hP hc  _ _ _ _ ?_)))
theorem pioO_oj_X6_tighten_87 {k2 : Option Nat → Int32 → oSt → oRs} {x0 : Option Nat} {x1 : Int32} {t0 : Option Nat} {t1 : Int32} {σ : oSt} (hP : iKptO P) (hc : cQoO P call) (hk2 : ∀ (a0 : Option Nat) (a1 : Int32), ∀ σ, P σ → PIo P (k2 a0 a1 σ)) (h : P σ) : PIo P (oj_X6_tighten_87 n call κ k2 x0 x1 t0 t1 σ) := by
  unfold oj_X6_tighten_87
  repeat' (with_reducible (first | assumption | (refine PIoO_gd ?_) | (refine PIoO_pf hP ?_ (by decide) (by with_unfolding_all rfl) (fun _ _ => ?_)) | (refine PIoO_si hP ?_ (fun _ _ => ?_)) | (refine PIoO_sj hP ?_ (fun _ _ => ?_)) | (refine PIoO_sr hP ?_ (fun _ _ => ?_)) | (refine PIoO_cy hP ?_ (fun _ _ => ?_)) | (refine PIoO_bn (fun _ => ?_)) | (refine PIoO_na hP ?_ (fun _ _ => ?_)) | (refine PIoO_no hP ?_ (fun _ _ => ?_)) | (refine PIoO_ite ?_ ?_) | (refine PIoO_some ?_) | (exact PIoO_none) | (refine hk2 _ _ _ ?_)))
theorem pioO_oj_X6_tighten_58 {k2 : Option Nat → Int32 → oSt → oRs} {x0 : Option Nat} {x1 : Int32} {σ : oSt} (hP : iKptO P) (hc : cQoO P call) (hk2 : ∀ (a0 : Option Nat) (a1 : Int32), ∀ σ, P σ → PIo P (k2 a0 a1 σ)) (h : P σ) : PIo P (oj_X6_tighten_58 n call κ k2 x0 x1 σ) := by
  unfold oj_X6_tighten_58
  repeat' (with_reducible (first | assumption | (refine PIoO_gd ?_) | (refine PIoO_pf hP ?_ (by decide) (by with_unfolding_all rfl) (fun _ _ => ?_)) | (refine PIoO_si hP ?_ (fun _ _ => ?_)) | (refine PIoO_sj hP ?_ (fun _ _ => ?_)) | (refine PIoO_sr hP ?_ (fun _ _ => ?_)) | (refine PIoO_cy hP ?_ (fun _ _ => ?_)) | (refine PIoO_bn (fun _ => ?_)) | (refine PIoO_na hP ?_ (fun _ _ => ?_)) | (refine PIoO_no hP ?_ (fun _ _ => ?_)) | (refine PIoO_ite ?_ ?_) | (refine PIoO_some ?_) | (exact PIoO_none) | (refine pioO_oj_X6_tighten_87 hP hc hk2 ?_) | (refine hk2 _ _ _ ?_)))
theorem pioO_ol_X6_tighten_2  (hP : iKptO P) (hc : cQoO P call)  : ∀ (t : Nat) (x0 : Option Nat) (x1 : Int32) (σ : oSt), P σ → PIo P (ol_X6_tighten_2 n call κ  t x0 x1 σ) := by
  intro t
  induction t with
  | zero => intros; exact PIoO_none
  | succ t ih =>
    intro x0 x1 σ h
    rw [ol_X6_tighten_2]
    repeat' (with_reducible (first | assumption | (refine PIoO_gd ?_) | (refine PIoO_pf hP ?_ (by decide) (by with_unfolding_all rfl) (fun _ _ => ?_)) | (refine PIoO_si hP ?_ (fun _ _ => ?_)) | (refine PIoO_sj hP ?_ (fun _ _ => ?_)) | (refine PIoO_sr hP ?_ (fun _ _ => ?_)) | (refine PIoO_cy hP ?_ (fun _ _ => ?_)) | (refine PIoO_bn (fun _ => ?_)) | (refine PIoO_na hP ?_ (fun _ _ => ?_)) | (refine PIoO_no hP ?_ (fun _ _ => ?_)) | (refine PIoO_ite ?_ ?_) | (refine PIoO_some ?_) | (exact PIoO_none) | (refine pioO_oj_X6_tighten_96 hP hc  ?_) | (refine pioO_oj_X6_tighten_58 hP hc ih ?_)))
theorem pioO_ob_X6_tighten  {x0 : Option Nat} {σ : oSt} (hP : iKptO P) (hc : cQoO P call)  (h : P σ) : PIo P (ob_X6_tighten n call κ  x0 σ) := by
  unfold ob_X6_tighten
  repeat' (with_reducible (first | assumption | (refine PIoO_gd ?_) | (refine PIoO_pf hP ?_ (by decide) (by with_unfolding_all rfl) (fun _ _ => ?_)) | (refine PIoO_si hP ?_ (fun _ _ => ?_)) | (refine PIoO_sj hP ?_ (fun _ _ => ?_)) | (refine PIoO_sr hP ?_ (fun _ _ => ?_)) | (refine PIoO_cy hP ?_ (fun _ _ => ?_)) | (refine PIoO_bn (fun _ => ?_)) | (refine PIoO_na hP ?_ (fun _ _ => ?_)) | (refine PIoO_no hP ?_ (fun _ _ => ?_)) | (refine PIoO_ite ?_ ?_) | (refine PIoO_some ?_) | (exact PIoO_none) | (refine pioO_ol_X6_tighten_2 hP hc  _ _ _ _ ?_)))
theorem pioO_oj_X6_limit_21  {t0 : Option Nat} {σ : oSt} (hP : iKptO P) (hc : cQoO P call)  (h : P σ) : PIo P (oj_X6_limit_21 n call κ  t0 σ) := by
  unfold oj_X6_limit_21
  repeat' (with_reducible (first | assumption | (refine PIoO_gd ?_) | (refine PIoO_pf hP ?_ (by decide) (by with_unfolding_all rfl) (fun _ _ => ?_)) | (refine PIoO_si hP ?_ (fun _ _ => ?_)) | (refine PIoO_sj hP ?_ (fun _ _ => ?_)) | (refine PIoO_sr hP ?_ (fun _ _ => ?_)) | (refine PIoO_cy hP ?_ (fun _ _ => ?_)) | (refine PIoO_bn (fun _ => ?_)) | (refine PIoO_na hP ?_ (fun _ _ => ?_)) | (refine PIoO_no hP ?_ (fun _ _ => ?_)) | (refine PIoO_ite ?_ ?_) | (refine PIoO_some ?_) | (exact PIoO_none)))
theorem pioO_ob_X6_limit  {x0 : Option Nat} {x1 : Int32} {x2 : Int32} {x3 : Int64} {σ : oSt} (hP : iKptO P) (hc : cQoO P call)  (h : P σ) : PIo P (ob_X6_limit n call κ  x0 x1 x2 x3 σ) := by
  unfold ob_X6_limit
  repeat' (with_reducible (first | assumption | (refine PIoO_gd ?_) | (refine PIoO_pf hP ?_ (by decide) (by with_unfolding_all rfl) (fun _ _ => ?_)) | (refine PIoO_si hP ?_ (fun _ _ => ?_)) | (refine PIoO_sj hP ?_ (fun _ _ => ?_)) | (refine PIoO_sr hP ?_ (fun _ _ => ?_)) | (refine PIoO_cy hP ?_ (fun _ _ => ?_)) | (refine PIoO_bn (fun _ => ?_)) | (refine PIoO_na hP ?_ (fun _ _ => ?_)) | (refine PIoO_no hP ?_ (fun _ _ => ?_)) | (refine PIoO_ite ?_ ?_) | (refine PIoO_some ?_) | (exact PIoO_none) | (refine PIoO_cv (cQoO.c42 hc _ _ _ _ _ ?_) (fun _ _ => ?_)) | (refine PIoO_cv (cQoO.c43 hc _ _ ?_) (fun _ _ => ?_)) | (refine pioO_oj_X6_limit_21 hP hc  ?_)))
theorem pioO_ol_X2_insteadOf_2  (hP : iKptO P) (hc : cQoO P call)  : ∀ (t : Nat) (x0 : Option Nat) (x1 : Option Nat) (x2 : Int32) (σ : oSt), P σ → PIo P (ol_X2_insteadOf_2 n call κ  t x0 x1 x2 σ) := by
  intro t
  induction t with
  | zero => intros; exact PIoO_none
  | succ t ih =>
    intro x0 x1 x2 σ h
    rw [ol_X2_insteadOf_2]
    repeat' (with_reducible (first | assumption | (refine PIoO_gd ?_) | (refine PIoO_pf hP ?_ (by decide) (by with_unfolding_all rfl) (fun _ _ => ?_)) | (refine PIoO_si hP ?_ (fun _ _ => ?_)) | (refine PIoO_sj hP ?_ (fun _ _ => ?_)) | (refine PIoO_sr hP ?_ (fun _ _ => ?_)) | (refine PIoO_cy hP ?_ (fun _ _ => ?_)) | (refine PIoO_bn (fun _ => ?_)) | (refine PIoO_na hP ?_ (fun _ _ => ?_)) | (refine PIoO_no hP ?_ (fun _ _ => ?_)) | (refine PIoO_ite ?_ ?_) | (refine PIoO_some ?_) | (exact PIoO_none) | (refine ih _ _ _ _ ?_)))
theorem pioO_ob_X2_insteadOf  {x0 : Option Nat} {x1 : Option Nat} {σ : oSt} (hP : iKptO P) (hc : cQoO P call)  (h : P σ) : PIo P (ob_X2_insteadOf n call κ  x0 x1 σ) := by
  unfold ob_X2_insteadOf
  repeat' (with_reducible (first | assumption | (refine PIoO_gd ?_) | (refine PIoO_pf hP ?_ (by decide) (by with_unfolding_all rfl) (fun _ _ => ?_)) | (refine PIoO_si hP ?_ (fun _ _ => ?_)) | (refine PIoO_sj hP ?_ (fun _ _ => ?_)) | (refine PIoO_sr hP ?_ (fun _ _ => ?_)) | (refine PIoO_cy hP ?_ (fun _ _ => ?_)) | (refine PIoO_bn (fun _ => ?_)) | (refine PIoO_na hP ?_ (fun _ _ => ?_)) | (refine PIoO_no hP ?_ (fun _ _ => ?_)) | (refine PIoO_ite ?_ ?_) | (refine PIoO_some ?_) | (exact PIoO_none) | (refine pioO_ol_X2_insteadOf_2 hP hc  _ _ _ _ _ ?_)))
theorem pioO_oj_X2_recall_128  {x0 : Option Nat} {x3 : Option Nat} {t0 : Option Nat} {t1 : Option Nat} {σ : oSt} (hP : iKptO P) (hc : cQoO P call)  (h : P σ) : PIo P (oj_X2_recall_128 n call κ  x0 x3 t0 t1 σ) := by
  unfold oj_X2_recall_128
  repeat' (with_reducible (first | assumption | (refine PIoO_gd ?_) | (refine PIoO_pf hP ?_ (by decide) (by with_unfolding_all rfl) (fun _ _ => ?_)) | (refine PIoO_si hP ?_ (fun _ _ => ?_)) | (refine PIoO_sj hP ?_ (fun _ _ => ?_)) | (refine PIoO_sr hP ?_ (fun _ _ => ?_)) | (refine PIoO_cy hP ?_ (fun _ _ => ?_)) | (refine PIoO_bn (fun _ => ?_)) | (refine PIoO_na hP ?_ (fun _ _ => ?_)) | (refine PIoO_no hP ?_ (fun _ _ => ?_)) | (refine PIoO_ite ?_ ?_) | (refine PIoO_some ?_) | (exact PIoO_none)))
theorem pioO_oj_X2_recall_65  {x0 : Option Nat} {x2 : Option Nat} {t0 : Option Nat} {t1 : Option Nat} {σ : oSt} (hP : iKptO P) (hc : cQoO P call)  (h : P σ) : PIo P (oj_X2_recall_65 n call κ  x0 x2 t0 t1 σ) := by
  unfold oj_X2_recall_65
  repeat' (with_reducible (first | assumption | (refine PIoO_gd ?_) | (refine PIoO_pf hP ?_ (by decide) (by with_unfolding_all rfl) (fun _ _ => ?_)) | (refine PIoO_si hP ?_ (fun _ _ => ?_)) | (refine PIoO_sj hP ?_ (fun _ _ => ?_)) | (refine PIoO_sr hP ?_ (fun _ _ => ?_)) | (refine PIoO_cy hP ?_ (fun _ _ => ?_)) | (refine PIoO_bn (fun _ => ?_)) | (refine PIoO_na hP ?_ (fun _ _ => ?_)) | (refine PIoO_no hP ?_ (fun _ _ => ?_)) | (refine PIoO_ite ?_ ?_) | (refine PIoO_some ?_) | (exact PIoO_none) | (refine PIoO_rn (cQoO.c45 hc _ _ _ ?_) (fun _ _ _ => ?_)) | (refine pioO_oj_X2_recall_128 hP hc  ?_)))
theorem pioO_ob_X2_recall  {x0 : Option Nat} {x1 : Int32} {σ : oSt} (hP : iKptO P) (hc : cQoO P call)  (h : P σ) : PIo P (ob_X2_recall n call κ  x0 x1 σ) := by
  unfold ob_X2_recall
  repeat' (with_reducible (first | assumption | (refine PIoO_gd ?_) | (refine PIoO_pf hP ?_ (by decide) (by with_unfolding_all rfl) (fun _ _ => ?_)) | (refine PIoO_si hP ?_ (fun _ _ => ?_)) | (refine PIoO_sj hP ?_ (fun _ _ => ?_)) | (refine PIoO_sr hP ?_ (fun _ _ => ?_)) | (refine PIoO_cy hP ?_ (fun _ _ => ?_)) | (refine PIoO_bn (fun _ => ?_)) | (refine PIoO_na hP ?_ (fun _ _ => ?_)) | (refine PIoO_no hP ?_ (fun _ _ => ?_)) | (refine PIoO_ite ?_ ?_) | (refine PIoO_some ?_) | (exact PIoO_none) | (refine pioO_oj_X2_recall_65 hP hc  ?_)))
theorem pioO_ob_X1_side  {x0 : Option Nat} {x1 : Int32} {σ : oSt} (hP : iKptO P) (hc : cQoO P call)  (h : P σ) : PIo P (ob_X1_side n call κ  x0 x1 σ) := by
  unfold ob_X1_side
  repeat' (with_reducible (first | assumption | (refine PIoO_gd ?_) | (refine PIoO_pf hP ?_ (by decide) (by with_unfolding_all rfl) (fun _ _ => ?_)) | (refine PIoO_si hP ?_ (fun _ _ => ?_)) | (refine PIoO_sj hP ?_ (fun _ _ => ?_)) | (refine PIoO_sr hP ?_ (fun _ _ => ?_)) | (refine PIoO_cy hP ?_ (fun _ _ => ?_)) | (refine PIoO_bn (fun _ => ?_)) | (refine PIoO_na hP ?_ (fun _ _ => ?_)) | (refine PIoO_no hP ?_ (fun _ _ => ?_)) | (refine PIoO_ite ?_ ?_) | (refine PIoO_some ?_) | (exact PIoO_none)))
theorem pioO_ob_X6_isLimited  {x0 : Option Nat} {x1 : Int32} {x2 : Int32} {x3 : Int64} {σ : oSt} (hP : iKptO P) (hc : cQoO P call)  (h : P σ) : PIo P (ob_X6_isLimited n call κ  x0 x1 x2 x3 σ) := by
  unfold ob_X6_isLimited
  repeat' (with_reducible (first | assumption | (refine PIoO_gd ?_) | (refine PIoO_pf hP ?_ (by decide) (by with_unfolding_all rfl) (fun _ _ => ?_)) | (refine PIoO_si hP ?_ (fun _ _ => ?_)) | (refine PIoO_sj hP ?_ (fun _ _ => ?_)) | (refine PIoO_sr hP ?_ (fun _ _ => ?_)) | (refine PIoO_cy hP ?_ (fun _ _ => ?_)) | (refine PIoO_bn (fun _ => ?_)) | (refine PIoO_na hP ?_ (fun _ _ => ?_)) | (refine PIoO_no hP ?_ (fun _ _ => ?_)) | (refine PIoO_ite ?_ ?_) | (refine PIoO_some ?_) | (exact PIoO_none)))
theorem pioO_oj_X1_meet_248 {k62 : Option Nat → Option Nat → Int32 → Int32 → Int32 → Int32 → Int32 → oSt → oRs} {x0 : Option Nat} {x1 : Option Nat} {x2 : Int32} {x3 : Int32} {x4 : Int32} {x5 : Int32} {x6 : Int32} {σ : oSt} (hP : iKptO P) (hc : cQoO P call) (hk62 : ∀ (a0 : Option Nat) (a1 : Option Nat) (a2 : Int32) (a3 : Int32) (a4 : Int32) (a5 : Int32) (a6 : Int32), ∀ σ, P σ → PIo P (k62 a0 a1 a2 a3 a4 a5 a6 σ)) (h : P σ) : PIo P (oj_X1_meet_248 n call κ k62 x0 x1 x2 x3 x4 x5 x6 σ) := by
  unfold oj_X1_meet_248
  repeat' (with_reducible (first | assumption | (refine PIoO_gd ?_) | (refine PIoO_pf hP ?_ (by decide) (by with_unfolding_all rfl) (fun _ _ => ?_)) | (refine PIoO_si hP ?_ (fun _ _ => ?_)) | (refine PIoO_sj hP ?_ (fun _ _ => ?_)) | (refine PIoO_sr hP ?_ (fun _ _ => ?_)) | (refine PIoO_cy hP ?_ (fun _ _ => ?_)) | (refine PIoO_bn (fun _ => ?_)) | (refine PIoO_na hP ?_ (fun _ _ => ?_)) | (refine PIoO_no hP ?_ (fun _ _ => ?_)) | (refine PIoO_ite ?_ ?_) | (refine PIoO_some ?_) | (exact PIoO_none) | (refine hk62 _ _ _ _ _ _ _ _ ?_)))
theorem pioO_oj_X1_meet_230 {k62 : Option Nat → Option Nat → Int32 → Int32 → Int32 → Int32 → Int32 → oSt → oRs} {x0 : Option Nat} {x1 : Option Nat} {x2 : Int32} {x3 : Int32} {x4 : Int32} {x5 : Int32} {x6 : Int32} {x7 : Int64} {x9 : Int32} {x10 : Int32} {x11 : Int32} {σ : oSt} (hP : iKptO P) (hc : cQoO P call) (hk62 : ∀ (a0 : Option Nat) (a1 : Option Nat) (a2 : Int32) (a3 : Int32) (a4 : Int32) (a5 : Int32) (a6 : Int32), ∀ σ, P σ → PIo P (k62 a0 a1 a2 a3 a4 a5 a6 σ)) (h : P σ) : PIo P (oj_X1_meet_230 n call κ k62 x0 x1 x2 x3 x4 x5 x6 x7 x9 x10 x11 σ) := by
  unfold oj_X1_meet_230
  repeat' (with_reducible (first | assumption | (refine PIoO_gd ?_) | (refine PIoO_pf hP ?_ (by decide) (by with_unfolding_all rfl) (fun _ _ => ?_)) | (refine PIoO_si hP ?_ (fun _ _ => ?_)) | (refine PIoO_sj hP ?_ (fun _ _ => ?_)) | (refine PIoO_sr hP ?_ (fun _ _ => ?_)) | (refine PIoO_cy hP ?_ (fun _ _ => ?_)) | (refine PIoO_bn (fun _ => ?_)) | (refine PIoO_na hP ?_ (fun _ _ => ?_)) | (refine PIoO_no hP ?_ (fun _ _ => ?_)) | (refine PIoO_ite ?_ ?_) | (refine PIoO_some ?_) | (exact PIoO_none) | (refine PIoO_cv (cQoO.c44 hc _ _ _ _ _ ?_) (fun _ _ => ?_)) | (refine pioO_oj_X1_meet_248 hP hc hk62 ?_) | (refine hk62 _ _ _ _ _ _ _ _ ?_)))
theorem pioO_oj_X1_meet_225 {k62 : Option Nat → Option Nat → Int32 → Int32 → Int32 → Int32 → Int32 → oSt → oRs} {x0 : Option Nat} {x1 : Option Nat} {x2 : Int32} {x3 : Int32} {x5 : Int32} {x6 : Int32} {t0 : Int32} {σ : oSt} (hP : iKptO P) (hc : cQoO P call) (hk62 : ∀ (a0 : Option Nat) (a1 : Option Nat) (a2 : Int32) (a3 : Int32) (a4 : Int32) (a5 : Int32) (a6 : Int32), ∀ σ, P σ → PIo P (k62 a0 a1 a2 a3 a4 a5 a6 σ)) (h : P σ) : PIo P (oj_X1_meet_225 n call κ k62 x0 x1 x2 x3 x5 x6 t0 σ) := by
  unfold oj_X1_meet_225
  repeat' (with_reducible (first | assumption | (refine PIoO_gd ?_) | (refine PIoO_pf hP ?_ (by decide) (by with_unfolding_all rfl) (fun _ _ => ?_)) | (refine PIoO_si hP ?_ (fun _ _ => ?_)) | (refine PIoO_sj hP ?_ (fun _ _ => ?_)) | (refine PIoO_sr hP ?_ (fun _ _ => ?_)) | (refine PIoO_cy hP ?_ (fun _ _ => ?_)) | (refine PIoO_bn (fun _ => ?_)) | (refine PIoO_na hP ?_ (fun _ _ => ?_)) | (refine PIoO_no hP ?_ (fun _ _ => ?_)) | (refine PIoO_ite ?_ ?_) | (refine PIoO_some ?_) | (exact PIoO_none) | (refine pioO_oj_X1_meet_248 hP hc hk62 ?_) | (refine hk62 _ _ _ _ _ _ _ _ ?_)))
theorem pioO_oj_X1_meet_224 {k62 : Option Nat → Option Nat → Int32 → Int32 → Int32 → Int32 → Int32 → oSt → oRs} {x0 : Option Nat} {x1 : Option Nat} {x2 : Int32} {x3 : Int32} {x5 : Int32} {x6 : Int32} {σ : oSt} (hP : iKptO P) (hc : cQoO P call) (hk62 : ∀ (a0 : Option Nat) (a1 : Option Nat) (a2 : Int32) (a3 : Int32) (a4 : Int32) (a5 : Int32) (a6 : Int32), ∀ σ, P σ → PIo P (k62 a0 a1 a2 a3 a4 a5 a6 σ)) (h : P σ) : PIo P (oj_X1_meet_224 n call κ k62 x0 x1 x2 x3 x5 x6 σ) := by
  unfold oj_X1_meet_224
  repeat' (with_reducible (first | assumption | (refine PIoO_gd ?_) | (refine PIoO_pf hP ?_ (by decide) (by with_unfolding_all rfl) (fun _ _ => ?_)) | (refine PIoO_si hP ?_ (fun _ _ => ?_)) | (refine PIoO_sj hP ?_ (fun _ _ => ?_)) | (refine PIoO_sr hP ?_ (fun _ _ => ?_)) | (refine PIoO_cy hP ?_ (fun _ _ => ?_)) | (refine PIoO_bn (fun _ => ?_)) | (refine PIoO_na hP ?_ (fun _ _ => ?_)) | (refine PIoO_no hP ?_ (fun _ _ => ?_)) | (refine PIoO_ite ?_ ?_) | (refine PIoO_some ?_) | (exact PIoO_none) | (refine pioO_oj_X1_meet_225 hP hc hk62 ?_) | (refine hk62 _ _ _ _ _ _ _ _ ?_)))
theorem pioO_oj_X1_meet_188 {k62 : Option Nat → Option Nat → Int32 → Int32 → Int32 → Int32 → Int32 → oSt → oRs} {x0 : Option Nat} {x1 : Option Nat} {x2 : Int32} {x3 : Int32} {x4 : Int32} {x5 : Int32} {x6 : Int32} {x7 : Int64} {x9 : Int32} {x10 : Int32} {t0 : Int32} {σ : oSt} (hP : iKptO P) (hc : cQoO P call) (hk62 : ∀ (a0 : Option Nat) (a1 : Option Nat) (a2 : Int32) (a3 : Int32) (a4 : Int32) (a5 : Int32) (a6 : Int32), ∀ σ, P σ → PIo P (k62 a0 a1 a2 a3 a4 a5 a6 σ)) (h : P σ) : PIo P (oj_X1_meet_188 n call κ k62 x0 x1 x2 x3 x4 x5 x6 x7 x9 x10 t0 σ) := by
  unfold oj_X1_meet_188
  repeat' (with_reducible (first | assumption | (refine PIoO_gd ?_) | (refine PIoO_pf hP ?_ (by decide) (by with_unfolding_all rfl) (fun _ _ => ?_)) | (refine PIoO_si hP ?_ (fun _ _ => ?_)) | (refine PIoO_sj hP ?_ (fun _ _ => ?_)) | (refine PIoO_sr hP ?_ (fun _ _ => ?_)) | (refine PIoO_cy hP ?_ (fun _ _ => ?_)) | (refine PIoO_bn (fun _ => ?_)) | (refine PIoO_na hP ?_ (fun _ _ => ?_)) | (refine PIoO_no hP ?_ (fun _ _ => ?_)) | (refine PIoO_ite ?_ ?_) | (refine PIoO_some ?_) | (exact PIoO_none) | (refine PIoO_in (cQoO.c48 hc _ _ _ _ _ ?_) (fun _ _ _ => ?_)) | (refine pioO_oj_X1_meet_230 hP hc hk62 ?_) | (refine pioO_oj_X1_meet_224 hP hc hk62 ?_) | (refine pioO_oj_X1_meet_225 hP hc hk62 ?_) | (refine hk62 _ _ _ _ _ _ _ _ ?_)))
theorem pioO_oj_X1_meet_183 {k62 : Option Nat → Option Nat → Int32 → Int32 → Int32 → Int32 → Int32 → oSt → oRs} {x0 : Option Nat} {x1 : Option Nat} {x2 : Int32} {x3 : Int32} {x4 : Int32} {x5 : Int32} {x6 : Int32} {x7 : Int64} {x9 : Int32} {x10 : Int32} {σ : oSt} (hP : iKptO P) (hc : cQoO P call) (hk62 : ∀ (a0 : Option Nat) (a1 : Option Nat) (a2 : Int32) (a3 : Int32) (a4 : Int32) (a5 : Int32) (a6 : Int32), ∀ σ, P σ → PIo P (k62 a0 a1 a2 a3 a4 a5 a6 σ)) (h : P σ) : PIo P (oj_X1_meet_183 n call κ k62 x0 x1 x2 x3 x4 x5 x6 x7 x9 x10 σ) := by
  unfold oj_X1_meet_183
  repeat' (with_reducible (first | assumption | (refine PIoO_gd ?_) | (refine PIoO_pf hP ?_ (by decide) (by with_unfolding_all rfl) (fun _ _ => ?_)) | (refine PIoO_si hP ?_ (fun _ _ => ?_)) | (refine PIoO_sj hP ?_ (fun _ _ => ?_)) | (refine PIoO_sr hP ?_ (fun _ _ => ?_)) | (refine PIoO_cy hP ?_ (fun _ _ => ?_)) | (refine PIoO_bn (fun _ => ?_)) | (refine PIoO_na hP ?_ (fun _ _ => ?_)) | (refine PIoO_no hP ?_ (fun _ _ => ?_)) | (refine PIoO_ite ?_ ?_) | (refine PIoO_some ?_) | (exact PIoO_none) | (refine pioO_oj_X1_meet_188 hP hc hk62 ?_) | (refine hk62 _ _ _ _ _ _ _ _ ?_)))
theorem pioO_oj_X1_meet_180 {k62 : Option Nat → Option Nat → Int32 → Int32 → Int32 → Int32 → Int32 → oSt → oRs} {x0 : Option Nat} {x1 : Option Nat} {x2 : Int32} {x3 : Int32} {x4 : Int32} {x5 : Int32} {x6 : Int32} {x7 : Int64} {x9 : Int32} {x10 : Int32} {t0 : Int32} {t1 : Int32} {σ : oSt} (hP : iKptO P) (hc : cQoO P call) (hk62 : ∀ (a0 : Option Nat) (a1 : Option Nat) (a2 : Int32) (a3 : Int32) (a4 : Int32) (a5 : Int32) (a6 : Int32), ∀ σ, P σ → PIo P (k62 a0 a1 a2 a3 a4 a5 a6 σ)) (h : P σ) : PIo P (oj_X1_meet_180 n call κ k62 x0 x1 x2 x3 x4 x5 x6 x7 x9 x10 t0 t1 σ) := by
  unfold oj_X1_meet_180
  repeat' (with_reducible (first | assumption | (refine PIoO_gd ?_) | (refine PIoO_pf hP ?_ (by decide) (by with_unfolding_all rfl) (fun _ _ => ?_)) | (refine PIoO_si hP ?_ (fun _ _ => ?_)) | (refine PIoO_sj hP ?_ (fun _ _ => ?_)) | (refine PIoO_sr hP ?_ (fun _ _ => ?_)) | (refine PIoO_cy hP ?_ (fun _ _ => ?_)) | (refine PIoO_bn (fun _ => ?_)) | (refine PIoO_na hP ?_ (fun _ _ => ?_)) | (refine PIoO_no hP ?_ (fun _ _ => ?_)) | (refine PIoO_ite ?_ ?_) | (refine PIoO_some ?_) | (exact PIoO_none) | (refine pioO_oj_X1_meet_183 hP hc hk62 ?_) | (refine pioO_oj_X1_meet_188 hP hc hk62 ?_) | (refine hk62 _ _ _ _ _ _ _ _ ?_)))
theorem pioO_oj_X1_meet_170 {k62 : Option Nat → Option Nat → Int32 → Int32 → Int32 → Int32 → Int32 → oSt → oRs} {x0 : Option Nat} {x1 : Option Nat} {x2 : Int32} {x3 : Int32} {x4 : Int32} {x5 : Int32} {x6 : Int32} {x7 : Int64} {x9 : Int32} {x10 : Int32} {t0 : Int32} {σ : oSt} (hP : iKptO P) (hc : cQoO P call) (hk62 : ∀ (a0 : Option Nat) (a1 : Option Nat) (a2 : Int32) (a3 : Int32) (a4 : Int32) (a5 : Int32) (a6 : Int32), ∀ σ, P σ → PIo P (k62 a0 a1 a2 a3 a4 a5 a6 σ)) (h : P σ) : PIo P (oj_X1_meet_170 n call κ k62 x0 x1 x2 x3 x4 x5 x6 x7 x9 x10 t0 σ) := by
  unfold oj_X1_meet_170
  repeat' (with_reducible (first | assumption | (refine PIoO_gd ?_) | (refine PIoO_pf hP ?_ (by decide) (by with_unfolding_all rfl) (fun _ _ => ?_)) | (refine PIoO_si hP ?_ (fun _ _ => ?_)) | (refine PIoO_sj hP ?_ (fun _ _ => ?_)) | (refine PIoO_sr hP ?_ (fun _ _ => ?_)) | (refine PIoO_cy hP ?_ (fun _ _ => ?_)) | (refine PIoO_bn (fun _ => ?_)) | (refine PIoO_na hP ?_ (fun _ _ => ?_)) | (refine PIoO_no hP ?_ (fun _ _ => ?_)) | (refine PIoO_ite ?_ ?_) | (refine PIoO_some ?_) | (exact PIoO_none) | (refine pioO_oj_X1_meet_180 hP hc hk62 ?_) | (refine hk62 _ _ _ _ _ _ _ _ ?_)))
theorem pioO_oj_X1_meet_165 {k62 : Option Nat → Option Nat → Int32 → Int32 → Int32 → Int32 → Int32 → oSt → oRs} {x0 : Option Nat} {x1 : Option Nat} {x2 : Int32} {x3 : Int32} {x4 : Int32} {x5 : Int32} {x6 : Int32} {x7 : Int64} {x9 : Int32} {x10 : Int32} {σ : oSt} (hP : iKptO P) (hc : cQoO P call) (hk62 : ∀ (a0 : Option Nat) (a1 : Option Nat) (a2 : Int32) (a3 : Int32) (a4 : Int32) (a5 : Int32) (a6 : Int32), ∀ σ, P σ → PIo P (k62 a0 a1 a2 a3 a4 a5 a6 σ)) (h : P σ) : PIo P (oj_X1_meet_165 n call κ k62 x0 x1 x2 x3 x4 x5 x6 x7 x9 x10 σ) := by
  unfold oj_X1_meet_165
  repeat' (with_reducible (first | assumption | (refine PIoO_gd ?_) | (refine PIoO_pf hP ?_ (by decide) (by with_unfolding_all rfl) (fun _ _ => ?_)) | (refine PIoO_si hP ?_ (fun _ _ => ?_)) | (refine PIoO_sj hP ?_ (fun _ _ => ?_)) | (refine PIoO_sr hP ?_ (fun _ _ => ?_)) | (refine PIoO_cy hP ?_ (fun _ _ => ?_)) | (refine PIoO_bn (fun _ => ?_)) | (refine PIoO_na hP ?_ (fun _ _ => ?_)) | (refine PIoO_no hP ?_ (fun _ _ => ?_)) | (refine PIoO_ite ?_ ?_) | (refine PIoO_some ?_) | (exact PIoO_none) | (refine pioO_oj_X1_meet_170 hP hc hk62 ?_) | (refine hk62 _ _ _ _ _ _ _ _ ?_)))
theorem pioO_oj_X1_meet_137 {k62 : Option Nat → Option Nat → Int32 → Int32 → Int32 → Int32 → Int32 → oSt → oRs} {x0 : Option Nat} {x1 : Option Nat} {x2 : Int32} {x3 : Int32} {x4 : Int32} {x5 : Int32} {x6 : Int32} {x7 : Int64} {x9 : Int32} {x10 : Int32} {σ : oSt} (hP : iKptO P) (hc : cQoO P call) (hk62 : ∀ (a0 : Option Nat) (a1 : Option Nat) (a2 : Int32) (a3 : Int32) (a4 : Int32) (a5 : Int32) (a6 : Int32), ∀ σ, P σ → PIo P (k62 a0 a1 a2 a3 a4 a5 a6 σ)) (h : P σ) : PIo P (oj_X1_meet_137 n call κ k62 x0 x1 x2 x3 x4 x5 x6 x7 x9 x10 σ) := by
  unfold oj_X1_meet_137
  repeat' (with_reducible (first | assumption | (refine PIoO_gd ?_) | (refine PIoO_pf hP ?_ (by decide) (by with_unfolding_all rfl) (fun _ _ => ?_)) | (refine PIoO_si hP ?_ (fun _ _ => ?_)) | (refine PIoO_sj hP ?_ (fun _ _ => ?_)) | (refine PIoO_sr hP ?_ (fun _ _ => ?_)) | (refine PIoO_cy hP ?_ (fun _ _ => ?_)) | (refine PIoO_bn (fun _ => ?_)) | (refine PIoO_na hP ?_ (fun _ _ => ?_)) | (refine PIoO_no hP ?_ (fun _ _ => ?_)) | (refine PIoO_ite ?_ ?_) | (refine PIoO_some ?_) | (exact PIoO_none) | (refine pioO_oj_X1_meet_183 hP hc hk62 ?_) | (refine pioO_oj_X1_meet_165 hP hc hk62 ?_) | (refine pioO_oj_X1_meet_170 hP hc hk62 ?_) | (refine hk62 _ _ _ _ _ _ _ _ ?_)))
theorem pioO_oj_X1_meet_95 {k62 : Option Nat → Option Nat → Int32 → Int32 → Int32 → Int32 → Int32 → oSt → oRs} {x0 : Option Nat} {x1 : Option Nat} {x2 : Int32} {x3 : Int32} {x4 : Int32} {x5 : Int32} {x6 : Int32} {x7 : Int64} {t0 : Int32} {t1 : Int32} {σ : oSt} (hP : iKptO P) (hc : cQoO P call) (hk62 : ∀ (a0 : Option Nat) (a1 : Option Nat) (a2 : Int32) (a3 : Int32) (a4 : Int32) (a5 : Int32) (a6 : Int32), ∀ σ, P σ → PIo P (k62 a0 a1 a2 a3 a4 a5 a6 σ)) (h : P σ) : PIo P (oj_X1_meet_95 n call κ k62 x0 x1 x2 x3 x4 x5 x6 x7 t0 t1 σ) := by
  unfold oj_X1_meet_95
  repeat' (with_reducible (first | assumption | (refine PIoO_gd ?_) | (refine PIoO_pf hP ?_ (by decide) (by with_unfolding_all rfl) (fun _ _ => ?_)) | (refine PIoO_si hP ?_ (fun _ _ => ?_)) | (refine PIoO_sj hP ?_ (fun _ _ => ?_)) | (refine PIoO_sr hP ?_ (fun _ _ => ?_)) | (refine PIoO_cy hP ?_ (fun _ _ => ?_)) | (refine PIoO_bn (fun _ => ?_)) | (refine PIoO_na hP ?_ (fun _ _ => ?_)) | (refine PIoO_no hP ?_ (fun _ _ => ?_)) | (refine PIoO_ite ?_ ?_) | (refine PIoO_some ?_) | (exact PIoO_none) | (refine PIoO_in (cQoO.c47 hc _ _ _ ?_) (fun _ _ _ => ?_)) | (refine pioO_oj_X1_meet_137 hP hc hk62 ?_) | (refine hk62 _ _ _ _ _ _ _ _ ?_)))
theorem pioO_ol_X1_meet_62  (hP : iKptO P) (hc : cQoO P call)  : ∀ (t : Nat) (x0 : Option Nat) (x1 : Option Nat) (x2 : Int32) (x3 : Int32) (x4 : Int32) (x5 : Int32) (x6 : Int32) (σ : oSt), P σ → PIo P (ol_X1_meet_62 n call κ  t x0 x1 x2 x3 x4 x5 x6 σ) := by
  intro t
  induction t with
  | zero => intros; exact PIoO_none
  | succ t ih =>
    intro x0 x1 x2 x3 x4 x5 x6 σ h
    rw [ol_X1_meet_62]
    repeat' (with_reducible (first | assumption | (refine PIoO_gd ?_) | (refine PIoO_pf hP ?_ (by decide) (by with_unfolding_all rfl) (fun _ _ => ?_)) | (refine PIoO_si hP ?_ (fun _ _ => ?_)) | (refine PIoO_sj hP ?_ (fun _ _ => ?_)) | (refine PIoO_sr hP ?_ (fun _ _ => ?_)) | (refine PIoO_cy hP ?_ (fun _ _ => ?_)) | (refine PIoO_bn (fun _ => ?_)) | (refine PIoO_na hP ?_ (fun _ _ => ?_)) | (refine PIoO_no hP ?_ (fun _ _ => ?_)) | (refine PIoO_ite ?_ ?_) | (refine PIoO_some ?_) | (exact PIoO_none) | (refine pioO_oj_X1_meet_95 hP hc ih ?_)))
theorem pioO_oj_X1_meet_57  {x0 : Option Nat} {x1 : Option Nat} {x2 : Int32} {x3 : Int32} {x4 : Int32} {t0 : Int32} {σ : oSt} (hP : iKptO P) (hc : cQoO P call)  (h : P σ) : PIo P (oj_X1_meet_57 n call κ  x0 x1 x2 x3 x4 t0 σ) := by
  unfold oj_X1_meet_57
  repeat' (with_reducible (first | assumption | (refine PIoO_gd ?_) | (refine PIoO_pf hP ?_ (by decide) (by with_unfolding_all rfl) (fun _ _ => ?_)) | (refine PIoO_si hP ?_ (fun _ _ => ?_)) | (refine PIoO_sj hP ?_ (fun _ _ => ?_)) | (refine PIoO_sr hP ?_ (fun _ _ => ?_)) | (refine PIoO_cy hP ?_ (fun _ _ => ?_)) | (refine PIoO_bn (fun _ => ?_)) | (refine PIoO_na hP ?_ (fun _ _ => ?_)) | (refine PIoO_no hP ?_ (fun _ _ => ?_)) | (refine PIoO_ite ?_ ?_) | (refine PIoO_some ?_) | (exact PIoO_none) | (refine pioO_ol_X1_meet_62 hP hc  _ _ _ _ _ _ _ _ _ ?_)))
theorem pioO_oj_X1_meet_52  {x0 : Option Nat} {x1 : Option Nat} {x2 : Int32} {x3 : Int32} {x4 : Int32} {σ : oSt} (hP : iKptO P) (hc : cQoO P call)  (h : P σ) : PIo P (oj_X1_meet_52 n call κ  x0 x1 x2 x3 x4 σ) := by
  unfold oj_X1_meet_52
  repeat' (with_reducible (first | assumption | (refine PIoO_gd ?_) | (refine PIoO_pf hP ?_ (by decide) (by with_unfolding_all rfl) (fun _ _ => ?_)) | (refine PIoO_si hP ?_ (fun _ _ => ?_)) | (refine PIoO_sj hP ?_ (fun _ _ => ?_)) | (refine PIoO_sr hP ?_ (fun _ _ => ?_)) | (refine PIoO_cy hP ?_ (fun _ _ => ?_)) | (refine PIoO_bn (fun _ => ?_)) | (refine PIoO_na hP ?_ (fun _ _ => ?_)) | (refine PIoO_no hP ?_ (fun _ _ => ?_)) | (refine PIoO_ite ?_ ?_) | (refine PIoO_some ?_) | (exact PIoO_none) | (refine pioO_oj_X1_meet_57 hP hc  ?_)))
theorem pioO_oj_X1_meet_31  {x0 : Option Nat} {x1 : Option Nat} {x2 : Int32} {x3 : Int32} {σ : oSt} (hP : iKptO P) (hc : cQoO P call)  (h : P σ) : PIo P (oj_X1_meet_31 n call κ  x0 x1 x2 x3 σ) := by
  unfold oj_X1_meet_31
  repeat' (with_reducible (first | assumption | (refine PIoO_gd ?_) | (refine PIoO_pf hP ?_ (by decide) (by with_unfolding_all rfl) (fun _ _ => ?_)) | (refine PIoO_si hP ?_ (fun _ _ => ?_)) | (refine PIoO_sj hP ?_ (fun _ _ => ?_)) | (refine PIoO_sr hP ?_ (fun _ _ => ?_)) | (refine PIoO_cy hP ?_ (fun _ _ => ?_)) | (refine PIoO_bn (fun _ => ?_)) | (refine PIoO_na hP ?_ (fun _ _ => ?_)) | (refine PIoO_no hP ?_ (fun _ _ => ?_)) | (refine PIoO_ite ?_ ?_) | (refine PIoO_some ?_) | (exact PIoO_none) | (refine pioO_oj_X1_meet_52 hP hc  ?_) | (refine pioO_oj_X1_meet_57 hP hc  ?_)))
theorem pioO_ob_X1_meet  {x0 : Option Nat} {x1 : Option Nat} {x2 : Int32} {x3 : Int32} {σ : oSt} (hP : iKptO P) (hc : cQoO P call)  (h : P σ) : PIo P (ob_X1_meet n call κ  x0 x1 x2 x3 σ) := by
  unfold ob_X1_meet
  repeat' (with_reducible (first | assumption | (refine PIoO_gd ?_) | (refine PIoO_pf hP ?_ (by decide) (by with_unfolding_all rfl) (fun _ _ => ?_)) | (refine PIoO_si hP ?_ (fun _ _ => ?_)) | (refine PIoO_sj hP ?_ (fun _ _ => ?_)) | (refine PIoO_sr hP ?_ (fun _ _ => ?_)) | (refine PIoO_cy hP ?_ (fun _ _ => ?_)) | (refine PIoO_bn (fun _ => ?_)) | (refine PIoO_na hP ?_ (fun _ _ => ?_)) | (refine PIoO_no hP ?_ (fun _ _ => ?_)) | (refine PIoO_ite ?_ ?_) | (refine PIoO_some ?_) | (exact PIoO_none) | (refine pioO_oj_X1_meet_31 hP hc  ?_)))
theorem pioO_ol_X1_learn_30  (hP : iKptO P) (hc : cQoO P call)  : ∀ (t : Nat) (x0 : Option Nat) (x1 : Option Nat) (x2 : Int32) (x3 : Int32) (σ : oSt), P σ → PIo P (ol_X1_learn_30 n call κ  t x0 x1 x2 x3 σ) := by
  intro t
  induction t with
  | zero => intros; exact PIoO_none
  | succ t ih =>
    intro x0 x1 x2 x3 σ h
    rw [ol_X1_learn_30]
    repeat' (with_reducible (first | assumption | (refine PIoO_gd ?_) | (refine PIoO_pf hP ?_ (by decide) (by with_unfolding_all rfl) (fun _ _ => ?_)) | (refine PIoO_si hP ?_ (fun _ _ => ?_)) | (refine PIoO_sj hP ?_ (fun _ _ => ?_)) | (refine PIoO_sr hP ?_ (fun _ _ => ?_)) | (refine PIoO_cy hP ?_ (fun _ _ => ?_)) | (refine PIoO_bn (fun _ => ?_)) | (refine PIoO_na hP ?_ (fun _ _ => ?_)) | (refine PIoO_no hP ?_ (fun _ _ => ?_)) | (refine PIoO_ite ?_ ?_) | (refine PIoO_some ?_) | (exact PIoO_none) | (refine PIoO_cv (cQoO.c46 hc _ _ _ ?_) (fun _ _ => ?_)) | (refine PIoO_in (cQoO.c49 hc _ _ _ _ _ ?_) (fun _ _ _ => ?_)) | (refine ih _ _ _ _ _ ?_)))
theorem pioO_oj_X1_learn_28  {x0 : Option Nat} {x1 : Option Nat} {x2 : Int32} {σ : oSt} (hP : iKptO P) (hc : cQoO P call)  (h : P σ) : PIo P (oj_X1_learn_28 n call κ  x0 x1 x2 σ) := by
  unfold oj_X1_learn_28
  repeat' (with_reducible (first | assumption | (refine PIoO_gd ?_) | (refine PIoO_pf hP ?_ (by decide) (by with_unfolding_all rfl) (fun _ _ => ?_)) | (refine PIoO_si hP ?_ (fun _ _ => ?_)) | (refine PIoO_sj hP ?_ (fun _ _ => ?_)) | (refine PIoO_sr hP ?_ (fun _ _ => ?_)) | (refine PIoO_cy hP ?_ (fun _ _ => ?_)) | (refine PIoO_bn (fun _ => ?_)) | (refine PIoO_na hP ?_ (fun _ _ => ?_)) | (refine PIoO_no hP ?_ (fun _ _ => ?_)) | (refine PIoO_ite ?_ ?_) | (refine PIoO_some ?_) | (exact PIoO_none) | (refine pioO_ol_X1_learn_30 hP hc  _ _ _ _ _ _ ?_)))
theorem pioO_ob_X1_learn  {x0 : Option Nat} {x1 : Option Nat} {x2 : Int32} {σ : oSt} (hP : iKptO P) (hc : cQoO P call)  (h : P σ) : PIo P (ob_X1_learn n call κ  x0 x1 x2 σ) := by
  unfold ob_X1_learn
  repeat' (with_reducible (first | assumption | (refine PIoO_gd ?_) | (refine PIoO_pf hP ?_ (by decide) (by with_unfolding_all rfl) (fun _ _ => ?_)) | (refine PIoO_si hP ?_ (fun _ _ => ?_)) | (refine PIoO_sj hP ?_ (fun _ _ => ?_)) | (refine PIoO_sr hP ?_ (fun _ _ => ?_)) | (refine PIoO_cy hP ?_ (fun _ _ => ?_)) | (refine PIoO_bn (fun _ => ?_)) | (refine PIoO_na hP ?_ (fun _ _ => ?_)) | (refine PIoO_no hP ?_ (fun _ _ => ?_)) | (refine PIoO_ite ?_ ?_) | (refine PIoO_some ?_) | (exact PIoO_none) | (refine PIoO_cv (cQoO.c44 hc _ _ _ _ _ ?_) (fun _ _ => ?_)) | (refine pioO_oj_X1_learn_28 hP hc  ?_)))
theorem pioO_ob_X1_postpone  {x0 : Option Nat} {x1 : Option Nat} {x2 : Int32} {σ : oSt} (hP : iKptO P) (hc : cQoO P call)  (h : P σ) : PIo P (ob_X1_postpone n call κ  x0 x1 x2 σ) := by
  unfold ob_X1_postpone
  repeat' (with_reducible (first | assumption | (refine PIoO_gd ?_) | (refine PIoO_pf hP ?_ (by decide) (by with_unfolding_all rfl) (fun _ _ => ?_)) | (refine PIoO_si hP ?_ (fun _ _ => ?_)) | (refine PIoO_sj hP ?_ (fun _ _ => ?_)) | (refine PIoO_sr hP ?_ (fun _ _ => ?_)) | (refine PIoO_cy hP ?_ (fun _ _ => ?_)) | (refine PIoO_bn (fun _ => ?_)) | (refine PIoO_na hP ?_ (fun _ _ => ?_)) | (refine PIoO_no hP ?_ (fun _ _ => ?_)) | (refine PIoO_ite ?_ ?_) | (refine PIoO_some ?_) | (exact PIoO_none)))
theorem pioO_oj_X1_choose_38 {k2 : Option Nat → Option Nat → Int32 → Int32 → oSt → oRs} {x0 : Option Nat} {x1 : Option Nat} {x2 : Int32} {x3 : Int32} {σ : oSt} (hP : iKptO P) (hc : cQoO P call) (hk2 : ∀ (a0 : Option Nat) (a1 : Option Nat) (a2 : Int32) (a3 : Int32), ∀ σ, P σ → PIo P (k2 a0 a1 a2 a3 σ)) (h : P σ) : PIo P (oj_X1_choose_38 n call κ k2 x0 x1 x2 x3 σ) := by
  unfold oj_X1_choose_38
  repeat' (with_reducible (first | assumption | (refine PIoO_gd ?_) | (refine PIoO_pf hP ?_ (by decide) (by with_unfolding_all rfl) (fun _ _ => ?_)) | (refine PIoO_si hP ?_ (fun _ _ => ?_)) | (refine PIoO_sj hP ?_ (fun _ _ => ?_)) | (refine PIoO_sr hP ?_ (fun _ _ => ?_)) | (refine PIoO_cy hP ?_ (fun _ _ => ?_)) | (refine PIoO_bn (fun _ => ?_)) | (refine PIoO_na hP ?_ (fun _ _ => ?_)) | (refine PIoO_no hP ?_ (fun _ _ => ?_)) | (refine PIoO_ite ?_ ?_) | (refine PIoO_some ?_) | (exact PIoO_none) | (refine hk2 _ _ _ _ _ ?_)))
theorem pioO_ol_X1_choose_2  (hP : iKptO P) (hc : cQoO P call)  : ∀ (t : Nat) (x0 : Option Nat) (x1 : Option Nat) (x2 : Int32) (x3 : Int32) (σ : oSt), P σ → PIo P (ol_X1_choose_2 n call κ  t x0 x1 x2 x3 σ) := by
  intro t
  induction t with
  | zero => intros; exact PIoO_none
  | succ t ih =>
    intro x0 x1 x2 x3 σ h
    rw [ol_X1_choose_2]
    repeat' (with_reducible (first | assumption | (refine PIoO_gd ?_) | (refine PIoO_pf hP ?_ (by decide) (by with_unfolding_all rfl) (fun _ _ => ?_)) | (refine PIoO_si hP ?_ (fun _ _ => ?_)) | (refine PIoO_sj hP ?_ (fun _ _ => ?_)) | (refine PIoO_sr hP ?_ (fun _ _ => ?_)) | (refine PIoO_cy hP ?_ (fun _ _ => ?_)) | (refine PIoO_bn (fun _ => ?_)) | (refine PIoO_na hP ?_ (fun _ _ => ?_)) | (refine PIoO_no hP ?_ (fun _ _ => ?_)) | (refine PIoO_ite ?_ ?_) | (refine PIoO_some ?_) | (exact PIoO_none) | (refine pioO_oj_X1_choose_38 hP hc ih ?_)))
theorem pioO_ob_X1_choose  {x0 : Option Nat} {x1 : Option Nat} {x2 : Int32} {σ : oSt} (hP : iKptO P) (hc : cQoO P call)  (h : P σ) : PIo P (ob_X1_choose n call κ  x0 x1 x2 σ) := by
  unfold ob_X1_choose
  repeat' (with_reducible (first | assumption | (refine PIoO_gd ?_) | (refine PIoO_pf hP ?_ (by decide) (by with_unfolding_all rfl) (fun _ _ => ?_)) | (refine PIoO_si hP ?_ (fun _ _ => ?_)) | (refine PIoO_sj hP ?_ (fun _ _ => ?_)) | (refine PIoO_sr hP ?_ (fun _ _ => ?_)) | (refine PIoO_cy hP ?_ (fun _ _ => ?_)) | (refine PIoO_bn (fun _ => ?_)) | (refine PIoO_na hP ?_ (fun _ _ => ?_)) | (refine PIoO_no hP ?_ (fun _ _ => ?_)) | (refine PIoO_ite ?_ ?_) | (refine PIoO_some ?_) | (exact PIoO_none) | (refine pioO_ol_X1_choose_2 hP hc  _ _ _ _ _ _ ?_)))
theorem pioO_ob_X1_opposite  {x0 : Int32} {σ : oSt} (hP : iKptO P) (hc : cQoO P call)  (h : P σ) : PIo P (ob_X1_opposite n call κ  x0 σ) := by
  unfold ob_X1_opposite
  repeat' (with_reducible (first | assumption | (refine PIoO_gd ?_) | (refine PIoO_pf hP ?_ (by decide) (by with_unfolding_all rfl) (fun _ _ => ?_)) | (refine PIoO_si hP ?_ (fun _ _ => ?_)) | (refine PIoO_sj hP ?_ (fun _ _ => ?_)) | (refine PIoO_sr hP ?_ (fun _ _ => ?_)) | (refine PIoO_cy hP ?_ (fun _ _ => ?_)) | (refine PIoO_bn (fun _ => ?_)) | (refine PIoO_na hP ?_ (fun _ _ => ?_)) | (refine PIoO_no hP ?_ (fun _ _ => ?_)) | (refine PIoO_ite ?_ ?_) | (refine PIoO_some ?_) | (exact PIoO_none)))
theorem pioO_oj_X1_limit_170  {x0 : Option Nat} {x4 : Int64} {x6 : Int32} {x7 : Int32} {t0 : Int32} {σ : oSt} (hP : iKptO P) (hc : cQoO P call)  (h : P σ) : PIo P (oj_X1_limit_170 n call κ  x0 x4 x6 x7 t0 σ) := by
  unfold oj_X1_limit_170
  repeat' (with_reducible (first | assumption | (refine PIoO_gd ?_) | (refine PIoO_pf hP ?_ (by decide) (by with_unfolding_all rfl) (fun _ _ => ?_)) | (refine PIoO_si hP ?_ (fun _ _ => ?_)) | (refine PIoO_sj hP ?_ (fun _ _ => ?_)) | (refine PIoO_sr hP ?_ (fun _ _ => ?_)) | (refine PIoO_cy hP ?_ (fun _ _ => ?_)) | (refine PIoO_bn (fun _ => ?_)) | (refine PIoO_na hP ?_ (fun _ _ => ?_)) | (refine PIoO_no hP ?_ (fun _ _ => ?_)) | (refine PIoO_ite ?_ ?_) | (refine PIoO_some ?_) | (exact PIoO_none) | (refine PIoO_cv (cQoO.c44 hc _ _ _ _ _ ?_) (fun _ _ => ?_))))
theorem pioO_oj_X1_limit_169  {x0 : Option Nat} {x4 : Int64} {x6 : Int32} {x7 : Int32} {σ : oSt} (hP : iKptO P) (hc : cQoO P call)  (h : P σ) : PIo P (oj_X1_limit_169 n call κ  x0 x4 x6 x7 σ) := by
  unfold oj_X1_limit_169
  repeat' (with_reducible (first | assumption | (refine PIoO_gd ?_) | (refine PIoO_pf hP ?_ (by decide) (by with_unfolding_all rfl) (fun _ _ => ?_)) | (refine PIoO_si hP ?_ (fun _ _ => ?_)) | (refine PIoO_sj hP ?_ (fun _ _ => ?_)) | (refine PIoO_sr hP ?_ (fun _ _ => ?_)) | (refine PIoO_cy hP ?_ (fun _ _ => ?_)) | (refine PIoO_bn (fun _ => ?_)) | (refine PIoO_na hP ?_ (fun _ _ => ?_)) | (refine PIoO_no hP ?_ (fun _ _ => ?_)) | (refine PIoO_ite ?_ ?_) | (refine PIoO_some ?_) | (exact PIoO_none) | (refine pioO_oj_X1_limit_170 hP hc  ?_)))
theorem pioO_oj_X1_limit_46  {t0 : Option Nat} {t1 : Int32} {σ : oSt} (hP : iKptO P) (hc : cQoO P call)  (h : P σ) : PIo P (oj_X1_limit_46 n call κ  t0 t1 σ) := by
  unfold oj_X1_limit_46
  repeat' (with_reducible (first | assumption | (refine PIoO_gd ?_) | (refine PIoO_pf hP ?_ (by decide) (by with_unfolding_all rfl) (fun _ _ => ?_)) | (refine PIoO_si hP ?_ (fun _ _ => ?_)) | (refine PIoO_sj hP ?_ (fun _ _ => ?_)) | (refine PIoO_sr hP ?_ (fun _ _ => ?_)) | (refine PIoO_cy hP ?_ (fun _ _ => ?_)) | (refine PIoO_bn (fun _ => ?_)) | (refine PIoO_na hP ?_ (fun _ _ => ?_)) | (refine PIoO_no hP ?_ (fun _ _ => ?_)) | (refine PIoO_ite ?_ ?_) | (refine PIoO_some ?_) | (exact PIoO_none)))
theorem pioO_oj_X1_limit_41  {t0 : Option Nat} {σ : oSt} (hP : iKptO P) (hc : cQoO P call)  (h : P σ) : PIo P (oj_X1_limit_41 n call κ  t0 σ) := by
  unfold oj_X1_limit_41
  repeat' (with_reducible (first | assumption | (refine PIoO_gd ?_) | (refine PIoO_pf hP ?_ (by decide) (by with_unfolding_all rfl) (fun _ _ => ?_)) | (refine PIoO_si hP ?_ (fun _ _ => ?_)) | (refine PIoO_sj hP ?_ (fun _ _ => ?_)) | (refine PIoO_sr hP ?_ (fun _ _ => ?_)) | (refine PIoO_cy hP ?_ (fun _ _ => ?_)) | (refine PIoO_bn (fun _ => ?_)) | (refine PIoO_na hP ?_ (fun _ _ => ?_)) | (refine PIoO_no hP ?_ (fun _ _ => ?_)) | (refine PIoO_ite ?_ ?_) | (refine PIoO_some ?_) | (exact PIoO_none) | (refine pioO_oj_X1_limit_46 hP hc  ?_)))
theorem pioO_ob_X1_limit  {x0 : Option Nat} {x1 : Option Nat} {x2 : Int32} {x3 : Int32} {σ : oSt} (hP : iKptO P) (hc : cQoO P call)  (h : P σ) : PIo P (ob_X1_limit n call κ  x0 x1 x2 x3 σ) := by
  unfold ob_X1_limit
  repeat' (with_reducible (first | assumption | (refine PIoO_gd ?_) | (refine PIoO_pf hP ?_ (by decide) (by with_unfolding_all rfl) (fun _ _ => ?_)) | (refine PIoO_si hP ?_ (fun _ _ => ?_)) | (refine PIoO_sj hP ?_ (fun _ _ => ?_)) | (refine PIoO_sr hP ?_ (fun _ _ => ?_)) | (refine PIoO_cy hP ?_ (fun _ _ => ?_)) | (refine PIoO_bn (fun _ => ?_)) | (refine PIoO_na hP ?_ (fun _ _ => ?_)) | (refine PIoO_no hP ?_ (fun _ _ => ?_)) | (refine PIoO_ite ?_ ?_) | (refine PIoO_some ?_) | (exact PIoO_none) | (refine PIoO_in (cQoO.c38 hc _ _ ?_) (fun _ _ _ => ?_)) | (refine PIoO_in (cQoO.c47 hc _ _ _ ?_) (fun _ _ _ => ?_)) | (refine pioO_oj_X1_limit_46 hP hc  ?_) | (refine pioO_oj_X1_limit_41 hP hc  ?_) | (refine pioO_oj_X1_limit_170 hP hc  ?_) | (refine pioO_oj_X1_limit_169 hP hc  ?_)))
theorem pioO_oj_X1_compare_65  {x0 : Option Nat} {x1 : Option Nat} {x3 : Int32} {σ : oSt} (hP : iKptO P) (hc : cQoO P call)  (h : P σ) : PIo P (oj_X1_compare_65 n call κ  x0 x1 x3 σ) := by
  unfold oj_X1_compare_65
  repeat' (with_reducible (first | assumption | (refine PIoO_gd ?_) | (refine PIoO_pf hP ?_ (by decide) (by with_unfolding_all rfl) (fun _ _ => ?_)) | (refine PIoO_si hP ?_ (fun _ _ => ?_)) | (refine PIoO_sj hP ?_ (fun _ _ => ?_)) | (refine PIoO_sr hP ?_ (fun _ _ => ?_)) | (refine PIoO_cy hP ?_ (fun _ _ => ?_)) | (refine PIoO_bn (fun _ => ?_)) | (refine PIoO_na hP ?_ (fun _ _ => ?_)) | (refine PIoO_no hP ?_ (fun _ _ => ?_)) | (refine PIoO_ite ?_ ?_) | (refine PIoO_some ?_) | (exact PIoO_none) | (refine PIoO_cv (cQoO.c54 hc _ _ _ _ _ ?_) (fun _ _ => ?_))))
theorem pioO_oj_X1_compare_62  {x0 : Option Nat} {x1 : Option Nat} {x3 : Int32} {t0 : Option Nat} {t1 : Option Nat} {t2 : Int32} {t3 : Int32} {σ : oSt} (hP : iKptO P) (hc : cQoO P call)  (h : P σ) : PIo P (oj_X1_compare_62 n call κ  x0 x1 x3 t0 t1 t2 t3 σ) := by
  unfold oj_X1_compare_62
  repeat' (with_reducible (first | assumption | (refine PIoO_gd ?_) | (refine PIoO_pf hP ?_ (by decide) (by with_unfolding_all rfl) (fun _ _ => ?_)) | (refine PIoO_si hP ?_ (fun _ _ => ?_)) | (refine PIoO_sj hP ?_ (fun _ _ => ?_)) | (refine PIoO_sr hP ?_ (fun _ _ => ?_)) | (refine PIoO_cy hP ?_ (fun _ _ => ?_)) | (refine PIoO_bn (fun _ => ?_)) | (refine PIoO_na hP ?_ (fun _ _ => ?_)) | (refine PIoO_no hP ?_ (fun _ _ => ?_)) | (refine PIoO_ite ?_ ?_) | (refine PIoO_some ?_) | (exact PIoO_none) | (refine PIoO_cv (cQoO.c54 hc _ _ _ _ _ ?_) (fun _ _ => ?_)) | (refine pioO_oj_X1_compare_65 hP hc  ?_)))
theorem pioO_oj_X1_compare_18  {x0 : Option Nat} {x1 : Option Nat} {x2 : Int32} {t0 : Int32} {σ : oSt} (hP : iKptO P) (hc : cQoO P call)  (h : P σ) : PIo P (oj_X1_compare_18 n call κ  x0 x1 x2 t0 σ) := by
  unfold oj_X1_compare_18
  repeat' (with_reducible (first | assumption | (refine PIoO_gd ?_) | (refine PIoO_pf hP ?_ (by decide) (by with_unfolding_all rfl) (fun _ _ => ?_)) | (refine PIoO_si hP ?_ (fun _ _ => ?_)) | (refine PIoO_sj hP ?_ (fun _ _ => ?_)) | (refine PIoO_sr hP ?_ (fun _ _ => ?_)) | (refine PIoO_cy hP ?_ (fun _ _ => ?_)) | (refine PIoO_bn (fun _ => ?_)) | (refine PIoO_na hP ?_ (fun _ _ => ?_)) | (refine PIoO_no hP ?_ (fun _ _ => ?_)) | (refine PIoO_ite ?_ ?_) | (refine PIoO_some ?_) | (exact PIoO_none) | (refine PIoO_cv (cQoO.c51 hc _ _ _ _ ?_) (fun _ _ => ?_)) | (refine pioO_oj_X1_compare_65 hP hc  ?_) | (refine pioO_oj_X1_compare_62 hP hc  ?_)))
theorem pioO_ob_X1_compare  {x0 : Option Nat} {x1 : Option Nat} {x2 : Int32} {σ : oSt} (hP : iKptO P) (hc : cQoO P call)  (h : P σ) : PIo P (ob_X1_compare n call κ  x0 x1 x2 σ) := by
  unfold ob_X1_compare
  repeat' (with_reducible (first | assumption | (refine PIoO_gd ?_) | (refine PIoO_pf hP ?_ (by decide) (by with_unfolding_all rfl) (fun _ _ => ?_)) | (refine PIoO_si hP ?_ (fun _ _ => ?_)) | (refine PIoO_sj hP ?_ (fun _ _ => ?_)) | (refine PIoO_sr hP ?_ (fun _ _ => ?_)) | (refine PIoO_cy hP ?_ (fun _ _ => ?_)) | (refine PIoO_bn (fun _ => ?_)) | (refine PIoO_na hP ?_ (fun _ _ => ?_)) | (refine PIoO_no hP ?_ (fun _ _ => ?_)) | (refine PIoO_ite ?_ ?_) | (refine PIoO_some ?_) | (exact PIoO_none) | (refine PIoO_in (cQoO.c53 hc _ _ ?_) (fun _ _ _ => ?_)) | (refine pioO_oj_X1_compare_18 hP hc  ?_)))
theorem pioO_oj_X1_assume_196  {t0 : Option Nat} {σ : oSt} (hP : iKptO P) (hc : cQoO P call)  (h : P σ) : PIo P (oj_X1_assume_196 n call κ  t0 σ) := by
  unfold oj_X1_assume_196
  repeat' (with_reducible (first | assumption | (refine PIoO_gd ?_) | (refine PIoO_pf hP ?_ (by decide) (by with_unfolding_all rfl) (fun _ _ => ?_)) | (refine PIoO_si hP ?_ (fun _ _ => ?_)) | (refine PIoO_sj hP ?_ (fun _ _ => ?_)) | (refine PIoO_sr hP ?_ (fun _ _ => ?_)) | (refine PIoO_cy hP ?_ (fun _ _ => ?_)) | (refine PIoO_bn (fun _ => ?_)) | (refine PIoO_na hP ?_ (fun _ _ => ?_)) | (refine PIoO_no hP ?_ (fun _ _ => ?_)) | (refine PIoO_ite ?_ ?_) | (refine PIoO_some ?_) | (exact PIoO_none)))
theorem pioO_oj_X1_assume_192  {x2 : Int32} {t0 : Option Nat} {t1 : Int32} {σ : oSt} (hP : iKptO P) (hc : cQoO P call)  (h : P σ) : PIo P (oj_X1_assume_192 n call κ  x2 t0 t1 σ) := by
  unfold oj_X1_assume_192
  repeat' (with_reducible (first | assumption | (refine PIoO_gd ?_) | (refine PIoO_pf hP ?_ (by decide) (by with_unfolding_all rfl) (fun _ _ => ?_)) | (refine PIoO_si hP ?_ (fun _ _ => ?_)) | (refine PIoO_sj hP ?_ (fun _ _ => ?_)) | (refine PIoO_sr hP ?_ (fun _ _ => ?_)) | (refine PIoO_cy hP ?_ (fun _ _ => ?_)) | (refine PIoO_bn (fun _ => ?_)) | (refine PIoO_na hP ?_ (fun _ _ => ?_)) | (refine PIoO_no hP ?_ (fun _ _ => ?_)) | (refine PIoO_ite ?_ ?_) | (refine PIoO_some ?_) | (exact PIoO_none) | (refine pioO_oj_X1_assume_196 hP hc  ?_)))
theorem pioO_ol_X1_assume_106  (hP : iKptO P) (hc : cQoO P call)  : ∀ (t : Nat) (x0 : Option Nat) (x1 : Option Nat) (x2 : Int32) (x3 : Int32) (σ : oSt), P σ → PIo P (ol_X1_assume_106 n call κ  t x0 x1 x2 x3 σ) := by
  intro t
  induction t with
  | zero => intros; exact PIoO_none
  | succ t ih =>
    intro x0 x1 x2 x3 σ h
    rw [ol_X1_assume_106]
    repeat' (with_reducible (first | assumption | (refine PIoO_gd ?_) | (refine PIoO_pf hP ?_ (by decide) (by with_unfolding_all rfl) (fun _ _ => ?_)) | (refine PIoO_si hP ?_ (fun _ _ => ?_)) | (refine PIoO_sj hP ?_ (fun _ _ => ?_)) | (refine PIoO_sr hP ?_ (fun _ _ => ?_)) | (refine PIoO_cy hP ?_ (fun _ _ => ?_)) | (refine PIoO_bn (fun _ => ?_)) | (refine PIoO_na hP ?_ (fun _ _ => ?_)) | (refine PIoO_no hP ?_ (fun _ _ => ?_)) | (refine PIoO_ite ?_ ?_) | (refine PIoO_some ?_) | (exact PIoO_none) | (refine PIoO_cv (cQoO.c56 hc _ _ _ _ ?_) (fun _ _ => ?_)) | (refine PIoO_in (cQoO.c236 hc _ _ ?_) (fun _ _ _ => ?_)) | (refine PIoO_rn (cQoO.c234 hc _ _ _ ?_) (fun _ _ _ => ?_)) | (refine ih _ _ _ _ _ ?_)))
theorem pioO_oj_X1_assume_91  {x0 : Option Nat} {x1 : Option Nat} {x2 : Int32} {t0 : Int32} {σ : oSt} (hP : iKptO P) (hc : cQoO P call)  (h : P σ) : PIo P (oj_X1_assume_91 n call κ  x0 x1 x2 t0 σ) := by
  unfold oj_X1_assume_91
  repeat' (with_reducible (first | assumption | (refine PIoO_gd ?_) | (refine PIoO_pf hP ?_ (by decide) (by with_unfolding_all rfl) (fun _ _ => ?_)) | (refine PIoO_si hP ?_ (fun _ _ => ?_)) | (refine PIoO_sj hP ?_ (fun _ _ => ?_)) | (refine PIoO_sr hP ?_ (fun _ _ => ?_)) | (refine PIoO_cy hP ?_ (fun _ _ => ?_)) | (refine PIoO_bn (fun _ => ?_)) | (refine PIoO_na hP ?_ (fun _ _ => ?_)) | (refine PIoO_no hP ?_ (fun _ _ => ?_)) | (refine PIoO_ite ?_ ?_) | (refine PIoO_some ?_) | (exact PIoO_none) | (refine PIoO_cv (cQoO.c51 hc _ _ _ _ ?_) (fun _ _ => ?_)) | (refine pioO_ol_X1_assume_106 hP hc  _ _ _ _ _ _ ?_)))
theorem pioO_oj_X1_assume_70  {t0 : Option Nat} {t1 : Option Nat} {t2 : Int32} {σ : oSt} (hP : iKptO P) (hc : cQoO P call)  (h : P σ) : PIo P (oj_X1_assume_70 n call κ  t0 t1 t2 σ) := by
  unfold oj_X1_assume_70
  repeat' (with_reducible (first | assumption | (refine PIoO_gd ?_) | (refine PIoO_pf hP ?_ (by decide) (by with_unfolding_all rfl) (fun _ _ => ?_)) | (refine PIoO_si hP ?_ (fun _ _ => ?_)) | (refine PIoO_sj hP ?_ (fun _ _ => ?_)) | (refine PIoO_sr hP ?_ (fun _ _ => ?_)) | (refine PIoO_cy hP ?_ (fun _ _ => ?_)) | (refine PIoO_bn (fun _ => ?_)) | (refine PIoO_na hP ?_ (fun _ _ => ?_)) | (refine PIoO_no hP ?_ (fun _ _ => ?_)) | (refine PIoO_ite ?_ ?_) | (refine PIoO_some ?_) | (exact PIoO_none) | (refine PIoO_cv (cQoO.c56 hc _ _ _ _ ?_) (fun _ _ => ?_))))
theorem pioO_ob_X1_assume  {x0 : Option Nat} {x1 : Option Nat} {x2 : Int32} {σ : oSt} (hP : iKptO P) (hc : cQoO P call)  (h : P σ) : PIo P (ob_X1_assume n call κ  x0 x1 x2 σ) := by
  unfold ob_X1_assume
  repeat' (with_reducible (first | assumption | (refine PIoO_gd ?_) | (refine PIoO_pf hP ?_ (by decide) (by with_unfolding_all rfl) (fun _ _ => ?_)) | (refine PIoO_si hP ?_ (fun _ _ => ?_)) | (refine PIoO_sj hP ?_ (fun _ _ => ?_)) | (refine PIoO_sr hP ?_ (fun _ _ => ?_)) | (refine PIoO_cy hP ?_ (fun _ _ => ?_)) | (refine PIoO_bn (fun _ => ?_)) | (refine PIoO_na hP ?_ (fun _ _ => ?_)) | (refine PIoO_no hP ?_ (fun _ _ => ?_)) | (refine PIoO_ite ?_ ?_) | (refine PIoO_some ?_) | (exact PIoO_none) | (refine PIoO_cv (cQoO.c52 hc _ _ _ _ ?_) (fun _ _ => ?_)) | (refine PIoO_cv (cQoO.c55 hc _ _ _ _ ?_) (fun _ _ => ?_)) | (refine pioO_oj_X1_assume_70 hP hc  ?_) | (refine pioO_oj_X1_assume_91 hP hc  ?_) | (refine pioO_oj_X1_assume_192 hP hc  ?_) | (refine pioO_oj_X1_assume_196 hP hc  ?_)))
theorem pioO_oj_X1_begin_176 {k104 : Option Nat → Option Nat → oSt → oRs} {x0 : Option Nat} {x4 : Option Nat} {σ : oSt} (hP : iKptO P) (hc : cQoO P call) (hk104 : ∀ (a0 : Option Nat) (a1 : Option Nat), ∀ σ, P σ → PIo P (k104 a0 a1 σ)) (h : P σ) : PIo P (oj_X1_begin_176 n call κ k104 x0 x4 σ) := by
  unfold oj_X1_begin_176
  repeat' (with_reducible (first | assumption | (refine PIoO_gd ?_) | (refine PIoO_pf hP ?_ (by decide) (by with_unfolding_all rfl) (fun _ _ => ?_)) | (refine PIoO_si hP ?_ (fun _ _ => ?_)) | (refine PIoO_sj hP ?_ (fun _ _ => ?_)) | (refine PIoO_sr hP ?_ (fun _ _ => ?_)) | (refine PIoO_cy hP ?_ (fun _ _ => ?_)) | (refine PIoO_bn (fun _ => ?_)) | (refine PIoO_na hP ?_ (fun _ _ => ?_)) | (refine PIoO_no hP ?_ (fun _ _ => ?_)) | (refine PIoO_ite ?_ ?_) | (refine PIoO_some ?_) | (exact PIoO_none) | (refine hk104 _ _ _ ?_)))
theorem pioO_ol_X1_begin_104  (hP : iKptO P) (hc : cQoO P call)  : ∀ (t : Nat) (x0 : Option Nat) (x1 : Option Nat) (σ : oSt), P σ → PIo P (ol_X1_begin_104 n call κ  t x0 x1 σ) := by
  intro t
  induction t with
  | zero => intros; exact PIoO_none
  | succ t ih =>
    intro x0 x1 σ h
    rw [ol_X1_begin_104]
    repeat' (with_reducible (first | assumption | (refine PIoO_gd ?_) | (refine PIoO_pf hP ?_ (by decide) (by with_unfolding_all rfl) (fun _ _ => ?_)) | (refine PIoO_si hP ?_ (fun _ _ => ?_)) | (refine PIoO_sj hP ?_ (fun _ _ => ?_)) | (refine PIoO_sr hP ?_ (fun _ _ => ?_)) | (refine PIoO_cy hP ?_ (fun _ _ => ?_)) | (refine PIoO_bn (fun _ => ?_)) | (refine PIoO_na hP ?_ (fun _ _ => ?_)) | (refine PIoO_no hP ?_ (fun _ _ => ?_)) | (refine PIoO_ite ?_ ?_) | (refine PIoO_some ?_) | (exact PIoO_none) | (refine PIoO_cv (cQoO.c50 hc _ _ _ _ ?_) (fun _ _ => ?_)) | (refine PIoO_cv (cQoO.c56 hc _ _ _ _ ?_) (fun _ _ => ?_)) | (refine PIoO_in (cQoO.c6 hc _ _ ?_) (fun _ _ _ => ?_)) | (refine pioO_oj_X1_begin_176 hP hc ih ?_)))
theorem pioO_oj_X1_begin_101  {x0 : Option Nat} {x1 : Option Nat} {σ : oSt} (hP : iKptO P) (hc : cQoO P call)  (h : P σ) : PIo P (oj_X1_begin_101 n call κ  x0 x1 σ) := by
  unfold oj_X1_begin_101
  repeat' (with_reducible (first | assumption | (refine PIoO_gd ?_) | (refine PIoO_pf hP ?_ (by decide) (by with_unfolding_all rfl) (fun _ _ => ?_)) | (refine PIoO_si hP ?_ (fun _ _ => ?_)) | (refine PIoO_sj hP ?_ (fun _ _ => ?_)) | (refine PIoO_sr hP ?_ (fun _ _ => ?_)) | (refine PIoO_cy hP ?_ (fun _ _ => ?_)) | (refine PIoO_bn (fun _ => ?_)) | (refine PIoO_na hP ?_ (fun _ _ => ?_)) | (refine PIoO_no hP ?_ (fun _ _ => ?_)) | (refine PIoO_ite ?_ ?_) | (refine PIoO_some ?_) | (exact PIoO_none) | (refine pioO_ol_X1_begin_104 hP hc  _ _ _ _ ?_)))
theorem pioO_oj_X1_begin_73 {k25 : Option Nat → Option Nat → Option Nat → Int32 → Option Nat → oSt → oRs} {x0 : Option Nat} {x1 : Option Nat} {x2 : Option Nat} {x3 : Int32} {x4 : Option Nat} {σ : oSt} (hP : iKptO P) (hc : cQoO P call) (hk25 : ∀ (a0 : Option Nat) (a1 : Option Nat) (a2 : Option Nat) (a3 : Int32) (a4 : Option Nat), ∀ σ, P σ → PIo P (k25 a0 a1 a2 a3 a4 σ)) (h : P σ) : PIo P (oj_X1_begin_73 n call κ k25 x0 x1 x2 x3 x4 σ) := by
  unfold oj_X1_begin_73
  repeat' (with_reducible (first | assumption | (refine PIoO_gd ?_) | (refine PIoO_pf hP ?_ (by decide) (by with_unfolding_all rfl) (fun _ _ => ?_)) | (refine PIoO_si hP ?_ (fun _ _ => ?_)) | (refine PIoO_sj hP ?_ (fun _ _ => ?_)) | (refine PIoO_sr hP ?_ (fun _ _ => ?_)) | (refine PIoO_cy hP ?_ (fun _ _ => ?_)) | (refine PIoO_bn (fun _ => ?_)) | (refine PIoO_na hP ?_ (fun _ _ => ?_)) | (refine PIoO_no hP ?_ (fun _ _ => ?_)) | (refine PIoO_ite ?_ ?_) | (refine PIoO_some ?_) | (exact PIoO_none) | (refine hk25 _ _ _ _ _ _ ?_)))
theorem pioO_ol_X1_begin_25  (hP : iKptO P) (hc : cQoO P call)  : ∀ (t : Nat) (x0 : Option Nat) (x1 : Option Nat) (x2 : Option Nat) (x3 : Int32) (x4 : Option Nat) (σ : oSt), P σ → PIo P (ol_X1_begin_25 n call κ  t x0 x1 x2 x3 x4 σ) := by
  intro t
  induction t with
  | zero => intros; exact PIoO_none
  | succ t ih =>
    intro x0 x1 x2 x3 x4 σ h
    rw [ol_X1_begin_25]
    repeat' (with_reducible (first | assumption | (refine PIoO_gd ?_) | (refine PIoO_pf hP ?_ (by decide) (by with_unfolding_all rfl) (fun _ _ => ?_)) | (refine PIoO_si hP ?_ (fun _ _ => ?_)) | (refine PIoO_sj hP ?_ (fun _ _ => ?_)) | (refine PIoO_sr hP ?_ (fun _ _ => ?_)) | (refine PIoO_cy hP ?_ (fun _ _ => ?_)) | (refine PIoO_bn (fun _ => ?_)) | (refine PIoO_na hP ?_ (fun _ _ => ?_)) | (refine PIoO_no hP ?_ (fun _ _ => ?_)) | (refine PIoO_ite ?_ ?_) | (refine PIoO_some ?_) | (exact PIoO_none) | (refine PIoO_cv (cQoO.c41 hc _ _ _ ?_) (fun _ _ => ?_)) | (refine PIoO_cv (cQoO.c50 hc _ _ _ _ ?_) (fun _ _ => ?_)) | (refine PIoO_in (cQoO.c6 hc _ _ ?_) (fun _ _ _ => ?_)) | (refine pioO_oj_X1_begin_101 hP hc  ?_) | (refine pioO_oj_X1_begin_73 hP hc ih ?_)))
theorem pioO_ob_X1_begin  {x0 : Option Nat} {x1 : Option Nat} {x2 : Option Nat} {σ : oSt} (hP : iKptO P) (hc : cQoO P call)  (h : P σ) : PIo P (ob_X1_begin n call κ  x0 x1 x2 σ) := by
  unfold ob_X1_begin
  repeat' (with_reducible (first | assumption | (refine PIoO_gd ?_) | (refine PIoO_pf hP ?_ (by decide) (by with_unfolding_all rfl) (fun _ _ => ?_)) | (refine PIoO_si hP ?_ (fun _ _ => ?_)) | (refine PIoO_sj hP ?_ (fun _ _ => ?_)) | (refine PIoO_sr hP ?_ (fun _ _ => ?_)) | (refine PIoO_cy hP ?_ (fun _ _ => ?_)) | (refine PIoO_bn (fun _ => ?_)) | (refine PIoO_na hP ?_ (fun _ _ => ?_)) | (refine PIoO_no hP ?_ (fun _ _ => ?_)) | (refine PIoO_ite ?_ ?_) | (refine PIoO_some ?_) | (exact PIoO_none) | (refine pioO_ol_X1_begin_25 hP hc  _ _ _ _ _ _ _ ?_)))
theorem pioO_oj_X6_close_90  {x0 : Option Nat} {σ : oSt} (hP : iKptO P) (hc : cQoO P call)  (h : P σ) : PIo P (oj_X6_close_90 n call κ  x0 σ) := by
  unfold oj_X6_close_90
  repeat' (with_reducible (first | assumption | (refine PIoO_gd ?_) | (refine PIoO_pf hP ?_ (by decide) (by with_unfolding_all rfl) (fun _ _ => ?_)) | (refine PIoO_si hP ?_ (fun _ _ => ?_)) | (refine PIoO_sj hP ?_ (fun _ _ => ?_)) | (refine PIoO_sr hP ?_ (fun _ _ => ?_)) | (refine PIoO_cy hP ?_ (fun _ _ => ?_)) | (refine PIoO_bn (fun _ => ?_)) | (refine PIoO_na hP ?_ (fun _ _ => ?_)) | (refine PIoO_no hP ?_ (fun _ _ => ?_)) | (refine PIoO_ite ?_ ?_) | (refine PIoO_some ?_) | (exact PIoO_none) | (refine PIoO_cv (cQoO.c43 hc _ _ ?_) (fun _ _ => ?_))))
theorem pioO_oj_X6_close_75 {k7 : Option Nat → Int32 → oSt → oRs} {k31 : Option Nat → Int32 → Int32 → oSt → oRs} {x0 : Option Nat} {x1 : Int32} {x2 : Int32} {t0 : Option Nat} {t1 : Int32} {σ : oSt} (hP : iKptO P) (hc : cQoO P call) (hk7 : ∀ (a0 : Option Nat) (a1 : Int32), ∀ σ, P σ → PIo P (k7 a0 a1 σ)) (hk31 : ∀ (a0 : Option Nat) (a1 : Int32) (a2 : Int32), ∀ σ, P σ → PIo P (k31 a0 a1 a2 σ)) (h : P σ) : PIo P (oj_X6_close_75 n call κ k7 k31 x0 x1 x2 t0 t1 σ) := by
  unfold oj_X6_close_75
  repeat' (with_reducible (first | assumption | (refine PIoO_gd ?_) | (refine PIoO_pf hP ?_ (by decide) (by with_unfolding_all rfl) (fun _ _ => ?_)) | (refine PIoO_si hP ?_ (fun _ _ => ?_)) | (refine PIoO_sj hP ?_ (fun _ _ => ?_)) | (refine PIoO_sr hP ?_ (fun _ _ => ?_)) | (refine PIoO_cy hP ?_ (fun _ _ => ?_)) | (refine PIoO_bn (fun _ => ?_)) | (refine PIoO_na hP ?_ (fun _ _ => ?_)) | (refine PIoO_no hP ?_ (fun _ _ => ?_)) | (refine PIoO_ite ?_ ?_) | (refine PIoO_some ?_) | (exact PIoO_none) | (refine hk7 _ _ _ ?_) | (refine hk31 _ _ _ _ ?_)))
theorem pioO_oj_X6_close_70 {k7 : Option Nat → Int32 → oSt → oRs} {k31 : Option Nat → Int32 → Int32 → oSt → oRs} {x0 : Option Nat} {x1 : Int32} {x2 : Int32} {t0 : Option Nat} {σ : oSt} (hP : iKptO P) (hc : cQoO P call) (hk7 : ∀ (a0 : Option Nat) (a1 : Int32), ∀ σ, P σ → PIo P (k7 a0 a1 σ)) (hk31 : ∀ (a0 : Option Nat) (a1 : Int32) (a2 : Int32), ∀ σ, P σ → PIo P (k31 a0 a1 a2 σ)) (h : P σ) : PIo P (oj_X6_close_70 n call κ k7 k31 x0 x1 x2 t0 σ) := by
  unfold oj_X6_close_70
  repeat' (with_reducible (first | assumption | (refine PIoO_gd ?_) | (refine PIoO_pf hP ?_ (by decide) (by with_unfolding_all rfl) (fun _ _ => ?_)) | (refine PIoO_si hP ?_ (fun _ _ => ?_)) | (refine PIoO_sj hP ?_ (fun _ _ => ?_)) | (refine PIoO_sr hP ?_ (fun _ _ => ?_)) | (refine PIoO_cy hP ?_ (fun _ _ => ?_)) | (refine PIoO_bn (fun _ => ?_)) | (refine PIoO_na hP ?_ (fun _ _ => ?_)) | (refine PIoO_no hP ?_ (fun _ _ => ?_)) | (refine PIoO_ite ?_ ?_) | (refine PIoO_some ?_) | (exact PIoO_none) | (refine pioO_oj_X6_close_75 hP hc hk7 hk31 ?_) | (refine hk7 _ _ _ ?_) | (refine hk31 _ _ _ _ ?_)))
theorem pioO_ol_X6_close_31 {k7 : Option Nat → Int32 → oSt → oRs} (hP : iKptO P) (hc : cQoO P call) (hk7 : ∀ (a0 : Option Nat) (a1 : Int32), ∀ σ, P σ → PIo P (k7 a0 a1 σ)) : ∀ (t : Nat) (x0 : Option Nat) (x1 : Int32) (x2 : Int32) (σ : oSt), P σ → PIo P (ol_X6_close_31 n call κ k7 t x0 x1 x2 σ) := by
  intro t
  induction t with
  | zero => intros; exact PIoO_none
  | succ t ih =>
    intro x0 x1 x2 σ h
    rw [ol_X6_close_31]
    repeat' (with_reducible (first | assumption | (refine PIoO_gd ?_) | (refine PIoO_pf hP ?_ (by decide) (by with_unfolding_all rfl) (fun _ _ => ?_)) | (refine PIoO_si hP ?_ (fun _ _ => ?_)) | (refine PIoO_sj hP ?_ (fun _ _ => ?_)) | (refine PIoO_sr hP ?_ (fun _ _ => ?_)) | (refine PIoO_cy hP ?_ (fun _ _ => ?_)) | (refine PIoO_bn (fun _ => ?_)) | (refine PIoO_na hP ?_ (fun _ _ => ?_)) | (refine PIoO_no hP ?_ (fun _ _ => ?_)) | (refine PIoO_ite ?_ ?_) | (refine PIoO_some ?_) | (exact PIoO_none) | (refine pioO_oj_X6_close_75 hP hc hk7 ih ?_) | (refine pioO_oj_X6_close_70 hP hc hk7 ih ?_) | (refine hk7 _ _ _ ?_)))
theorem pioO_ol_X6_close_7  (hP : iKptO P) (hc : cQoO P call)  : ∀ (t : Nat) (x0 : Option Nat) (x1 : Int32) (σ : oSt), P σ → PIo P (ol_X6_close_7 n call κ  t x0 x1 σ) := by
  intro t
  induction t with
  | zero => intros; exact PIoO_none
  | succ t ih =>
    intro x0 x1 σ h
    rw [ol_X6_close_7]
    repeat' (with_reducible (first | assumption | (refine PIoO_gd ?_) | (refine PIoO_pf hP ?_ (by decide) (by with_unfolding_all rfl) (fun _ _ => ?_)) | (refine PIoO_si hP ?_ (fun _ _ => ?_)) | (refine PIoO_sj hP ?_ (fun _ _ => ?_)) | (refine PIoO_sr hP ?_ (fun _ _ => ?_)) | (refine PIoO_cy hP ?_ (fun _ _ => ?_)) | (refine PIoO_bn (fun _ => ?_)) | (refine PIoO_na hP ?_ (fun _ _ => ?_)) | (refine PIoO_no hP ?_ (fun _ _ => ?_)) | (refine PIoO_ite ?_ ?_) | (refine PIoO_some ?_) | (exact PIoO_none) | (refine PIoO_cv (cQoO.c42 hc _ _ _ _ _ ?_) (fun _ _ => ?_)) | (refine pioO_oj_X6_close_90 hP hc  ?_) | (refine pioO_ol_X6_close_31 hP hc ih _ _ _ _ _ ?_)))
theorem pioO_ob_X6_close  {x0 : Option Nat} {σ : oSt} (hP : iKptO P) (hc : cQoO P call)  (h : P σ) : PIo P (ob_X6_close n call κ  x0 σ) := by
  unfold ob_X6_close
  repeat' (with_reducible (first | assumption | (refine PIoO_gd ?_) | (refine PIoO_pf hP ?_ (by decide) (by with_unfolding_all rfl) (fun _ _ => ?_)) | (refine PIoO_si hP ?_ (fun _ _ => ?_)) | (refine PIoO_sj hP ?_ (fun _ _ => ?_)) | (refine PIoO_sr hP ?_ (fun _ _ => ?_)) | (refine PIoO_cy hP ?_ (fun _ _ => ?_)) | (refine PIoO_bn (fun _ => ?_)) | (refine PIoO_na hP ?_ (fun _ _ => ?_)) | (refine PIoO_no hP ?_ (fun _ _ => ?_)) | (refine PIoO_ite ?_ ?_) | (refine PIoO_some ?_) | (exact PIoO_none) | (refine pioO_ol_X6_close_7 hP hc  _ _ _ _ ?_)))
theorem pioO_oj_X1_conclude_81 {k25 : Option Nat → Option Nat → Int32 → Int32 → oSt → oRs} {x0 : Option Nat} {x1 : Option Nat} {x2 : Int32} {x3 : Int32} {σ : oSt} (hP : iKptO P) (hc : cQoO P call) (hk25 : ∀ (a0 : Option Nat) (a1 : Option Nat) (a2 : Int32) (a3 : Int32), ∀ σ, P σ → PIo P (k25 a0 a1 a2 a3 σ)) (h : P σ) : PIo P (oj_X1_conclude_81 n call κ k25 x0 x1 x2 x3 σ) := by
  unfold oj_X1_conclude_81
  repeat' (with_reducible (first | assumption | (refine PIoO_gd ?_) | (refine PIoO_pf hP ?_ (by decide) (by with_unfolding_all rfl) (fun _ _ => ?_)) | (refine PIoO_si hP ?_ (fun _ _ => ?_)) | (refine PIoO_sj hP ?_ (fun _ _ => ?_)) | (refine PIoO_sr hP ?_ (fun _ _ => ?_)) | (refine PIoO_cy hP ?_ (fun _ _ => ?_)) | (refine PIoO_bn (fun _ => ?_)) | (refine PIoO_na hP ?_ (fun _ _ => ?_)) | (refine PIoO_no hP ?_ (fun _ _ => ?_)) | (refine PIoO_ite ?_ ?_) | (refine PIoO_some ?_) | (exact PIoO_none) | (refine hk25 _ _ _ _ _ ?_)))
theorem pioO_ol_X1_conclude_25  (hP : iKptO P) (hc : cQoO P call)  : ∀ (t : Nat) (x0 : Option Nat) (x1 : Option Nat) (x2 : Int32) (x3 : Int32) (σ : oSt), P σ → PIo P (ol_X1_conclude_25 n call κ  t x0 x1 x2 x3 σ) := by
  intro t
  induction t with
  | zero => intros; exact PIoO_none
  | succ t ih =>
    intro x0 x1 x2 x3 σ h
    rw [ol_X1_conclude_25]
    repeat' (with_reducible (first | assumption | (refine PIoO_gd ?_) | (refine PIoO_pf hP ?_ (by decide) (by with_unfolding_all rfl) (fun _ _ => ?_)) | (refine PIoO_si hP ?_ (fun _ _ => ?_)) | (refine PIoO_sj hP ?_ (fun _ _ => ?_)) | (refine PIoO_sr hP ?_ (fun _ _ => ?_)) | (refine PIoO_cy hP ?_ (fun _ _ => ?_)) | (refine PIoO_bn (fun _ => ?_)) | (refine PIoO_na hP ?_ (fun _ _ => ?_)) | (refine PIoO_no hP ?_ (fun _ _ => ?_)) | (refine PIoO_ite ?_ ?_) | (refine PIoO_some ?_) | (exact PIoO_none) | (refine PIoO_cv (cQoO.c46 hc _ _ _ ?_) (fun _ _ => ?_)) | (refine PIoO_in (cQoO.c49 hc _ _ _ _ _ ?_) (fun _ _ _ => ?_)) | (refine pioO_oj_X1_conclude_81 hP hc ih ?_)))
theorem pioO_ob_X1_conclude  {x0 : Option Nat} {σ : oSt} (hP : iKptO P) (hc : cQoO P call)  (h : P σ) : PIo P (ob_X1_conclude n call κ  x0 σ) := by
  unfold ob_X1_conclude
  repeat' (with_reducible (first | assumption | (refine PIoO_gd ?_) | (refine PIoO_pf hP ?_ (by decide) (by with_unfolding_all rfl) (fun _ _ => ?_)) | (refine PIoO_si hP ?_ (fun _ _ => ?_)) | (refine PIoO_sj hP ?_ (fun _ _ => ?_)) | (refine PIoO_sr hP ?_ (fun _ _ => ?_)) | (refine PIoO_cy hP ?_ (fun _ _ => ?_)) | (refine PIoO_bn (fun _ => ?_)) | (refine PIoO_na hP ?_ (fun _ _ => ?_)) | (refine PIoO_no hP ?_ (fun _ _ => ?_)) | (refine PIoO_ite ?_ ?_) | (refine PIoO_some ?_) | (exact PIoO_none) | (refine pioO_ol_X1_conclude_25 hP hc  _ _ _ _ _ _ ?_)))
theorem pioO_ob_X1_isDecided  {x0 : Option Nat} {σ : oSt} (hP : iKptO P) (hc : cQoO P call)  (h : P σ) : PIo P (ob_X1_isDecided n call κ  x0 σ) := by
  unfold ob_X1_isDecided
  repeat' (with_reducible (first | assumption | (refine PIoO_gd ?_) | (refine PIoO_pf hP ?_ (by decide) (by with_unfolding_all rfl) (fun _ _ => ?_)) | (refine PIoO_si hP ?_ (fun _ _ => ?_)) | (refine PIoO_sj hP ?_ (fun _ _ => ?_)) | (refine PIoO_sr hP ?_ (fun _ _ => ?_)) | (refine PIoO_cy hP ?_ (fun _ _ => ?_)) | (refine PIoO_bn (fun _ => ?_)) | (refine PIoO_na hP ?_ (fun _ _ => ?_)) | (refine PIoO_no hP ?_ (fun _ _ => ?_)) | (refine PIoO_ite ?_ ?_) | (refine PIoO_some ?_) | (exact PIoO_none)))
theorem pioO_ob_X6_rise  {x0 : Option Nat} {σ : oSt} (hP : iKptO P) (hc : cQoO P call)  (h : P σ) : PIo P (ob_X6_rise n call κ  x0 σ) := by
  unfold ob_X6_rise
  repeat' (with_reducible (first | assumption | (refine PIoO_gd ?_) | (refine PIoO_pf hP ?_ (by decide) (by with_unfolding_all rfl) (fun _ _ => ?_)) | (refine PIoO_si hP ?_ (fun _ _ => ?_)) | (refine PIoO_sj hP ?_ (fun _ _ => ?_)) | (refine PIoO_sr hP ?_ (fun _ _ => ?_)) | (refine PIoO_cy hP ?_ (fun _ _ => ?_)) | (refine PIoO_bn (fun _ => ?_)) | (refine PIoO_na hP ?_ (fun _ _ => ?_)) | (refine PIoO_no hP ?_ (fun _ _ => ?_)) | (refine PIoO_ite ?_ ?_) | (refine PIoO_some ?_) | (exact PIoO_none) | (refine PIoO_cv (cQoO.c40 hc _ _ _ ?_) (fun _ _ => ?_))))
theorem pioO_ob_X6_sink  {x0 : Option Nat} {σ : oSt} (hP : iKptO P) (hc : cQoO P call)  (h : P σ) : PIo P (ob_X6_sink n call κ  x0 σ) := by
  unfold ob_X6_sink
  repeat' (with_reducible (first | assumption | (refine PIoO_gd ?_) | (refine PIoO_pf hP ?_ (by decide) (by with_unfolding_all rfl) (fun _ _ => ?_)) | (refine PIoO_si hP ?_ (fun _ _ => ?_)) | (refine PIoO_sj hP ?_ (fun _ _ => ?_)) | (refine PIoO_sr hP ?_ (fun _ _ => ?_)) | (refine PIoO_cy hP ?_ (fun _ _ => ?_)) | (refine PIoO_bn (fun _ => ?_)) | (refine PIoO_na hP ?_ (fun _ _ => ?_)) | (refine PIoO_no hP ?_ (fun _ _ => ?_)) | (refine PIoO_ite ?_ ?_) | (refine PIoO_some ?_) | (exact PIoO_none)))
theorem pioO_oj_X1_explore_146 {k76 : Option Nat → Int32 → Option Nat → Int32 → Int32 → Int32 → Int32 → Int32 → oSt → oRs} {x0 : Option Nat} {x1 : Int32} {x2 : Option Nat} {x3 : Int32} {x4 : Int32} {x5 : Int32} {x6 : Int32} {x7 : Int32} {σ : oSt} (hP : iKptO P) (hc : cQoO P call) (hk76 : ∀ (a0 : Option Nat) (a1 : Int32) (a2 : Option Nat) (a3 : Int32) (a4 : Int32) (a5 : Int32) (a6 : Int32) (a7 : Int32), ∀ σ, P σ → PIo P (k76 a0 a1 a2 a3 a4 a5 a6 a7 σ)) (h : P σ) : PIo P (oj_X1_explore_146 n call κ k76 x0 x1 x2 x3 x4 x5 x6 x7 σ) := by
  unfold oj_X1_explore_146
  repeat' (with_reducible (first | assumption | (refine PIoO_gd ?_) | (refine PIoO_pf hP ?_ (by decide) (by with_unfolding_all rfl) (fun _ _ => ?_)) | (refine PIoO_si hP ?_ (fun _ _ => ?_)) | (refine PIoO_sj hP ?_ (fun _ _ => ?_)) | (refine PIoO_sr hP ?_ (fun _ _ => ?_)) | (refine PIoO_cy hP ?_ (fun _ _ => ?_)) | (refine PIoO_bn (fun _ => ?_)) | (refine PIoO_na hP ?_ (fun _ _ => ?_)) | (refine PIoO_no hP ?_ (fun _ _ => ?_)) | (refine PIoO_ite ?_ ?_) | (refine PIoO_some ?_) | (exact PIoO_none) | (refine PIoO_cv (cQoO.c62 hc _ _ ?_) (fun _ _ => ?_)) | (refine PIoO_cv (cQoO.c63 hc _ _ _ ?_) (fun _ _ => ?_)) | (refine hk76 _ _ _ _ _ _ _ _ _ ?_)))
theorem pioO_oj_X1_explore_122 {k76 : Option Nat → Int32 → Option Nat → Int32 → Int32 → Int32 → Int32 → Int32 → oSt → oRs} {x0 : Option Nat} {x1 : Int32} {x2 : Option Nat} {x3 : Int32} {x4 : Int32} {x5 : Int32} {x6 : Int32} {x7 : Int32} {t0 : Option Nat} {t1 : Option Nat} {t2 : Int32} {σ : oSt} (hP : iKptO P) (hc : cQoO P call) (hk76 : ∀ (a0 : Option Nat) (a1 : Int32) (a2 : Option Nat) (a3 : Int32) (a4 : Int32) (a5 : Int32) (a6 : Int32) (a7 : Int32), ∀ σ, P σ → PIo P (k76 a0 a1 a2 a3 a4 a5 a6 a7 σ)) (h : P σ) : PIo P (oj_X1_explore_122 n call κ k76 x0 x1 x2 x3 x4 x5 x6 x7 t0 t1 t2 σ) := by
  unfold oj_X1_explore_122
  repeat' (with_reducible (first | assumption | (refine PIoO_gd ?_) | (refine PIoO_pf hP ?_ (by decide) (by with_unfolding_all rfl) (fun _ _ => ?_)) | (refine PIoO_si hP ?_ (fun _ _ => ?_)) | (refine PIoO_sj hP ?_ (fun _ _ => ?_)) | (refine PIoO_sr hP ?_ (fun _ _ => ?_)) | (refine PIoO_cy hP ?_ (fun _ _ => ?_)) | (refine PIoO_bn (fun _ => ?_)) | (refine PIoO_na hP ?_ (fun _ _ => ?_)) | (refine PIoO_no hP ?_ (fun _ _ => ?_)) | (refine PIoO_ite ?_ ?_) | (refine PIoO_some ?_) | (exact PIoO_none) | (refine PIoO_cv (cQoO.c54 hc _ _ _ _ _ ?_) (fun _ _ => ?_)) | (refine pioO_oj_X1_explore_146 hP hc hk76 ?_) | (refine hk76 _ _ _ _ _ _ _ _ _ ?_)))
theorem pioO_ol_X1_explore_76  (hP : iKptO P) (hc : cQoO P call)  : ∀ (t : Nat) (x0 : Option Nat) (x1 : Int32) (x2 : Option Nat) (x3 : Int32) (x4 : Int32) (x5 : Int32) (x6 : Int32) (x7 : Int32) (σ : oSt), P σ → PIo P (ol_X1_explore_76 n call κ  t x0 x1 x2 x3 x4 x5 x6 x7 σ) := by
  intro t
  induction t with
  | zero => intros; exact PIoO_none
  | succ t ih =>
    intro x0 x1 x2 x3 x4 x5 x6 x7 σ h
    rw [ol_X1_explore_76]
    repeat' (with_reducible (first | assumption | (refine PIoO_gd ?_) | (refine PIoO_pf hP ?_ (by decide) (by with_unfolding_all rfl) (fun _ _ => ?_)) | (refine PIoO_si hP ?_ (fun _ _ => ?_)) | (refine PIoO_sj hP ?_ (fun _ _ => ?_)) | (refine PIoO_sr hP ?_ (fun _ _ => ?_)) | (refine PIoO_cy hP ?_ (fun _ _ => ?_)) | (refine PIoO_bn (fun _ => ?_)) | (refine PIoO_na hP ?_ (fun _ _ => ?_)) | (refine PIoO_no hP ?_ (fun _ _ => ?_)) | (refine PIoO_ite ?_ ?_) | (refine PIoO_some ?_) | (exact PIoO_none) | (refine PIoO_cv (cQoO.c56 hc _ _ _ _ ?_) (fun _ _ => ?_)) | (refine PIoO_cv (cQoO.c61 hc _ _ ?_) (fun _ _ => ?_)) | (refine PIoO_in (cQoO.c60 hc _ _ ?_) (fun _ _ _ => ?_)) | (refine PIoO_rn (cQoO.c234 hc _ _ _ ?_) (fun _ _ _ => ?_)) | (refine pioO_oj_X1_explore_122 hP hc ih ?_) | (refine pioO_oj_X1_explore_146 hP hc ih ?_)))
theorem pioO_oj_X1_explore_71  {x0 : Option Nat} {x1 : Int32} {x2 : Option Nat} {x3 : Int32} {x4 : Int32} {x5 : Int32} {t0 : Int32} {σ : oSt} (hP : iKptO P) (hc : cQoO P call)  (h : P σ) : PIo P (oj_X1_explore_71 n call κ  x0 x1 x2 x3 x4 x5 t0 σ) := by
  unfold oj_X1_explore_71
  repeat' (with_reducible (first | assumption | (refine PIoO_gd ?_) | (refine PIoO_pf hP ?_ (by decide) (by with_unfolding_all rfl) (fun _ _ => ?_)) | (refine PIoO_si hP ?_ (fun _ _ => ?_)) | (refine PIoO_sj hP ?_ (fun _ _ => ?_)) | (refine PIoO_sr hP ?_ (fun _ _ => ?_)) | (refine PIoO_cy hP ?_ (fun _ _ => ?_)) | (refine PIoO_bn (fun _ => ?_)) | (refine PIoO_na hP ?_ (fun _ _ => ?_)) | (refine PIoO_no hP ?_ (fun _ _ => ?_)) | (refine PIoO_ite ?_ ?_) | (refine PIoO_some ?_) | (exact PIoO_none) | (refine pioO_ol_X1_explore_76 hP hc  _ _ _ _ _ _ _ _ _ _ ?_)))
theorem pioO_ob_X1_explore  {x0 : Option Nat} {x1 : Int32} {σ : oSt} (hP : iKptO P) (hc : cQoO P call)  (h : P σ) : PIo P (ob_X1_explore n call κ  x0 x1 σ) := by
  unfold ob_X1_explore
  repeat' (with_reducible (first | assumption | (refine PIoO_gd ?_) | (refine PIoO_pf hP ?_ (by decide) (by with_unfolding_all rfl) (fun _ _ => ?_)) | (refine PIoO_si hP ?_ (fun _ _ => ?_)) | (refine PIoO_sj hP ?_ (fun _ _ => ?_)) | (refine PIoO_sr hP ?_ (fun _ _ => ?_)) | (refine PIoO_cy hP ?_ (fun _ _ => ?_)) | (refine PIoO_bn (fun _ => ?_)) | (refine PIoO_na hP ?_ (fun _ _ => ?_)) | (refine PIoO_no hP ?_ (fun _ _ => ?_)) | (refine PIoO_ite ?_ ?_) | (refine PIoO_some ?_) | (exact PIoO_none) | (refine PIoO_cv (cQoO.c59 hc _ _ ?_) (fun _ _ => ?_)) | (refine PIoO_in (cQoO.c236 hc _ _ ?_) (fun _ _ _ => ?_)) | (refine pioO_oj_X1_explore_71 hP hc  ?_)))
theorem pioO_oj_X1_isSure_18  {x0 : Option Nat} {x1 : Option Nat} {x2 : Option Nat} {t0 : Option Nat} {t1 : Int32} {σ : oSt} (hP : iKptO P) (hc : cQoO P call)  (h : P σ) : PIo P (oj_X1_isSure_18 n call κ  x0 x1 x2 t0 t1 σ) := by
  unfold oj_X1_isSure_18
  repeat' (with_reducible (first | assumption | (refine PIoO_gd ?_) | (refine PIoO_pf hP ?_ (by decide) (by with_unfolding_all rfl) (fun _ _ => ?_)) | (refine PIoO_si hP ?_ (fun _ _ => ?_)) | (refine PIoO_sj hP ?_ (fun _ _ => ?_)) | (refine PIoO_sr hP ?_ (fun _ _ => ?_)) | (refine PIoO_cy hP ?_ (fun _ _ => ?_)) | (refine PIoO_bn (fun _ => ?_)) | (refine PIoO_na hP ?_ (fun _ _ => ?_)) | (refine PIoO_no hP ?_ (fun _ _ => ?_)) | (refine PIoO_ite ?_ ?_) | (refine PIoO_some ?_) | (exact PIoO_none) | (refine PIoO_cv (cQoO.c56 hc _ _ _ _ ?_) (fun _ _ => ?_)) | (refine PIoO_cv (cQoO.c57 hc _ _ _ _ ?_) (fun _ _ => ?_)) | (refine PIoO_cv (cQoO.c58 hc _ _ ?_) (fun _ _ => ?_)) | (refine PIoO_cv (cQoO.c63 hc _ _ _ ?_) (fun _ _ => ?_))))
theorem pioO_ob_X1_isSure  {x0 : Option Nat} {x1 : Option Nat} {x2 : Option Nat} {σ : oSt} (hP : iKptO P) (hc : cQoO P call)  (h : P σ) : PIo P (ob_X1_isSure n call κ  x0 x1 x2 σ) := by
  unfold ob_X1_isSure
  repeat' (with_reducible (first | assumption | (refine PIoO_gd ?_) | (refine PIoO_pf hP ?_ (by decide) (by with_unfolding_all rfl) (fun _ _ => ?_)) | (refine PIoO_si hP ?_ (fun _ _ => ?_)) | (refine PIoO_sj hP ?_ (fun _ _ => ?_)) | (refine PIoO_sr hP ?_ (fun _ _ => ?_)) | (refine PIoO_cy hP ?_ (fun _ _ => ?_)) | (refine PIoO_bn (fun _ => ?_)) | (refine PIoO_na hP ?_ (fun _ _ => ?_)) | (refine PIoO_no hP ?_ (fun _ _ => ?_)) | (refine PIoO_ite ?_ ?_) | (refine PIoO_some ?_) | (exact PIoO_none) | (refine PIoO_in (cQoO.c39 hc _ _ ?_) (fun _ _ _ => ?_)) | (refine pioO_oj_X1_isSure_18 hP hc  ?_)))
theorem pioO_oj_X0_findDoubt_69 {k2 : Option Nat → Int32 → oSt → oRs} {x0 : Option Nat} {x1 : Int32} {σ : oSt} (hP : iKptO P) (hc : cQoO P call) (hk2 : ∀ (a0 : Option Nat) (a1 : Int32), ∀ σ, P σ → PIo P (k2 a0 a1 σ)) (h : P σ) : PIo P (oj_X0_findDoubt_69 n call κ k2 x0 x1 σ) := by
  unfold oj_X0_findDoubt_69
  repeat' (with_reducible (first | assumption | (refine PIoO_gd ?_) | (refine PIoO_pf hP ?_ (by decide) (by with_unfolding_all rfl) (fun _ _ => ?_)) | (refine PIoO_si hP ?_ (fun _ _ => ?_)) | (refine PIoO_sj hP ?_ (fun _ _ => ?_)) | (refine PIoO_sr hP ?_ (fun _ _ => ?_)) | (refine PIoO_cy hP ?_ (fun _ _ => ?_)) | (refine PIoO_bn (fun _ => ?_)) | (refine PIoO_na hP ?_ (fun _ _ => ?_)) | (refine PIoO_no hP ?_ (fun _ _ => ?_)) | (refine PIoO_ite ?_ ?_) | (refine PIoO_some ?_) | (exact PIoO_none) | (refine hk2 _ _ _ ?_)))
theorem pioO_oj_X0_findDoubt_43 {k2 : Option Nat → Int32 → oSt → oRs} {x0 : Option Nat} {x1 : Int32} {x2 : Option Nat} {σ : oSt} (hP : iKptO P) (hc : cQoO P call) (hk2 : ∀ (a0 : Option Nat) (a1 : Int32), ∀ σ, P σ → PIo P (k2 a0 a1 σ)) (h : P σ) : PIo P (oj_X0_findDoubt_43 n call κ k2 x0 x1 x2 σ) := by
  unfold oj_X0_findDoubt_43
  repeat' (with_reducible (first | assumption | (refine PIoO_gd ?_) | (refine PIoO_pf hP ?_ (by decide) (by with_unfolding_all rfl) (fun _ _ => ?_)) | (refine PIoO_si hP ?_ (fun _ _ => ?_)) | (refine PIoO_sj hP ?_ (fun _ _ => ?_)) | (refine PIoO_sr hP ?_ (fun _ _ => ?_)) | (refine PIoO_cy hP ?_ (fun _ _ => ?_)) | (refine PIoO_bn (fun _ => ?_)) | (refine PIoO_na hP ?_ (fun _ _ => ?_)) | (refine PIoO_no hP ?_ (fun _ _ => ?_)) | (refine PIoO_ite ?_ ?_) | (refine PIoO_some ?_) | (exact PIoO_none) | (refine PIoO_in (cQoO.c64 hc _ _ _ _ ?_) (fun _ _ _ => ?_)) | (refine pioO_oj_X0_findDoubt_69 hP hc hk2 ?_) | (refine hk2 _ _ _ ?_)))
theorem pioO_ol_X0_findDoubt_2  (hP : iKptO P) (hc : cQoO P call)  : ∀ (t : Nat) (x0 : Option Nat) (x1 : Int32) (σ : oSt), P σ → PIo P (ol_X0_findDoubt_2 n call κ  t x0 x1 σ) := by
  intro t
  induction t with
  | zero => intros; exact PIoO_none
  | succ t ih =>
    intro x0 x1 σ h
    rw [ol_X0_findDoubt_2]
    repeat' (with_reducible (first | assumption | (refine PIoO_gd ?_) | (refine PIoO_pf hP ?_ (by decide) (by with_unfolding_all rfl) (fun _ _ => ?_)) | (refine PIoO_si hP ?_ (fun _ _ => ?_)) | (refine PIoO_sj hP ?_ (fun _ _ => ?_)) | (refine PIoO_sr hP ?_ (fun _ _ => ?_)) | (refine PIoO_cy hP ?_ (fun _ _ => ?_)) | (refine PIoO_bn (fun _ => ?_)) | (refine PIoO_na hP ?_ (fun _ _ => ?_)) | (refine PIoO_no hP ?_ (fun _ _ => ?_)) | (refine PIoO_ite ?_ ?_) | (refine PIoO_some ?_) | (exact PIoO_none) | (refine PIoO_in (cQoO.c236 hc _ _ ?_) (fun _ _ _ => ?_)) | (refine PIoO_rn (cQoO.c234 hc _ _ _ ?_) (fun _ _ _ => ?_)) | (refine pioO_oj_X0_findDoubt_43 hP hc ih ?_) | (refine pioO_oj_X0_findDoubt_69 hP hc ih ?_)))
theorem pioO_ob_X0_findDoubt  {x0 : Option Nat} {σ : oSt} (hP : iKptO P) (hc : cQoO P call)  (h : P σ) : PIo P (ob_X0_findDoubt n call κ  x0 σ) := by
  unfold ob_X0_findDoubt
  repeat' (with_reducible (first | assumption | (refine PIoO_gd ?_) | (refine PIoO_pf hP ?_ (by decide) (by with_unfolding_all rfl) (fun _ _ => ?_)) | (refine PIoO_si hP ?_ (fun _ _ => ?_)) | (refine PIoO_sj hP ?_ (fun _ _ => ?_)) | (refine PIoO_sr hP ?_ (fun _ _ => ?_)) | (refine PIoO_cy hP ?_ (fun _ _ => ?_)) | (refine PIoO_bn (fun _ => ?_)) | (refine PIoO_na hP ?_ (fun _ _ => ?_)) | (refine PIoO_no hP ?_ (fun _ _ => ?_)) | (refine PIoO_ite ?_ ?_) | (refine PIoO_some ?_) | (exact PIoO_none) | (refine pioO_ol_X0_findDoubt_2 hP hc  _ _ _ _ ?_)))
theorem pioO_oj_X0_lastChange_69 {k30 : Int32 → Option Nat → oSt → oRs} {x2 : Int32} {x3 : Option Nat} {σ : oSt} (hP : iKptO P) (hc : cQoO P call) (hk30 : ∀ (a0 : Int32) (a1 : Option Nat), ∀ σ, P σ → PIo P (k30 a0 a1 σ)) (h : P σ) : PIo P (oj_X0_lastChange_69 n call κ k30 x2 x3 σ) := by
  unfold oj_X0_lastChange_69
  repeat' (with_reducible (first | assumption | (refine PIoO_gd ?_) | (refine PIoO_pf hP ?_ (by decide) (by with_unfolding_all rfl) (fun _ _ => ?_)) | (refine PIoO_si hP ?_ (fun _ _ => ?_)) | (refine PIoO_sj hP ?_ (fun _ _ => ?_)) | (refine PIoO_sr hP ?_ (fun _ _ => ?_)) | (refine PIoO_cy hP ?_ (fun _ _ => ?_)) | (refine PIoO_bn (fun _ => ?_)) | (refine PIoO_na hP ?_ (fun _ _ => ?_)) | (refine PIoO_no hP ?_ (fun _ _ => ?_)) | (refine PIoO_ite ?_ ?_) | (refine PIoO_some ?_) | (exact PIoO_none) | (refine hk30 _ _ _ ?_)))
theorem pioO_ol_X0_lastChange_30  (hP : iKptO P) (hc : cQoO P call)  : ∀ (t : Nat) (x0 : Int32) (x1 : Option Nat) (σ : oSt), P σ → PIo P (ol_X0_lastChange_30 n call κ  t x0 x1 σ) := by
  intro t
  induction t with
  | zero => intros; exact PIoO_none
  | succ t ih =>
    intro x0 x1 σ h
    rw [ol_X0_lastChange_30]
    repeat' (with_reducible (first | assumption | (refine PIoO_gd ?_) | (refine PIoO_pf hP ?_ (by decide) (by with_unfolding_all rfl) (fun _ _ => ?_)) | (refine PIoO_si hP ?_ (fun _ _ => ?_)) | (refine PIoO_sj hP ?_ (fun _ _ => ?_)) | (refine PIoO_sr hP ?_ (fun _ _ => ?_)) | (refine PIoO_cy hP ?_ (fun _ _ => ?_)) | (refine PIoO_bn (fun _ => ?_)) | (refine PIoO_na hP ?_ (fun _ _ => ?_)) | (refine PIoO_no hP ?_ (fun _ _ => ?_)) | (refine PIoO_ite ?_ ?_) | (refine PIoO_some ?_) | (exact PIoO_none) | (refine pioO_oj_X0_lastChange_69 hP hc ih ?_)))
theorem pioO_ob_X0_lastChange  {x0 : Option Nat} {x1 : Int32} {σ : oSt} (hP : iKptO P) (hc : cQoO P call)  (h : P σ) : PIo P (ob_X0_lastChange n call κ  x0 x1 σ) := by
  unfold ob_X0_lastChange
  repeat' (with_reducible (first | assumption | (refine PIoO_gd ?_) | (refine PIoO_pf hP ?_ (by decide) (by with_unfolding_all rfl) (fun _ _ => ?_)) | (refine PIoO_si hP ?_ (fun _ _ => ?_)) | (refine PIoO_sj hP ?_ (fun _ _ => ?_)) | (refine PIoO_sr hP ?_ (fun _ _ => ?_)) | (refine PIoO_cy hP ?_ (fun _ _ => ?_)) | (refine PIoO_bn (fun _ => ?_)) | (refine PIoO_na hP ?_ (fun _ _ => ?_)) | (refine PIoO_no hP ?_ (fun _ _ => ?_)) | (refine PIoO_ite ?_ ?_) | (refine PIoO_some ?_) | (exact PIoO_none) | (refine PIoO_rn (cQoO.c234 hc _ _ _ ?_) (fun _ _ _ => ?_)) | (refine pioO_ol_X0_lastChange_30 hP hc  _ _ _ _ ?_)))
theorem pioO_ob_X1_weaken  {x0 : Option Nat} {x1 : Option Nat} {x2 : Option Nat} {x3 : Option Nat} {σ : oSt} (hP : iKptO P) (hc : cQoO P call)  (h : P σ) : PIo P (ob_X1_weaken n call κ  x0 x1 x2 x3 σ) := by
  unfold ob_X1_weaken
  repeat' (with_reducible (first | assumption | (refine PIoO_gd ?_) | (refine PIoO_pf hP ?_ (by decide) (by with_unfolding_all rfl) (fun _ _ => ?_)) | (refine PIoO_si hP ?_ (fun _ _ => ?_)) | (refine PIoO_sj hP ?_ (fun _ _ => ?_)) | (refine PIoO_sr hP ?_ (fun _ _ => ?_)) | (refine PIoO_cy hP ?_ (fun _ _ => ?_)) | (refine PIoO_bn (fun _ => ?_)) | (refine PIoO_na hP ?_ (fun _ _ => ?_)) | (refine PIoO_no hP ?_ (fun _ _ => ?_)) | (refine PIoO_ite ?_ ?_) | (refine PIoO_some ?_) | (exact PIoO_none) | (refine PIoO_cv (cQoO.c57 hc _ _ _ _ ?_) (fun _ _ => ?_)) | (refine PIoO_cv (cQoO.c58 hc _ _ ?_) (fun _ _ => ?_)) | (refine PIoO_cv (cQoO.c63 hc _ _ _ ?_) (fun _ _ => ?_))))
theorem pioO_oj_X0_weakenAll_140 {k17 : Option Nat → Option Nat → Int32 → Int32 → Int32 → oSt → oRs} {k33 : Option Nat → Option Nat → Int32 → Int32 → Int32 → Int32 → oSt → oRs} {x0 : Option Nat} {x1 : Option Nat} {x2 : Int32} {x3 : Int32} {x4 : Int32} {x5 : Int32} {σ : oSt} (hP : iKptO P) (hc : cQoO P call) (hk17 : ∀ (a0 : Option Nat) (a1 : Option Nat) (a2 : Int32) (a3 : Int32) (a4 : Int32), ∀ σ, P σ → PIo P (k17 a0 a1 a2 a3 a4 σ)) (hk33 : ∀ (a0 : Option Nat) (a1 : Option Nat) (a2 : Int32) (a3 : Int32) (a4 : Int32) (a5 : Int32), ∀ σ, P σ → PIo P (k33 a0 a1 a2 a3 a4 a5 σ)) (h : P σ) : PIo P (oj_X0_weakenAll_140 n call κ k17 k33 x0 x1 x2 x3 x4 x5 σ) := by
  unfold oj_X0_weakenAll_140
  repeat' (with_reducible (first | assumption | (refine PIoO_gd ?_) | (refine PIoO_pf hP ?_ (by decide) (by with_unfolding_all rfl) (fun _ _ => ?_)) | (refine PIoO_si hP ?_ (fun _ _ => ?_)) | (refine PIoO_sj hP ?_ (fun _ _ => ?_)) | (refine PIoO_sr hP ?_ (fun _ _ => ?_)) | (refine PIoO_cy hP ?_ (fun _ _ => ?_)) | (refine PIoO_bn (fun _ => ?_)) | (refine PIoO_na hP ?_ (fun _ _ => ?_)) | (refine PIoO_no hP ?_ (fun _ _ => ?_)) | (refine PIoO_ite ?_ ?_) | (refine PIoO_some ?_) | (exact PIoO_none) | (refine hk17 _ _ _ _ _ _ ?_) | (refine hk33 _ _ _ _ _ _ _ ?_)))
theorem pioO_ol_X0_weakenAll_33 {k17 : Option Nat → Option Nat → Int32 → Int32 → Int32 → oSt → oRs} (hP : iKptO P) (hc : cQoO P call) (hk17 : ∀ (a0 : Option Nat) (a1 : Option Nat) (a2 : Int32) (a3 : Int32) (a4 : Int32), ∀ σ, P σ → PIo P (k17 a0 a1 a2 a3 a4 σ)) : ∀ (t : Nat) (x0 : Option Nat) (x1 : Option Nat) (x2 : Int32) (x3 : Int32) (x4 : Int32) (x5 : Int32) (σ : oSt), P σ → PIo P (ol_X0_weakenAll_33 n call κ k17 t x0 x1 x2 x3 x4 x5 σ) := by
  intro t
  induction t with
  | zero => intros; exact PIoO_none
  | succ t ih =>
    intro x0 x1 x2 x3 x4 x5 σ h
    rw [ol_X0_weakenAll_33]
    repeat' (with_reducible (first | assumption | (refine PIoO_gd ?_) | (refine PIoO_pf hP ?_ (by decide) (by with_unfolding_all rfl) (fun _ _ => ?_)) | (refine PIoO_si hP ?_ (fun _ _ => ?_)) | (refine PIoO_sj hP ?_ (fun _ _ => ?_)) | (refine PIoO_sr hP ?_ (fun _ _ => ?_)) | (refine PIoO_cy hP ?_ (fun _ _ => ?_)) | (refine PIoO_bn (fun _ => ?_)) | (refine PIoO_na hP ?_ (fun _ _ => ?_)) | (refine PIoO_no hP ?_ (fun _ _ => ?_)) | (refine PIoO_ite ?_ ?_) | (refine PIoO_some ?_) | (exact PIoO_none) | (refine PIoO_in (cQoO.c66 hc _ _ _ ?_) (fun _ _ _ => ?_)) | (refine PIoO_in (cQoO.c67 hc _ _ _ _ _ ?_) (fun _ _ _ => ?_)) | (refine PIoO_rn (cQoO.c234 hc _ _ _ ?_) (fun _ _ _ => ?_)) | (refine pioO_oj_X0_weakenAll_140 hP hc hk17 ih ?_) | (refine hk17 _ _ _ _ _ _ ?_)))
theorem pioO_ol_X0_weakenAll_17  (hP : iKptO P) (hc : cQoO P call)  : ∀ (t : Nat) (x0 : Option Nat) (x1 : Option Nat) (x2 : Int32) (x3 : Int32) (x4 : Int32) (σ : oSt), P σ → PIo P (ol_X0_weakenAll_17 n call κ  t x0 x1 x2 x3 x4 σ) := by
  intro t
  induction t with
  | zero => intros; exact PIoO_none
  | succ t ih =>
    intro x0 x1 x2 x3 x4 σ h
    rw [ol_X0_weakenAll_17]
    repeat' (with_reducible (first | assumption | (refine PIoO_gd ?_) | (refine PIoO_pf hP ?_ (by decide) (by with_unfolding_all rfl) (fun _ _ => ?_)) | (refine PIoO_si hP ?_ (fun _ _ => ?_)) | (refine PIoO_sj hP ?_ (fun _ _ => ?_)) | (refine PIoO_sr hP ?_ (fun _ _ => ?_)) | (refine PIoO_cy hP ?_ (fun _ _ => ?_)) | (refine PIoO_bn (fun _ => ?_)) | (refine PIoO_na hP ?_ (fun _ _ => ?_)) | (refine PIoO_no hP ?_ (fun _ _ => ?_)) | (refine PIoO_ite ?_ ?_) | (refine PIoO_some ?_) | (exact PIoO_none) | (refine pioO_ol_X0_weakenAll_33 hP hc ih _ _ _ _ _ _ _ _ ?_)))
theorem pioO_ob_X0_weakenAll  {x0 : Option Nat} {σ : oSt} (hP : iKptO P) (hc : cQoO P call)  (h : P σ) : PIo P (ob_X0_weakenAll n call κ  x0 σ) := by
  unfold ob_X0_weakenAll
  repeat' (with_reducible (first | assumption | (refine PIoO_gd ?_) | (refine PIoO_pf hP ?_ (by decide) (by with_unfolding_all rfl) (fun _ _ => ?_)) | (refine PIoO_si hP ?_ (fun _ _ => ?_)) | (refine PIoO_sj hP ?_ (fun _ _ => ?_)) | (refine PIoO_sr hP ?_ (fun _ _ => ?_)) | (refine PIoO_cy hP ?_ (fun _ _ => ?_)) | (refine PIoO_bn (fun _ => ?_)) | (refine PIoO_na hP ?_ (fun _ _ => ?_)) | (refine PIoO_no hP ?_ (fun _ _ => ?_)) | (refine PIoO_ite ?_ ?_) | (refine PIoO_some ?_) | (exact PIoO_none) | (refine PIoO_in (cQoO.c236 hc _ _ ?_) (fun _ _ _ => ?_)) | (refine pioO_ol_X0_weakenAll_17 hP hc  _ _ _ _ _ _ _ ?_)))
theorem pioO_ob_X3_forget  {x0 : Option Nat} {σ : oSt} (hP : iKptO P) (hc : cQoO P call)  (h : P σ) : PIo P (ob_X3_forget n call κ  x0 σ) := by
  unfold ob_X3_forget
  repeat' (with_reducible (first | assumption | (refine PIoO_gd ?_) | (refine PIoO_pf hP ?_ (by decide) (by with_unfolding_all rfl) (fun _ _ => ?_)) | (refine PIoO_si hP ?_ (fun _ _ => ?_)) | (refine PIoO_sj hP ?_ (fun _ _ => ?_)) | (refine PIoO_sr hP ?_ (fun _ _ => ?_)) | (refine PIoO_cy hP ?_ (fun _ _ => ?_)) | (refine PIoO_bn (fun _ => ?_)) | (refine PIoO_na hP ?_ (fun _ _ => ?_)) | (refine PIoO_no hP ?_ (fun _ _ => ?_)) | (refine PIoO_ite ?_ ?_) | (refine PIoO_some ?_) | (exact PIoO_none)))
theorem pioO_ob_X3_take  {x0 : Option Nat} {x1 : Option Nat} {x2 : Int32} {σ : oSt} (hP : iKptO P) (hc : cQoO P call)  (h : P σ) : PIo P (ob_X3_take n call κ  x0 x1 x2 σ) := by
  unfold ob_X3_take
  repeat' (with_reducible (first | assumption | (refine PIoO_gd ?_) | (refine PIoO_pf hP ?_ (by decide) (by with_unfolding_all rfl) (fun _ _ => ?_)) | (refine PIoO_si hP ?_ (fun _ _ => ?_)) | (refine PIoO_sj hP ?_ (fun _ _ => ?_)) | (refine PIoO_sr hP ?_ (fun _ _ => ?_)) | (refine PIoO_cy hP ?_ (fun _ _ => ?_)) | (refine PIoO_bn (fun _ => ?_)) | (refine PIoO_na hP ?_ (fun _ _ => ?_)) | (refine PIoO_no hP ?_ (fun _ _ => ?_)) | (refine PIoO_ite ?_ ?_) | (refine PIoO_some ?_) | (exact PIoO_none) | (refine PIoO_cv (cQoO.c241 hc _ _ _ ?_) (fun _ _ => ?_))))
theorem pioO_oj_X3_set_72  {t0 : Option Nat} {t1 : Int32} {t2 : Int64} {σ : oSt} (hP : iKptO P) (hc : cQoO P call)  (h : P σ) : PIo P (oj_X3_set_72 n call κ  t0 t1 t2 σ) := by
  unfold oj_X3_set_72
  repeat' (with_reducible (first | assumption | (refine PIoO_gd ?_) | (refine PIoO_pf hP ?_ (by decide) (by with_unfolding_all rfl) (fun _ _ => ?_)) | (refine PIoO_si hP ?_ (fun _ _ => ?_)) | (refine PIoO_sj hP ?_ (fun _ _ => ?_)) | (refine PIoO_sr hP ?_ (fun _ _ => ?_)) | (refine PIoO_cy hP ?_ (fun _ _ => ?_)) | (refine PIoO_bn (fun _ => ?_)) | (refine PIoO_na hP ?_ (fun _ _ => ?_)) | (refine PIoO_no hP ?_ (fun _ _ => ?_)) | (refine PIoO_ite ?_ ?_) | (refine PIoO_some ?_) | (exact PIoO_none)))
theorem pioO_oj_X3_set_70  {x3 : Int32} {t0 : Option Nat} {t1 : Int32} {σ : oSt} (hP : iKptO P) (hc : cQoO P call)  (h : P σ) : PIo P (oj_X3_set_70 n call κ  x3 t0 t1 σ) := by
  unfold oj_X3_set_70
  repeat' (with_reducible (first | assumption | (refine PIoO_gd ?_) | (refine PIoO_pf hP ?_ (by decide) (by with_unfolding_all rfl) (fun _ _ => ?_)) | (refine PIoO_si hP ?_ (fun _ _ => ?_)) | (refine PIoO_sj hP ?_ (fun _ _ => ?_)) | (refine PIoO_sr hP ?_ (fun _ _ => ?_)) | (refine PIoO_cy hP ?_ (fun _ _ => ?_)) | (refine PIoO_bn (fun _ => ?_)) | (refine PIoO_na hP ?_ (fun _ _ => ?_)) | (refine PIoO_no hP ?_ (fun _ _ => ?_)) | (refine PIoO_ite ?_ ?_) | (refine PIoO_some ?_) | (exact PIoO_none) | (refine pioO_oj_X3_set_72 hP hc  ?_)))
theorem pioO_oj_X3_set_50  {x0 : Option Nat} {x1 : Int32} {x2 : Int32} {x3 : Int32} {σ : oSt} (hP : iKptO P) (hc : cQoO P call)  (h : P σ) : PIo P (oj_X3_set_50 n call κ  x0 x1 x2 x3 σ) := by
  unfold oj_X3_set_50
  repeat' (with_reducible (first | assumption | (refine PIoO_gd ?_) | (refine PIoO_pf hP ?_ (by decide) (by with_unfolding_all rfl) (fun _ _ => ?_)) | (refine PIoO_si hP ?_ (fun _ _ => ?_)) | (refine PIoO_sj hP ?_ (fun _ _ => ?_)) | (refine PIoO_sr hP ?_ (fun _ _ => ?_)) | (refine PIoO_cy hP ?_ (fun _ _ => ?_)) | (refine PIoO_bn (fun _ => ?_)) | (refine PIoO_na hP ?_ (fun _ _ => ?_)) | (refine PIoO_no hP ?_ (fun _ _ => ?_)) | (refine PIoO_ite ?_ ?_) | (refine PIoO_some ?_) | (exact PIoO_none) | (refine pioO_oj_X3_set_70 hP hc  ?_) | (refine pioO_oj_X3_set_72 hP hc  ?_)))
theorem pioO_oj_X3_set_40  {x0 : Option Nat} {x1 : Int32} {x2 : Int32} {x3 : Int32} {σ : oSt} (hP : iKptO P) (hc : cQoO P call)  (h : P σ) : PIo P (oj_X3_set_40 n call κ  x0 x1 x2 x3 σ) := by
  unfold oj_X3_set_40
  repeat' (with_reducible (first | assumption | (refine PIoO_gd ?_) | (refine PIoO_pf hP ?_ (by decide) (by with_unfolding_all rfl) (fun _ _ => ?_)) | (refine PIoO_si hP ?_ (fun _ _ => ?_)) | (refine PIoO_sj hP ?_ (fun _ _ => ?_)) | (refine PIoO_sr hP ?_ (fun _ _ => ?_)) | (refine PIoO_cy hP ?_ (fun _ _ => ?_)) | (refine PIoO_bn (fun _ => ?_)) | (refine PIoO_na hP ?_ (fun _ _ => ?_)) | (refine PIoO_no hP ?_ (fun _ _ => ?_)) | (refine PIoO_ite ?_ ?_) | (refine PIoO_some ?_) | (exact PIoO_none) | (refine PIoO_cv (cQoO.c242 hc _ _ _ ?_) (fun _ _ => ?_)) | (refine pioO_oj_X3_set_50 hP hc  ?_)))
theorem pioO_ob_X3_set  {x0 : Option Nat} {x1 : Int32} {x2 : Int32} {x3 : Int32} {σ : oSt} (hP : iKptO P) (hc : cQoO P call)  (h : P σ) : PIo P (ob_X3_set n call κ  x0 x1 x2 x3 σ) := by
  unfold ob_X3_set
  repeat' (with_reducible (first | assumption | (refine PIoO_gd ?_) | (refine PIoO_pf hP ?_ (by decide) (by with_unfolding_all rfl) (fun _ _ => ?_)) | (refine PIoO_si hP ?_ (fun _ _ => ?_)) | (refine PIoO_sj hP ?_ (fun _ _ => ?_)) | (refine PIoO_sr hP ?_ (fun _ _ => ?_)) | (refine PIoO_cy hP ?_ (fun _ _ => ?_)) | (refine PIoO_bn (fun _ => ?_)) | (refine PIoO_na hP ?_ (fun _ _ => ?_)) | (refine PIoO_no hP ?_ (fun _ _ => ?_)) | (refine PIoO_ite ?_ ?_) | (refine PIoO_some ?_) | (exact PIoO_none) | (refine pioO_oj_X3_set_40 hP hc  ?_) | (refine pioO_oj_X3_set_50 hP hc  ?_)))
theorem pioO_ob_X3_setElement  {x0 : Option Nat} {x1 : Int32} {x2 : Int32} {x3 : Int32} {σ : oSt} (hP : iKptO P) (hc : cQoO P call)  (h : P σ) : PIo P (ob_X3_setElement n call κ  x0 x1 x2 x3 σ) := by
  unfold ob_X3_setElement
  repeat' (with_reducible (first | assumption | (refine PIoO_gd ?_) | (refine PIoO_pf hP ?_ (by decide) (by with_unfolding_all rfl) (fun _ _ => ?_)) | (refine PIoO_si hP ?_ (fun _ _ => ?_)) | (refine PIoO_sj hP ?_ (fun _ _ => ?_)) | (refine PIoO_sr hP ?_ (fun _ _ => ?_)) | (refine PIoO_cy hP ?_ (fun _ _ => ?_)) | (refine PIoO_bn (fun _ => ?_)) | (refine PIoO_na hP ?_ (fun _ _ => ?_)) | (refine PIoO_no hP ?_ (fun _ _ => ?_)) | (refine PIoO_ite ?_ ?_) | (refine PIoO_some ?_) | (exact PIoO_none)))
theorem pioO_oj_X3_room_33  {x0 : Option Nat} {x1 : Int32} {σ : oSt} (hP : iKptO P) (hc : cQoO P call)  (h : P σ) : PIo P (oj_X3_room_33 n call κ  x0 x1 σ) := by
  unfold oj_X3_room_33
  repeat' (with_reducible (first | assumption | (refine PIoO_gd ?_) | (refine PIoO_pf hP ?_ (by decide) (by with_unfolding_all rfl) (fun _ _ => ?_)) | (refine PIoO_si hP ?_ (fun _ _ => ?_)) | (refine PIoO_sj hP ?_ (fun _ _ => ?_)) | (refine PIoO_sr hP ?_ (fun _ _ => ?_)) | (refine PIoO_cy hP ?_ (fun _ _ => ?_)) | (refine PIoO_bn (fun _ => ?_)) | (refine PIoO_na hP ?_ (fun _ _ => ?_)) | (refine PIoO_no hP ?_ (fun _ _ => ?_)) | (refine PIoO_ite ?_ ?_) | (refine PIoO_some ?_) | (exact PIoO_none)))
theorem pioO_ob_X3_room  {x0 : Option Nat} {x1 : Int32} {σ : oSt} (hP : iKptO P) (hc : cQoO P call)  (h : P σ) : PIo P (ob_X3_room n call κ  x0 x1 σ) := by
  unfold ob_X3_room
  repeat' (with_reducible (first | assumption | (refine PIoO_gd ?_) | (refine PIoO_pf hP ?_ (by decide) (by with_unfolding_all rfl) (fun _ _ => ?_)) | (refine PIoO_si hP ?_ (fun _ _ => ?_)) | (refine PIoO_sj hP ?_ (fun _ _ => ?_)) | (refine PIoO_sr hP ?_ (fun _ _ => ?_)) | (refine PIoO_cy hP ?_ (fun _ _ => ?_)) | (refine PIoO_bn (fun _ => ?_)) | (refine PIoO_na hP ?_ (fun _ _ => ?_)) | (refine PIoO_no hP ?_ (fun _ _ => ?_)) | (refine PIoO_ite ?_ ?_) | (refine PIoO_some ?_) | (exact PIoO_none) | (refine PIoO_rn (cQoO.c239 hc _ _ _ ?_) (fun _ _ _ => ?_)) | (refine pioO_oj_X3_room_33 hP hc  ?_)))
theorem pioO_ol_X3_array_18  (hP : iKptO P) (hc : cQoO P call)  : ∀ (t : Nat) (x0 : Option Nat) (x1 : Int32) (x2 : Int32) (x3 : Int32) (σ : oSt), P σ → PIo P (ol_X3_array_18 n call κ  t x0 x1 x2 x3 σ) := by
  intro t
  induction t with
  | zero => intros; exact PIoO_none
  | succ t ih =>
    intro x0 x1 x2 x3 σ h
    rw [ol_X3_array_18]
    repeat' (with_reducible (first | assumption | (refine PIoO_gd ?_) | (refine PIoO_pf hP ?_ (by decide) (by with_unfolding_all rfl) (fun _ _ => ?_)) | (refine PIoO_si hP ?_ (fun _ _ => ?_)) | (refine PIoO_sj hP ?_ (fun _ _ => ?_)) | (refine PIoO_sr hP ?_ (fun _ _ => ?_)) | (refine PIoO_cy hP ?_ (fun _ _ => ?_)) | (refine PIoO_bn (fun _ => ?_)) | (refine PIoO_na hP ?_ (fun _ _ => ?_)) | (refine PIoO_no hP ?_ (fun _ _ => ?_)) | (refine PIoO_ite ?_ ?_) | (refine PIoO_some ?_) | (exact PIoO_none) | (refine ih _ _ _ _ _ ?_)))
theorem pioO_ob_X3_array  {x0 : Option Nat} {x1 : Int32} {σ : oSt} (hP : iKptO P) (hc : cQoO P call)  (h : P σ) : PIo P (ob_X3_array n call κ  x0 x1 σ) := by
  unfold ob_X3_array
  repeat' (with_reducible (first | assumption | (refine PIoO_gd ?_) | (refine PIoO_pf hP ?_ (by decide) (by with_unfolding_all rfl) (fun _ _ => ?_)) | (refine PIoO_si hP ?_ (fun _ _ => ?_)) | (refine PIoO_sj hP ?_ (fun _ _ => ?_)) | (refine PIoO_sr hP ?_ (fun _ _ => ?_)) | (refine PIoO_cy hP ?_ (fun _ _ => ?_)) | (refine PIoO_bn (fun _ => ?_)) | (refine PIoO_na hP ?_ (fun _ _ => ?_)) | (refine PIoO_no hP ?_ (fun _ _ => ?_)) | (refine PIoO_ite ?_ ?_) | (refine PIoO_some ?_) | (exact PIoO_none) | (refine PIoO_in (cQoO.c76 hc _ _ _ ?_) (fun _ _ _ => ?_)) | (refine pioO_ol_X3_array_18 hP hc  _ _ _ _ _ _ ?_)))
theorem pioO_oj_X3_givenArray_60  {x2 : Int32} {σ : oSt} (hP : iKptO P) (hc : cQoO P call)  (h : P σ) : PIo P (oj_X3_givenArray_60 n call κ  x2 σ) := by
  unfold oj_X3_givenArray_60
  repeat' (with_reducible (first | assumption | (refine PIoO_gd ?_) | (refine PIoO_pf hP ?_ (by decide) (by with_unfolding_all rfl) (fun _ _ => ?_)) | (refine PIoO_si hP ?_ (fun _ _ => ?_)) | (refine PIoO_sj hP ?_ (fun _ _ => ?_)) | (refine PIoO_sr hP ?_ (fun _ _ => ?_)) | (refine PIoO_cy hP ?_ (fun _ _ => ?_)) | (refine PIoO_bn (fun _ => ?_)) | (refine PIoO_na hP ?_ (fun _ _ => ?_)) | (refine PIoO_no hP ?_ (fun _ _ => ?_)) | (refine PIoO_ite ?_ ?_) | (refine PIoO_some ?_) | (exact PIoO_none)))
theorem pioO_ol_X3_givenArray_14  (hP : iKptO P) (hc : cQoO P call)  : ∀ (t : Nat) (x0 : Option Nat) (x1 : Int32) (x2 : Int32) (x3 : Int32) (σ : oSt), P σ → PIo P (ol_X3_givenArray_14 n call κ  t x0 x1 x2 x3 σ) := by
  intro t
  induction t with
  | zero => intros; exact PIoO_none
  | succ t ih =>
    intro x0 x1 x2 x3 σ h
    rw [ol_X3_givenArray_14]
    repeat' (with_reducible (first | assumption | (refine PIoO_gd ?_) | (refine PIoO_pf hP ?_ (by decide) (by with_unfolding_all rfl) (fun _ _ => ?_)) | (refine PIoO_si hP ?_ (fun _ _ => ?_)) | (refine PIoO_sj hP ?_ (fun _ _ => ?_)) | (refine PIoO_sr hP ?_ (fun _ _ => ?_)) | (refine PIoO_cy hP ?_ (fun _ _ => ?_)) | (refine PIoO_bn (fun _ => ?_)) | (refine PIoO_na hP ?_ (fun _ _ => ?_)) | (refine PIoO_no hP ?_ (fun _ _ => ?_)) | (refine PIoO_ite ?_ ?_) | (refine PIoO_some ?_) | (exact PIoO_none) | (refine pioO_oj_X3_givenArray_60 hP hc  ?_) | (refine ih _ _ _ _ _ ?_)))
theorem pioO_ob_X3_givenArray  {x0 : Option Nat} {x1 : Int32} {σ : oSt} (hP : iKptO P) (hc : cQoO P call)  (h : P σ) : PIo P (ob_X3_givenArray n call κ  x0 x1 σ) := by
  unfold ob_X3_givenArray
  repeat' (with_reducible (first | assumption | (refine PIoO_gd ?_) | (refine PIoO_pf hP ?_ (by decide) (by with_unfolding_all rfl) (fun _ _ => ?_)) | (refine PIoO_si hP ?_ (fun _ _ => ?_)) | (refine PIoO_sj hP ?_ (fun _ _ => ?_)) | (refine PIoO_sr hP ?_ (fun _ _ => ?_)) | (refine PIoO_cy hP ?_ (fun _ _ => ?_)) | (refine PIoO_bn (fun _ => ?_)) | (refine PIoO_na hP ?_ (fun _ _ => ?_)) | (refine PIoO_no hP ?_ (fun _ _ => ?_)) | (refine PIoO_ite ?_ ?_) | (refine PIoO_some ?_) | (exact PIoO_none) | (refine PIoO_in (cQoO.c77 hc _ _ _ ?_) (fun _ _ _ => ?_)) | (refine pioO_ol_X3_givenArray_14 hP hc  _ _ _ _ _ _ ?_)))
theorem pioO_ob_X3_pair  {x0 : Option Nat} {x1 : Int64} {x3 : Int32} {σ : oSt} (hP : iKptO P) (hc : cQoO P call)  (h : P σ) : PIo P (ob_X3_pair n call κ  x0 x1 x3 σ) := by
  unfold ob_X3_pair
  repeat' (with_reducible (first | assumption | (refine PIoO_gd ?_) | (refine PIoO_pf hP ?_ (by decide) (by with_unfolding_all rfl) (fun _ _ => ?_)) | (refine PIoO_si hP ?_ (fun _ _ => ?_)) | (refine PIoO_sj hP ?_ (fun _ _ => ?_)) | (refine PIoO_sr hP ?_ (fun _ _ => ?_)) | (refine PIoO_cy hP ?_ (fun _ _ => ?_)) | (refine PIoO_bn (fun _ => ?_)) | (refine PIoO_na hP ?_ (fun _ _ => ?_)) | (refine PIoO_no hP ?_ (fun _ _ => ?_)) | (refine PIoO_ite ?_ ?_) | (refine PIoO_some ?_) | (exact PIoO_none) | (refine PIoO_in (cQoO.c76 hc _ _ _ ?_) (fun _ _ _ => ?_))))
theorem pioO_oj_X3_begin_92 {k32 : Option Nat → Int32 → oSt → oRs} {x0 : Option Nat} {x1 : Int32} {t0 : Option Nat} {t1 : Option Nat} {t2 : Int64} {σ : oSt} (hP : iKptO P) (hc : cQoO P call) (hk32 : ∀ (a0 : Option Nat) (a1 : Int32), ∀ σ, P σ → PIo P (k32 a0 a1 σ)) (h : P σ) : PIo P (oj_X3_begin_92 n call κ k32 x0 x1 t0 t1 t2 σ) := by
  unfold oj_X3_begin_92
  repeat' (with_reducible (first | assumption | (refine PIoO_gd ?_) | (refine PIoO_pf hP ?_ (by decide) (by with_unfolding_all rfl) (fun _ _ => ?_)) | (refine PIoO_si hP ?_ (fun _ _ => ?_)) | (refine PIoO_sj hP ?_ (fun _ _ => ?_)) | (refine PIoO_sr hP ?_ (fun _ _ => ?_)) | (refine PIoO_cy hP ?_ (fun _ _ => ?_)) | (refine PIoO_bn (fun _ => ?_)) | (refine PIoO_na hP ?_ (fun _ _ => ?_)) | (refine PIoO_no hP ?_ (fun _ _ => ?_)) | (refine PIoO_ite ?_ ?_) | (refine PIoO_some ?_) | (exact PIoO_none) | (refine PIoO_in (cQoO.c79 hc _ _ _ _ ?_) (fun _ _ _ => ?_)) | (refine hk32 _ _ _ ?_)))
theorem pioO_oj_X3_begin_71 {k32 : Option Nat → Int32 → oSt → oRs} {x0 : Option Nat} {x1 : Int32} {t0 : Int32} {σ : oSt} (hP : iKptO P) (hc : cQoO P call) (hk32 : ∀ (a0 : Option Nat) (a1 : Int32), ∀ σ, P σ → PIo P (k32 a0 a1 σ)) (h : P σ) : PIo P (oj_X3_begin_71 n call κ k32 x0 x1 t0 σ) := by
  unfold oj_X3_begin_71
  repeat' (with_reducible (first | assumption | (refine PIoO_gd ?_) | (refine PIoO_pf hP ?_ (by decide) (by with_unfolding_all rfl) (fun _ _ => ?_)) | (refine PIoO_si hP ?_ (fun _ _ => ?_)) | (refine PIoO_sj hP ?_ (fun _ _ => ?_)) | (refine PIoO_sr hP ?_ (fun _ _ => ?_)) | (refine PIoO_cy hP ?_ (fun _ _ => ?_)) | (refine PIoO_bn (fun _ => ?_)) | (refine PIoO_na hP ?_ (fun _ _ => ?_)) | (refine PIoO_no hP ?_ (fun _ _ => ?_)) | (refine PIoO_ite ?_ ?_) | (refine PIoO_some ?_) | (exact PIoO_none) | (refine PIoO_ln (cQoO.c78 hc _ _ _ ?_) (fun _ _ _ => ?_)) | (refine pioO_oj_X3_begin_92 hP hc hk32 ?_) | (refine hk32 _ _ _ ?_)))
theorem pioO_ol_X3_begin_32  (hP : iKptO P) (hc : cQoO P call)  : ∀ (t : Nat) (x0 : Option Nat) (x1 : Int32) (σ : oSt), P σ → PIo P (ol_X3_begin_32 n call κ  t x0 x1 σ) := by
  intro t
  induction t with
  | zero => intros; exact PIoO_none
  | succ t ih =>
    intro x0 x1 σ h
    rw [ol_X3_begin_32]
    repeat' (with_reducible (first | assumption | (refine PIoO_gd ?_) | (refine PIoO_pf hP ?_ (by decide) (by with_unfolding_all rfl) (fun _ _ => ?_)) | (refine PIoO_si hP ?_ (fun _ _ => ?_)) | (refine PIoO_sj hP ?_ (fun _ _ => ?_)) | (refine PIoO_sr hP ?_ (fun _ _ => ?_)) | (refine PIoO_cy hP ?_ (fun _ _ => ?_)) | (refine PIoO_bn (fun _ => ?_)) | (refine PIoO_na hP ?_ (fun _ _ => ?_)) | (refine PIoO_no hP ?_ (fun _ _ => ?_)) | (refine PIoO_ite ?_ ?_) | (refine PIoO_some ?_) | (exact PIoO_none) | (refine PIoO_rn (cQoO.c234 hc _ _ _ ?_) (fun _ _ _ => ?_)) | (refine pioO_oj_X3_begin_71 hP hc ih ?_)))
theorem pioO_ob_X3_begin  {x0 : Option Nat} {σ : oSt} (hP : iKptO P) (hc : cQoO P call)  (h : P σ) : PIo P (ob_X3_begin n call κ  x0 σ) := by
  unfold ob_X3_begin
  repeat' (with_reducible (first | assumption | (refine PIoO_gd ?_) | (refine PIoO_pf hP ?_ (by decide) (by with_unfolding_all rfl) (fun _ _ => ?_)) | (refine PIoO_si hP ?_ (fun _ _ => ?_)) | (refine PIoO_sj hP ?_ (fun _ _ => ?_)) | (refine PIoO_sr hP ?_ (fun _ _ => ?_)) | (refine PIoO_cy hP ?_ (fun _ _ => ?_)) | (refine PIoO_bn (fun _ => ?_)) | (refine PIoO_na hP ?_ (fun _ _ => ?_)) | (refine PIoO_no hP ?_ (fun _ _ => ?_)) | (refine PIoO_ite ?_ ?_) | (refine PIoO_some ?_) | (exact PIoO_none) | (refine pioO_ol_X3_begin_32 hP hc  _ _ _ _ ?_)))
theorem pioO_ob_X3_await  {x0 : Option Nat} {x1 : Option Nat} {x2 : Int32} {x3 : Int32} {σ : oSt} (hP : iKptO P) (hc : cQoO P call)  (h : P σ) : PIo P (ob_X3_await n call κ  x0 x1 x2 x3 σ) := by
  unfold ob_X3_await
  repeat' (with_reducible (first | assumption | (refine PIoO_gd ?_) | (refine PIoO_pf hP ?_ (by decide) (by with_unfolding_all rfl) (fun _ _ => ?_)) | (refine PIoO_si hP ?_ (fun _ _ => ?_)) | (refine PIoO_sj hP ?_ (fun _ _ => ?_)) | (refine PIoO_sr hP ?_ (fun _ _ => ?_)) | (refine PIoO_cy hP ?_ (fun _ _ => ?_)) | (refine PIoO_bn (fun _ => ?_)) | (refine PIoO_na hP ?_ (fun _ _ => ?_)) | (refine PIoO_no hP ?_ (fun _ _ => ?_)) | (refine PIoO_ite ?_ ?_) | (refine PIoO_some ?_) | (exact PIoO_none)))
theorem pioO_ob_X3_triple  {x0 : Option Nat} {x1 : Int64} {x3 : Int64} {x5 : Int64} {σ : oSt} (hP : iKptO P) (hc : cQoO P call)  (h : P σ) : PIo P (ob_X3_triple n call κ  x0 x1 x3 x5 σ) := by
  unfold ob_X3_triple
  repeat' (with_reducible (first | assumption | (refine PIoO_gd ?_) | (refine PIoO_pf hP ?_ (by decide) (by with_unfolding_all rfl) (fun _ _ => ?_)) | (refine PIoO_si hP ?_ (fun _ _ => ?_)) | (refine PIoO_sj hP ?_ (fun _ _ => ?_)) | (refine PIoO_sr hP ?_ (fun _ _ => ?_)) | (refine PIoO_cy hP ?_ (fun _ _ => ?_)) | (refine PIoO_bn (fun _ => ?_)) | (refine PIoO_na hP ?_ (fun _ _ => ?_)) | (refine PIoO_no hP ?_ (fun _ _ => ?_)) | (refine PIoO_ite ?_ ?_) | (refine PIoO_some ?_) | (exact PIoO_none) | (refine PIoO_in (cQoO.c76 hc _ _ _ ?_) (fun _ _ _ => ?_))))
theorem pioO_ol_X3_valueOf_13  (hP : iKptO P) (hc : cQoO P call)  : ∀ (t : Nat) (x0 : Option Nat) (x1 : Int32) (x2 : Int32) (x3 : Int32) (σ : oSt), P σ → PIo P (ol_X3_valueOf_13 n call κ  t x0 x1 x2 x3 σ) := by
  intro t
  induction t with
  | zero => intros; exact PIoO_none
  | succ t ih =>
    intro x0 x1 x2 x3 σ h
    rw [ol_X3_valueOf_13]
    repeat' (with_reducible (first | assumption | (refine PIoO_gd ?_) | (refine PIoO_pf hP ?_ (by decide) (by with_unfolding_all rfl) (fun _ _ => ?_)) | (refine PIoO_si hP ?_ (fun _ _ => ?_)) | (refine PIoO_sj hP ?_ (fun _ _ => ?_)) | (refine PIoO_sr hP ?_ (fun _ _ => ?_)) | (refine PIoO_cy hP ?_ (fun _ _ => ?_)) | (refine PIoO_bn (fun _ => ?_)) | (refine PIoO_na hP ?_ (fun _ _ => ?_)) | (refine PIoO_no hP ?_ (fun _ _ => ?_)) | (refine PIoO_ite ?_ ?_) | (refine PIoO_some ?_) | (exact PIoO_none) | (refine ih _ _ _ _ _ ?_)))
theorem pioO_ob_X3_valueOf  {x0 : Option Nat} {x1 : Option Nat} {x2 : Int32} {σ : oSt} (hP : iKptO P) (hc : cQoO P call)  (h : P σ) : PIo P (ob_X3_valueOf n call κ  x0 x1 x2 σ) := by
  unfold ob_X3_valueOf
  repeat' (with_reducible (first | assumption | (refine PIoO_gd ?_) | (refine PIoO_pf hP ?_ (by decide) (by with_unfolding_all rfl) (fun _ _ => ?_)) | (refine PIoO_si hP ?_ (fun _ _ => ?_)) | (refine PIoO_sj hP ?_ (fun _ _ => ?_)) | (refine PIoO_sr hP ?_ (fun _ _ => ?_)) | (refine PIoO_cy hP ?_ (fun _ _ => ?_)) | (refine PIoO_bn (fun _ => ?_)) | (refine PIoO_na hP ?_ (fun _ _ => ?_)) | (refine PIoO_no hP ?_ (fun _ _ => ?_)) | (refine PIoO_ite ?_ ?_) | (refine PIoO_some ?_) | (exact PIoO_none) | (refine pioO_ol_X3_valueOf_13 hP hc  _ _ _ _ _ _ ?_)))
theorem pioO_ob_X3_measure  {x0 : Option Nat} {x1 : Int64} {x3 : Int32} {σ : oSt} (hP : iKptO P) (hc : cQoO P call)  (h : P σ) : PIo P (ob_X3_measure n call κ  x0 x1 x3 σ) := by
  unfold ob_X3_measure
  repeat' (with_reducible (first | assumption | (refine PIoO_gd ?_) | (refine PIoO_pf hP ?_ (by decide) (by with_unfolding_all rfl) (fun _ _ => ?_)) | (refine PIoO_si hP ?_ (fun _ _ => ?_)) | (refine PIoO_sj hP ?_ (fun _ _ => ?_)) | (refine PIoO_sr hP ?_ (fun _ _ => ?_)) | (refine PIoO_cy hP ?_ (fun _ _ => ?_)) | (refine PIoO_bn (fun _ => ?_)) | (refine PIoO_na hP ?_ (fun _ _ => ?_)) | (refine PIoO_no hP ?_ (fun _ _ => ?_)) | (refine PIoO_ite ?_ ?_) | (refine PIoO_some ?_) | (exact PIoO_none)))
theorem pioO_ol_X3_sum_11  (hP : iKptO P) (hc : cQoO P call)  : ∀ (t : Nat) (x0 : Option Nat) (x1 : Option Nat) (x2 : Int64) (x3 : Int32) (σ : oSt), P σ → PIo P (ol_X3_sum_11 n call κ  t x0 x1 x2 x3 σ) := by
  intro t
  induction t with
  | zero => intros; exact PIoO_none
  | succ t ih =>
    intro x0 x1 x2 x3 σ h
    rw [ol_X3_sum_11]
    repeat' (with_reducible (first | assumption | (refine PIoO_gd ?_) | (refine PIoO_pf hP ?_ (by decide) (by with_unfolding_all rfl) (fun _ _ => ?_)) | (refine PIoO_si hP ?_ (fun _ _ => ?_)) | (refine PIoO_sj hP ?_ (fun _ _ => ?_)) | (refine PIoO_sr hP ?_ (fun _ _ => ?_)) | (refine PIoO_cy hP ?_ (fun _ _ => ?_)) | (refine PIoO_bn (fun _ => ?_)) | (refine PIoO_na hP ?_ (fun _ _ => ?_)) | (refine PIoO_no hP ?_ (fun _ _ => ?_)) | (refine PIoO_ite ?_ ?_) | (refine PIoO_some ?_) | (exact PIoO_none) | (refine PIoO_ln (cQoO.c83 hc _ _ _ _ ?_) (fun _ _ _ => ?_)) | (refine PIoO_ln (cQoO.c84 hc _ _ _ _ ?_) (fun _ _ _ => ?_)) | (refine ih _ _ _ _ _ ?_)))
theorem pioO_ob_X3_sum  {x0 : Option Nat} {x1 : Option Nat} {σ : oSt} (hP : iKptO P) (hc : cQoO P call)  (h : P σ) : PIo P (ob_X3_sum n call κ  x0 x1 σ) := by
  unfold ob_X3_sum
  repeat' (with_reducible (first | assumption | (refine PIoO_gd ?_) | (refine PIoO_pf hP ?_ (by decide) (by with_unfolding_all rfl) (fun _ _ => ?_)) | (refine PIoO_si hP ?_ (fun _ _ => ?_)) | (refine PIoO_sj hP ?_ (fun _ _ => ?_)) | (refine PIoO_sr hP ?_ (fun _ _ => ?_)) | (refine PIoO_cy hP ?_ (fun _ _ => ?_)) | (refine PIoO_bn (fun _ => ?_)) | (refine PIoO_na hP ?_ (fun _ _ => ?_)) | (refine PIoO_no hP ?_ (fun _ _ => ?_)) | (refine PIoO_ite ?_ ?_) | (refine PIoO_some ?_) | (exact PIoO_none) | (refine pioO_ol_X3_sum_11 hP hc  _ _ _ _ _ _ ?_)))
theorem pioO_oj_X3_stands_139  {t0 : Int32} {t1 : Int32} {σ : oSt} (hP : iKptO P) (hc : cQoO P call)  (h : P σ) : PIo P (oj_X3_stands_139 n call κ  t0 t1 σ) := by
  unfold oj_X3_stands_139
  repeat' (with_reducible (first | assumption | (refine PIoO_gd ?_) | (refine PIoO_pf hP ?_ (by decide) (by with_unfolding_all rfl) (fun _ _ => ?_)) | (refine PIoO_si hP ?_ (fun _ _ => ?_)) | (refine PIoO_sj hP ?_ (fun _ _ => ?_)) | (refine PIoO_sr hP ?_ (fun _ _ => ?_)) | (refine PIoO_cy hP ?_ (fun _ _ => ?_)) | (refine PIoO_bn (fun _ => ?_)) | (refine PIoO_na hP ?_ (fun _ _ => ?_)) | (refine PIoO_no hP ?_ (fun _ _ => ?_)) | (refine PIoO_ite ?_ ?_) | (refine PIoO_some ?_) | (exact PIoO_none)))
theorem pioO_oj_X3_stands_128  {x3 : Int32} {t0 : Int32} {σ : oSt} (hP : iKptO P) (hc : cQoO P call)  (h : P σ) : PIo P (oj_X3_stands_128 n call κ  x3 t0 σ) := by
  unfold oj_X3_stands_128
  repeat' (with_reducible (first | assumption | (refine PIoO_gd ?_) | (refine PIoO_pf hP ?_ (by decide) (by with_unfolding_all rfl) (fun _ _ => ?_)) | (refine PIoO_si hP ?_ (fun _ _ => ?_)) | (refine PIoO_sj hP ?_ (fun _ _ => ?_)) | (refine PIoO_sr hP ?_ (fun _ _ => ?_)) | (refine PIoO_cy hP ?_ (fun _ _ => ?_)) | (refine PIoO_bn (fun _ => ?_)) | (refine PIoO_na hP ?_ (fun _ _ => ?_)) | (refine PIoO_no hP ?_ (fun _ _ => ?_)) | (refine PIoO_ite ?_ ?_) | (refine PIoO_some ?_) | (exact PIoO_none) | (refine pioO_oj_X3_stands_139 hP hc  ?_)))
theorem pioO_oj_X3_stands_17  {x1 : Int64} {x3 : Int32} {t0 : Int64} {σ : oSt} (hP : iKptO P) (hc : cQoO P call)  (h : P σ) : PIo P (oj_X3_stands_17 n call κ  x1 x3 t0 σ) := by
  unfold oj_X3_stands_17
  repeat' (with_reducible (first | assumption | (refine PIoO_gd ?_) | (refine PIoO_pf hP ?_ (by decide) (by with_unfolding_all rfl) (fun _ _ => ?_)) | (refine PIoO_si hP ?_ (fun _ _ => ?_)) | (refine PIoO_sj hP ?_ (fun _ _ => ?_)) | (refine PIoO_sr hP ?_ (fun _ _ => ?_)) | (refine PIoO_cy hP ?_ (fun _ _ => ?_)) | (refine PIoO_bn (fun _ => ?_)) | (refine PIoO_na hP ?_ (fun _ _ => ?_)) | (refine PIoO_no hP ?_ (fun _ _ => ?_)) | (refine PIoO_ite ?_ ?_) | (refine PIoO_some ?_) | (exact PIoO_none) | (refine pioO_oj_X3_stands_128 hP hc  ?_)))
theorem pioO_ob_X3_stands  {x0 : Option Nat} {x1 : Int64} {x3 : Int32} {x4 : Option Nat} {σ : oSt} (hP : iKptO P) (hc : cQoO P call)  (h : P σ) : PIo P (ob_X3_stands n call κ  x0 x1 x3 x4 σ) := by
  unfold ob_X3_stands
  repeat' (with_reducible (first | assumption | (refine PIoO_gd ?_) | (refine PIoO_pf hP ?_ (by decide) (by with_unfolding_all rfl) (fun _ _ => ?_)) | (refine PIoO_si hP ?_ (fun _ _ => ?_)) | (refine PIoO_sj hP ?_ (fun _ _ => ?_)) | (refine PIoO_sr hP ?_ (fun _ _ => ?_)) | (refine PIoO_cy hP ?_ (fun _ _ => ?_)) | (refine PIoO_bn (fun _ => ?_)) | (refine PIoO_na hP ?_ (fun _ _ => ?_)) | (refine PIoO_no hP ?_ (fun _ _ => ?_)) | (refine PIoO_ite ?_ ?_) | (refine PIoO_some ?_) | (exact PIoO_none) | (refine PIoO_ln (cQoO.c85 hc _ _ _ ?_) (fun _ _ _ => ?_)) | (refine pioO_oj_X3_stands_17 hP hc  ?_)))
theorem pioO_ol_X3_holds_91  (hP : iKptO P) (hc : cQoO P call)  : ∀ (t : Nat) (x0 : Option Nat) (x1 : Option Nat) (x2 : Int32) (x3 : Int32) (σ : oSt), P σ → PIo P (ol_X3_holds_91 n call κ  t x0 x1 x2 x3 σ) := by
  intro t
  induction t with
  | zero => intros; exact PIoO_none
  | succ t ih =>
    intro x0 x1 x2 x3 σ h
    rw [ol_X3_holds_91]
    repeat' (with_reducible (first | assumption | (refine PIoO_gd ?_) | (refine PIoO_pf hP ?_ (by decide) (by with_unfolding_all rfl) (fun _ _ => ?_)) | (refine PIoO_si hP ?_ (fun _ _ => ?_)) | (refine PIoO_sj hP ?_ (fun _ _ => ?_)) | (refine PIoO_sr hP ?_ (fun _ _ => ?_)) | (refine PIoO_cy hP ?_ (fun _ _ => ?_)) | (refine PIoO_bn (fun _ => ?_)) | (refine PIoO_na hP ?_ (fun _ _ => ?_)) | (refine PIoO_no hP ?_ (fun _ _ => ?_)) | (refine PIoO_ite ?_ ?_) | (refine PIoO_some ?_) | (exact PIoO_none) | (refine PIoO_in (cQoO.c87 hc _ _ _ ?_) (fun _ _ _ => ?_)) | (refine PIoO_in (cQoO.c236 hc _ _ ?_) (fun _ _ _ => ?_)) | (refine PIoO_rn (cQoO.c234 hc _ _ _ ?_) (fun _ _ _ => ?_)) | (refine ih _ _ _ _ _ ?_)))
theorem pioO_oj_X3_holds_88  {x0 : Option Nat} {x1 : Option Nat} {t0 : Int32} {σ : oSt} (hP : iKptO P) (hc : cQoO P call)  (h : P σ) : PIo P (oj_X3_holds_88 n call κ  x0 x1 t0 σ) := by
  unfold oj_X3_holds_88
  repeat' (with_reducible (first | assumption | (refine PIoO_gd ?_) | (refine PIoO_pf hP ?_ (by decide) (by with_unfolding_all rfl) (fun _ _ => ?_)) | (refine PIoO_si hP ?_ (fun _ _ => ?_)) | (refine PIoO_sj hP ?_ (fun _ _ => ?_)) | (refine PIoO_sr hP ?_ (fun _ _ => ?_)) | (refine PIoO_cy hP ?_ (fun _ _ => ?_)) | (refine PIoO_bn (fun _ => ?_)) | (refine PIoO_na hP ?_ (fun _ _ => ?_)) | (refine PIoO_no hP ?_ (fun _ _ => ?_)) | (refine PIoO_ite ?_ ?_) | (refine PIoO_some ?_) | (exact PIoO_none) | (refine pioO_ol_X3_holds_91 hP hc  _ _ _ _ _ _ ?_)))
theorem pioO_ob_X3_holds  {x0 : Option Nat} {x1 : Option Nat} {σ : oSt} (hP : iKptO P) (hc : cQoO P call)  (h : P σ) : PIo P (ob_X3_holds n call κ  x0 x1 σ) := by
  unfold ob_X3_holds
  repeat' (with_reducible (first | assumption | (refine PIoO_gd ?_) | (refine PIoO_pf hP ?_ (by decide) (by with_unfolding_all rfl) (fun _ _ => ?_)) | (refine PIoO_si hP ?_ (fun _ _ => ?_)) | (refine PIoO_sj hP ?_ (fun _ _ => ?_)) | (refine PIoO_sr hP ?_ (fun _ _ => ?_)) | (refine PIoO_cy hP ?_ (fun _ _ => ?_)) | (refine PIoO_bn (fun _ => ?_)) | (refine PIoO_na hP ?_ (fun _ _ => ?_)) | (refine PIoO_no hP ?_ (fun _ _ => ?_)) | (refine PIoO_ite ?_ ?_) | (refine PIoO_some ?_) | (exact PIoO_none) | (refine PIoO_in (cQoO.c86 hc _ _ _ _ _ ?_) (fun _ _ _ => ?_)) | (refine PIoO_in (cQoO.c87 hc _ _ _ ?_) (fun _ _ _ => ?_)) | (refine PIoO_ln (cQoO.c83 hc _ _ _ _ ?_) (fun _ _ _ => ?_)) | (refine PIoO_ln (cQoO.c85 hc _ _ _ ?_) (fun _ _ _ => ?_)) | (refine pioO_oj_X3_holds_88 hP hc  ?_)))
theorem pioO_oj_X3_elementOf_52  {x0 : Option Nat} {x2 : Int32} {x3 : Int64} {σ : oSt} (hP : iKptO P) (hc : cQoO P call)  (h : P σ) : PIo P (oj_X3_elementOf_52 n call κ  x0 x2 x3 σ) := by
  unfold oj_X3_elementOf_52
  repeat' (with_reducible (first | assumption | (refine PIoO_gd ?_) | (refine PIoO_pf hP ?_ (by decide) (by with_unfolding_all rfl) (fun _ _ => ?_)) | (refine PIoO_si hP ?_ (fun _ _ => ?_)) | (refine PIoO_sj hP ?_ (fun _ _ => ?_)) | (refine PIoO_sr hP ?_ (fun _ _ => ?_)) | (refine PIoO_cy hP ?_ (fun _ _ => ?_)) | (refine PIoO_bn (fun _ => ?_)) | (refine PIoO_na hP ?_ (fun _ _ => ?_)) | (refine PIoO_no hP ?_ (fun _ _ => ?_)) | (refine PIoO_ite ?_ ?_) | (refine PIoO_some ?_) | (exact PIoO_none)))
theorem pioO_oj_X3_elementOf_47  {x0 : Option Nat} {x2 : Int32} {x3 : Int64} {σ : oSt} (hP : iKptO P) (hc : cQoO P call)  (h : P σ) : PIo P (oj_X3_elementOf_47 n call κ  x0 x2 x3 σ) := by
  unfold oj_X3_elementOf_47
  repeat' (with_reducible (first | assumption | (refine PIoO_gd ?_) | (refine PIoO_pf hP ?_ (by decide) (by with_unfolding_all rfl) (fun _ _ => ?_)) | (refine PIoO_si hP ?_ (fun _ _ => ?_)) | (refine PIoO_sj hP ?_ (fun _ _ => ?_)) | (refine PIoO_sr hP ?_ (fun _ _ => ?_)) | (refine PIoO_cy hP ?_ (fun _ _ => ?_)) | (refine PIoO_bn (fun _ => ?_)) | (refine PIoO_na hP ?_ (fun _ _ => ?_)) | (refine PIoO_no hP ?_ (fun _ _ => ?_)) | (refine PIoO_ite ?_ ?_) | (refine PIoO_some ?_) | (exact PIoO_none) | (refine pioO_oj_X3_elementOf_52 hP hc  ?_)))
theorem pioO_ob_X3_elementOf  {x0 : Option Nat} {x1 : Option Nat} {σ : oSt} (hP : iKptO P) (hc : cQoO P call)  (h : P σ) : PIo P (ob_X3_elementOf n call κ  x0 x1 σ) := by
  unfold ob_X3_elementOf
  repeat' (with_reducible (first | assumption | (refine PIoO_gd ?_) | (refine PIoO_pf hP ?_ (by decide) (by with_unfolding_all rfl) (fun _ _ => ?_)) | (refine PIoO_si hP ?_ (fun _ _ => ?_)) | (refine PIoO_sj hP ?_ (fun _ _ => ?_)) | (refine PIoO_sr hP ?_ (fun _ _ => ?_)) | (refine PIoO_cy hP ?_ (fun _ _ => ?_)) | (refine PIoO_bn (fun _ => ?_)) | (refine PIoO_na hP ?_ (fun _ _ => ?_)) | (refine PIoO_no hP ?_ (fun _ _ => ?_)) | (refine PIoO_ite ?_ ?_) | (refine PIoO_some ?_) | (exact PIoO_none) | (refine PIoO_ln (cQoO.c83 hc _ _ _ _ ?_) (fun _ _ _ => ?_)) | (refine PIoO_ln (cQoO.c85 hc _ _ _ ?_) (fun _ _ _ => ?_)) | (refine pioO_oj_X3_elementOf_47 hP hc  ?_) | (refine pioO_oj_X3_elementOf_52 hP hc  ?_)))
theorem pioO_oj_X3_change_25  {x0 : Option Nat} {x2 : Int32} {t0 : Int64} {σ : oSt} (hP : iKptO P) (hc : cQoO P call)  (h : P σ) : PIo P (oj_X3_change_25 n call κ  x0 x2 t0 σ) := by
  unfold oj_X3_change_25
  repeat' (with_reducible (first | assumption | (refine PIoO_gd ?_) | (refine PIoO_pf hP ?_ (by decide) (by with_unfolding_all rfl) (fun _ _ => ?_)) | (refine PIoO_si hP ?_ (fun _ _ => ?_)) | (refine PIoO_sj hP ?_ (fun _ _ => ?_)) | (refine PIoO_sr hP ?_ (fun _ _ => ?_)) | (refine PIoO_cy hP ?_ (fun _ _ => ?_)) | (refine PIoO_bn (fun _ => ?_)) | (refine PIoO_na hP ?_ (fun _ _ => ?_)) | (refine PIoO_no hP ?_ (fun _ _ => ?_)) | (refine PIoO_ite ?_ ?_) | (refine PIoO_some ?_) | (exact PIoO_none)))
theorem pioO_ob_X3_change  {x0 : Option Nat} {x1 : Option Nat} {σ : oSt} (hP : iKptO P) (hc : cQoO P call)  (h : P σ) : PIo P (ob_X3_change n call κ  x0 x1 σ) := by
  unfold ob_X3_change
  repeat' (with_reducible (first | assumption | (refine PIoO_gd ?_) | (refine PIoO_pf hP ?_ (by decide) (by with_unfolding_all rfl) (fun _ _ => ?_)) | (refine PIoO_si hP ?_ (fun _ _ => ?_)) | (refine PIoO_sj hP ?_ (fun _ _ => ?_)) | (refine PIoO_sr hP ?_ (fun _ _ => ?_)) | (refine PIoO_cy hP ?_ (fun _ _ => ?_)) | (refine PIoO_bn (fun _ => ?_)) | (refine PIoO_na hP ?_ (fun _ _ => ?_)) | (refine PIoO_no hP ?_ (fun _ _ => ?_)) | (refine PIoO_ite ?_ ?_) | (refine PIoO_some ?_) | (exact PIoO_none) | (refine PIoO_in (cQoO.c88 hc _ _ _ ?_) (fun _ _ _ => ?_)) | (refine PIoO_ln (cQoO.c85 hc _ _ _ ?_) (fun _ _ _ => ?_)) | (refine pioO_oj_X3_change_25 hP hc  ?_)))
theorem pioO_ob_X3_match  {x0 : Option Nat} {x1 : Option Nat} {σ : oSt} (hP : iKptO P) (hc : cQoO P call)  (h : P σ) : PIo P (ob_X3_match n call κ  x0 x1 σ) := by
  unfold ob_X3_match
  repeat' (with_reducible (first | assumption | (refine PIoO_gd ?_) | (refine PIoO_pf hP ?_ (by decide) (by with_unfolding_all rfl) (fun _ _ => ?_)) | (refine PIoO_si hP ?_ (fun _ _ => ?_)) | (refine PIoO_sj hP ?_ (fun _ _ => ?_)) | (refine PIoO_sr hP ?_ (fun _ _ => ?_)) | (refine PIoO_cy hP ?_ (fun _ _ => ?_)) | (refine PIoO_bn (fun _ => ?_)) | (refine PIoO_na hP ?_ (fun _ _ => ?_)) | (refine PIoO_no hP ?_ (fun _ _ => ?_)) | (refine PIoO_ite ?_ ?_) | (refine PIoO_some ?_) | (exact PIoO_none) | (refine PIoO_in (cQoO.c79 hc _ _ _ _ ?_) (fun _ _ _ => ?_)) | (refine PIoO_ln (cQoO.c83 hc _ _ _ _ ?_) (fun _ _ _ => ?_))))
theorem pioO_ob_X3_argument  {x0 : Option Nat} {x1 : Option Nat} {σ : oSt} (hP : iKptO P) (hc : cQoO P call)  (h : P σ) : PIo P (ob_X3_argument n call κ  x0 x1 σ) := by
  unfold ob_X3_argument
  repeat' (with_reducible (first | assumption | (refine PIoO_gd ?_) | (refine PIoO_pf hP ?_ (by decide) (by with_unfolding_all rfl) (fun _ _ => ?_)) | (refine PIoO_si hP ?_ (fun _ _ => ?_)) | (refine PIoO_sj hP ?_ (fun _ _ => ?_)) | (refine PIoO_sr hP ?_ (fun _ _ => ?_)) | (refine PIoO_cy hP ?_ (fun _ _ => ?_)) | (refine PIoO_bn (fun _ => ?_)) | (refine PIoO_na hP ?_ (fun _ _ => ?_)) | (refine PIoO_no hP ?_ (fun _ _ => ?_)) | (refine PIoO_ite ?_ ?_) | (refine PIoO_some ?_) | (exact PIoO_none) | (refine PIoO_in (cQoO.c82 hc _ _ _ _ _ ?_) (fun _ _ _ => ?_)) | (refine PIoO_ln (cQoO.c83 hc _ _ _ _ ?_) (fun _ _ _ => ?_)) | (refine PIoO_ln (cQoO.c85 hc _ _ _ ?_) (fun _ _ _ => ?_))))
theorem pioO_oj_X3_apply_96  {x0 : Option Nat} {x3 : Option Nat} {x4 : Int32} {x5 : Int32} {x6 : Int32} {σ : oSt} (hP : iKptO P) (hc : cQoO P call)  (h : P σ) : PIo P (oj_X3_apply_96 n call κ  x0 x3 x4 x5 x6 σ) := by
  unfold oj_X3_apply_96
  repeat' (with_reducible (first | assumption | (refine PIoO_gd ?_) | (refine PIoO_pf hP ?_ (by decide) (by with_unfolding_all rfl) (fun _ _ => ?_)) | (refine PIoO_si hP ?_ (fun _ _ => ?_)) | (refine PIoO_sj hP ?_ (fun _ _ => ?_)) | (refine PIoO_sr hP ?_ (fun _ _ => ?_)) | (refine PIoO_cy hP ?_ (fun _ _ => ?_)) | (refine PIoO_bn (fun _ => ?_)) | (refine PIoO_na hP ?_ (fun _ _ => ?_)) | (refine PIoO_no hP ?_ (fun _ _ => ?_)) | (refine PIoO_ite ?_ ?_) | (refine PIoO_some ?_) | (exact PIoO_none) | (refine PIoO_cv (cQoO.c81 hc _ _ _ _ _ ?_) (fun _ _ => ?_)) | (refine PIoO_in (cQoO.c82 hc _ _ _ _ _ ?_) (fun _ _ _ => ?_)) | (refine PIoO_in (cQoO.c236 hc _ _ ?_) (fun _ _ _ => ?_))))
theorem pioO_ol_X3_apply_46  (hP : iKptO P) (hc : cQoO P call)  : ∀ (t : Nat) (x0 : Option Nat) (x1 : Option Nat) (x2 : Int32) (x3 : Int32) (x4 : Int32) (σ : oSt), P σ → PIo P (ol_X3_apply_46 n call κ  t x0 x1 x2 x3 x4 σ) := by
  intro t
  induction t with
  | zero => intros; exact PIoO_none
  | succ t ih =>
    intro x0 x1 x2 x3 x4 σ h
    rw [ol_X3_apply_46]
    repeat' (with_reducible (first | assumption | (refine PIoO_gd ?_) | (refine PIoO_pf hP ?_ (by decide) (by with_unfolding_all rfl) (fun _ _ => ?_)) | (refine PIoO_si hP ?_ (fun _ _ => ?_)) | (refine PIoO_sj hP ?_ (fun _ _ => ?_)) | (refine PIoO_sr hP ?_ (fun _ _ => ?_)) | (refine PIoO_cy hP ?_ (fun _ _ => ?_)) | (refine PIoO_bn (fun _ => ?_)) | (refine PIoO_na hP ?_ (fun _ _ => ?_)) | (refine PIoO_no hP ?_ (fun _ _ => ?_)) | (refine PIoO_ite ?_ ?_) | (refine PIoO_some ?_) | (exact PIoO_none) | (refine PIoO_in (cQoO.c79 hc _ _ _ _ ?_) (fun _ _ _ => ?_)) | (refine PIoO_in (cQoO.c236 hc _ _ ?_) (fun _ _ _ => ?_)) | (refine pioO_oj_X3_apply_96 hP hc  ?_) | (refine ih _ _ _ _ _ _ ?_)))
theorem pioO_ob_X3_apply  {x0 : Option Nat} {x1 : Int32} {x2 : Int32} {σ : oSt} (hP : iKptO P) (hc : cQoO P call)  (h : P σ) : PIo P (ob_X3_apply n call κ  x0 x1 x2 σ) := by
  unfold ob_X3_apply
  repeat' (with_reducible (first | assumption | (refine PIoO_gd ?_) | (refine PIoO_pf hP ?_ (by decide) (by with_unfolding_all rfl) (fun _ _ => ?_)) | (refine PIoO_si hP ?_ (fun _ _ => ?_)) | (refine PIoO_sj hP ?_ (fun _ _ => ?_)) | (refine PIoO_sr hP ?_ (fun _ _ => ?_)) | (refine PIoO_cy hP ?_ (fun _ _ => ?_)) | (refine PIoO_bn (fun _ => ?_)) | (refine PIoO_na hP ?_ (fun _ _ => ?_)) | (refine PIoO_no hP ?_ (fun _ _ => ?_)) | (refine PIoO_ite ?_ ?_) | (refine PIoO_some ?_) | (exact PIoO_none) | (refine PIoO_rn (cQoO.c234 hc _ _ _ ?_) (fun _ _ _ => ?_)) | (refine pioO_ol_X3_apply_46 hP hc  _ _ _ _ _ _ _ ?_)))
theorem pioO_oj_X3_call_79  {x0 : Option Nat} {x1 : Option Nat} {x2 : Int32} {σ : oSt} (hP : iKptO P) (hc : cQoO P call)  (h : P σ) : PIo P (oj_X3_call_79 n call κ  x0 x1 x2 σ) := by
  unfold oj_X3_call_79
  repeat' (with_reducible (first | assumption | (refine PIoO_gd ?_) | (refine PIoO_pf hP ?_ (by decide) (by with_unfolding_all rfl) (fun _ _ => ?_)) | (refine PIoO_si hP ?_ (fun _ _ => ?_)) | (refine PIoO_sj hP ?_ (fun _ _ => ?_)) | (refine PIoO_sr hP ?_ (fun _ _ => ?_)) | (refine PIoO_cy hP ?_ (fun _ _ => ?_)) | (refine PIoO_bn (fun _ => ?_)) | (refine PIoO_na hP ?_ (fun _ _ => ?_)) | (refine PIoO_no hP ?_ (fun _ _ => ?_)) | (refine PIoO_ite ?_ ?_) | (refine PIoO_some ?_) | (exact PIoO_none) | (refine PIoO_ln (cQoO.c83 hc _ _ _ _ ?_) (fun _ _ _ => ?_)) | (refine PIoO_rn (cQoO.c92 hc _ _ _ _ ?_) (fun _ _ _ => ?_))))
theorem pioO_oj_X3_call_70 {k7 : Option Nat → Option Nat → Int32 → Int32 → Int32 → oSt → oRs} {x0 : Option Nat} {x1 : Option Nat} {x2 : Int32} {x4 : Int32} {x5 : Int32} {σ : oSt} (hP : iKptO P) (hc : cQoO P call) (hk7 : ∀ (a0 : Option Nat) (a1 : Option Nat) (a2 : Int32) (a3 : Int32) (a4 : Int32), ∀ σ, P σ → PIo P (k7 a0 a1 a2 a3 a4 σ)) (h : P σ) : PIo P (oj_X3_call_70 n call κ k7 x0 x1 x2 x4 x5 σ) := by
  unfold oj_X3_call_70
  repeat' (with_reducible (first | assumption | (refine PIoO_gd ?_) | (refine PIoO_pf hP ?_ (by decide) (by with_unfolding_all rfl) (fun _ _ => ?_)) | (refine PIoO_si hP ?_ (fun _ _ => ?_)) | (refine PIoO_sj hP ?_ (fun _ _ => ?_)) | (refine PIoO_sr hP ?_ (fun _ _ => ?_)) | (refine PIoO_cy hP ?_ (fun _ _ => ?_)) | (refine PIoO_bn (fun _ => ?_)) | (refine PIoO_na hP ?_ (fun _ _ => ?_)) | (refine PIoO_no hP ?_ (fun _ _ => ?_)) | (refine PIoO_ite ?_ ?_) | (refine PIoO_some ?_) | (exact PIoO_none) | (refine hk7 _ _ _ _ _ _ ?_)))
theorem pioO_ol_X3_call_7  (hP : iKptO P) (hc : cQoO P call)  : ∀ (t : Nat) (x0 : Option Nat) (x1 : Option Nat) (x2 : Int32) (x3 : Int32) (x4 : Int32) (σ : oSt), P σ → PIo P (ol_X3_call_7 n call κ  t x0 x1 x2 x3 x4 σ) := by
  intro t
  induction t with
  | zero => intros; exact PIoO_none
  | succ t ih =>
    intro x0 x1 x2 x3 x4 σ h
    rw [ol_X3_call_7]
    repeat' (with_reducible (first | assumption | (refine PIoO_gd ?_) | (refine PIoO_pf hP ?_ (by decide) (by with_unfolding_all rfl) (fun _ _ => ?_)) | (refine PIoO_si hP ?_ (fun _ _ => ?_)) | (refine PIoO_sj hP ?_ (fun _ _ => ?_)) | (refine PIoO_sr hP ?_ (fun _ _ => ?_)) | (refine PIoO_cy hP ?_ (fun _ _ => ?_)) | (refine PIoO_bn (fun _ => ?_)) | (refine PIoO_na hP ?_ (fun _ _ => ?_)) | (refine PIoO_no hP ?_ (fun _ _ => ?_)) | (refine PIoO_ite ?_ ?_) | (refine PIoO_some ?_) | (exact PIoO_none) | (refine PIoO_in (cQoO.c79 hc _ _ _ _ ?_) (fun _ _ _ => ?_)) | (refine PIoO_in (cQoO.c236 hc _ _ ?_) (fun _ _ _ => ?_)) | (refine PIoO_ln (cQoO.c91 hc _ _ _ ?_) (fun _ _ _ => ?_)) | (refine PIoO_rn (cQoO.c234 hc _ _ _ ?_) (fun _ _ _ => ?_)) | (refine pioO_oj_X3_call_79 hP hc  ?_) | (refine pioO_oj_X3_call_70 hP hc ih ?_)))
theorem pioO_ob_X3_call  {x0 : Option Nat} {x1 : Option Nat} {σ : oSt} (hP : iKptO P) (hc : cQoO P call)  (h : P σ) : PIo P (ob_X3_call n call κ  x0 x1 σ) := by
  unfold ob_X3_call
  repeat' (with_reducible (first | assumption | (refine PIoO_gd ?_) | (refine PIoO_pf hP ?_ (by decide) (by with_unfolding_all rfl) (fun _ _ => ?_)) | (refine PIoO_si hP ?_ (fun _ _ => ?_)) | (refine PIoO_sj hP ?_ (fun _ _ => ?_)) | (refine PIoO_sr hP ?_ (fun _ _ => ?_)) | (refine PIoO_cy hP ?_ (fun _ _ => ?_)) | (refine PIoO_bn (fun _ => ?_)) | (refine PIoO_na hP ?_ (fun _ _ => ?_)) | (refine PIoO_no hP ?_ (fun _ _ => ?_)) | (refine PIoO_ite ?_ ?_) | (refine PIoO_some ?_) | (exact PIoO_none) | (refine pioO_ol_X3_call_7 hP hc  _ _ _ _ _ _ _ ?_)))
theorem pioO_oj_X3_newArray_56  {x0 : Option Nat} {x1 : Int64} {σ : oSt} (hP : iKptO P) (hc : cQoO P call)  (h : P σ) : PIo P (oj_X3_newArray_56 n call κ  x0 x1 σ) := by
  unfold oj_X3_newArray_56
  repeat' (with_reducible (first | assumption | (refine PIoO_gd ?_) | (refine PIoO_pf hP ?_ (by decide) (by with_unfolding_all rfl) (fun _ _ => ?_)) | (refine PIoO_si hP ?_ (fun _ _ => ?_)) | (refine PIoO_sj hP ?_ (fun _ _ => ?_)) | (refine PIoO_sr hP ?_ (fun _ _ => ?_)) | (refine PIoO_cy hP ?_ (fun _ _ => ?_)) | (refine PIoO_bn (fun _ => ?_)) | (refine PIoO_na hP ?_ (fun _ _ => ?_)) | (refine PIoO_no hP ?_ (fun _ _ => ?_)) | (refine PIoO_ite ?_ ?_) | (refine PIoO_some ?_) | (exact PIoO_none) | (refine PIoO_in (cQoO.c77 hc _ _ _ ?_) (fun _ _ _ => ?_))))
theorem pioO_oj_X3_newArray_51  {x0 : Option Nat} {x1 : Int64} {σ : oSt} (hP : iKptO P) (hc : cQoO P call)  (h : P σ) : PIo P (oj_X3_newArray_51 n call κ  x0 x1 σ) := by
  unfold oj_X3_newArray_51
  repeat' (with_reducible (first | assumption | (refine PIoO_gd ?_) | (refine PIoO_pf hP ?_ (by decide) (by with_unfolding_all rfl) (fun _ _ => ?_)) | (refine PIoO_si hP ?_ (fun _ _ => ?_)) | (refine PIoO_sj hP ?_ (fun _ _ => ?_)) | (refine PIoO_sr hP ?_ (fun _ _ => ?_)) | (refine PIoO_cy hP ?_ (fun _ _ => ?_)) | (refine PIoO_bn (fun _ => ?_)) | (refine PIoO_na hP ?_ (fun _ _ => ?_)) | (refine PIoO_no hP ?_ (fun _ _ => ?_)) | (refine PIoO_ite ?_ ?_) | (refine PIoO_some ?_) | (exact PIoO_none) | (refine pioO_oj_X3_newArray_56 hP hc  ?_)))
theorem pioO_oj_X3_newArray_22  {x0 : Option Nat} {x1 : Int64} {σ : oSt} (hP : iKptO P) (hc : cQoO P call)  (h : P σ) : PIo P (oj_X3_newArray_22 n call κ  x0 x1 σ) := by
  unfold oj_X3_newArray_22
  repeat' (with_reducible (first | assumption | (refine PIoO_gd ?_) | (refine PIoO_pf hP ?_ (by decide) (by with_unfolding_all rfl) (fun _ _ => ?_)) | (refine PIoO_si hP ?_ (fun _ _ => ?_)) | (refine PIoO_sj hP ?_ (fun _ _ => ?_)) | (refine PIoO_sr hP ?_ (fun _ _ => ?_)) | (refine PIoO_cy hP ?_ (fun _ _ => ?_)) | (refine PIoO_bn (fun _ => ?_)) | (refine PIoO_na hP ?_ (fun _ _ => ?_)) | (refine PIoO_no hP ?_ (fun _ _ => ?_)) | (refine PIoO_ite ?_ ?_) | (refine PIoO_some ?_) | (exact PIoO_none) | (refine pioO_oj_X3_newArray_51 hP hc  ?_) | (refine pioO_oj_X3_newArray_56 hP hc  ?_)))
theorem pioO_ob_X3_newArray  {x0 : Option Nat} {x1 : Int64} {σ : oSt} (hP : iKptO P) (hc : cQoO P call)  (h : P σ) : PIo P (ob_X3_newArray n call κ  x0 x1 σ) := by
  unfold ob_X3_newArray
  repeat' (with_reducible (first | assumption | (refine PIoO_gd ?_) | (refine PIoO_pf hP ?_ (by decide) (by with_unfolding_all rfl) (fun _ _ => ?_)) | (refine PIoO_si hP ?_ (fun _ _ => ?_)) | (refine PIoO_sj hP ?_ (fun _ _ => ?_)) | (refine PIoO_sr hP ?_ (fun _ _ => ?_)) | (refine PIoO_cy hP ?_ (fun _ _ => ?_)) | (refine PIoO_bn (fun _ => ?_)) | (refine PIoO_na hP ?_ (fun _ _ => ?_)) | (refine PIoO_no hP ?_ (fun _ _ => ?_)) | (refine PIoO_ite ?_ ?_) | (refine PIoO_some ?_) | (exact PIoO_none) | (refine pioO_oj_X3_newArray_22 hP hc  ?_) | (refine pioO_oj_X3_newArray_56 hP hc  ?_)))
theorem pioO_ob_X3_cons  {x0 : Option Nat} {x1 : Option Nat} {σ : oSt} (hP : iKptO P) (hc : cQoO P call)  (h : P σ) : PIo P (ob_X3_cons n call κ  x0 x1 σ) := by
  unfold ob_X3_cons
  repeat' (with_reducible (first | assumption | (refine PIoO_gd ?_) | (refine PIoO_pf hP ?_ (by decide) (by with_unfolding_all rfl) (fun _ _ => ?_)) | (refine PIoO_si hP ?_ (fun _ _ => ?_)) | (refine PIoO_sj hP ?_ (fun _ _ => ?_)) | (refine PIoO_sr hP ?_ (fun _ _ => ?_)) | (refine PIoO_cy hP ?_ (fun _ _ => ?_)) | (refine PIoO_bn (fun _ => ?_)) | (refine PIoO_na hP ?_ (fun _ _ => ?_)) | (refine PIoO_no hP ?_ (fun _ _ => ?_)) | (refine PIoO_ite ?_ ?_) | (refine PIoO_some ?_) | (exact PIoO_none) | (refine PIoO_in (cQoO.c82 hc _ _ _ _ _ ?_) (fun _ _ _ => ?_)) | (refine PIoO_ln (cQoO.c83 hc _ _ _ _ ?_) (fun _ _ _ => ?_)) | (refine PIoO_ln (cQoO.c84 hc _ _ _ _ ?_) (fun _ _ _ => ?_)) | (refine PIoO_ln (cQoO.c85 hc _ _ _ ?_) (fun _ _ _ => ?_))))
theorem pioO_oj_X3_product_62  {x1 : Int64} {x4 : Int64} {σ : oSt} (hP : iKptO P) (hc : cQoO P call)  (h : P σ) : PIo P (oj_X3_product_62 n call κ  x1 x4 σ) := by
  unfold oj_X3_product_62
  repeat' (with_reducible (first | assumption | (refine PIoO_gd ?_) | (refine PIoO_pf hP ?_ (by decide) (by with_unfolding_all rfl) (fun _ _ => ?_)) | (refine PIoO_si hP ?_ (fun _ _ => ?_)) | (refine PIoO_sj hP ?_ (fun _ _ => ?_)) | (refine PIoO_sr hP ?_ (fun _ _ => ?_)) | (refine PIoO_cy hP ?_ (fun _ _ => ?_)) | (refine PIoO_bn (fun _ => ?_)) | (refine PIoO_na hP ?_ (fun _ _ => ?_)) | (refine PIoO_no hP ?_ (fun _ _ => ?_)) | (refine PIoO_ite ?_ ?_) | (refine PIoO_some ?_) | (exact PIoO_none)))
theorem pioO_oj_X3_product_57  {t0 : Option Nat} {t1 : Int32} {σ : oSt} (hP : iKptO P) (hc : cQoO P call)  (h : P σ) : PIo P (oj_X3_product_57 n call κ  t0 t1 σ) := by
  unfold oj_X3_product_57
  repeat' (with_reducible (first | assumption | (refine PIoO_gd ?_) | (refine PIoO_pf hP ?_ (by decide) (by with_unfolding_all rfl) (fun _ _ => ?_)) | (refine PIoO_si hP ?_ (fun _ _ => ?_)) | (refine PIoO_sj hP ?_ (fun _ _ => ?_)) | (refine PIoO_sr hP ?_ (fun _ _ => ?_)) | (refine PIoO_cy hP ?_ (fun _ _ => ?_)) | (refine PIoO_bn (fun _ => ?_)) | (refine PIoO_na hP ?_ (fun _ _ => ?_)) | (refine PIoO_no hP ?_ (fun _ _ => ?_)) | (refine PIoO_ite ?_ ?_) | (refine PIoO_some ?_) | (exact PIoO_none)))
theorem pioO_oj_X3_product_16  {x0 : Option Nat} {x1 : Int64} {t0 : Int64} {σ : oSt} (hP : iKptO P) (hc : cQoO P call)  (h : P σ) : PIo P (oj_X3_product_16 n call κ  x0 x1 t0 σ) := by
  unfold oj_X3_product_16
  repeat' (with_reducible (first | assumption | (refine PIoO_gd ?_) | (refine PIoO_pf hP ?_ (by decide) (by with_unfolding_all rfl) (fun _ _ => ?_)) | (refine PIoO_si hP ?_ (fun _ _ => ?_)) | (refine PIoO_sj hP ?_ (fun _ _ => ?_)) | (refine PIoO_sr hP ?_ (fun _ _ => ?_)) | (refine PIoO_cy hP ?_ (fun _ _ => ?_)) | (refine PIoO_bn (fun _ => ?_)) | (refine PIoO_na hP ?_ (fun _ _ => ?_)) | (refine PIoO_no hP ?_ (fun _ _ => ?_)) | (refine PIoO_ite ?_ ?_) | (refine PIoO_some ?_) | (exact PIoO_none) | (refine pioO_oj_X3_product_62 hP hc  ?_) | (refine pioO_oj_X3_product_57 hP hc  ?_)))
theorem pioO_ob_X3_product  {x0 : Option Nat} {x1 : Int64} {x3 : Option Nat} {σ : oSt} (hP : iKptO P) (hc : cQoO P call)  (h : P σ) : PIo P (ob_X3_product n call κ  x0 x1 x3 σ) := by
  unfold ob_X3_product
  repeat' (with_reducible (first | assumption | (refine PIoO_gd ?_) | (refine PIoO_pf hP ?_ (by decide) (by with_unfolding_all rfl) (fun _ _ => ?_)) | (refine PIoO_si hP ?_ (fun _ _ => ?_)) | (refine PIoO_sj hP ?_ (fun _ _ => ?_)) | (refine PIoO_sr hP ?_ (fun _ _ => ?_)) | (refine PIoO_cy hP ?_ (fun _ _ => ?_)) | (refine PIoO_bn (fun _ => ?_)) | (refine PIoO_na hP ?_ (fun _ _ => ?_)) | (refine PIoO_no hP ?_ (fun _ _ => ?_)) | (refine PIoO_ite ?_ ?_) | (refine PIoO_some ?_) | (exact PIoO_none) | (refine PIoO_ln (cQoO.c85 hc _ _ _ ?_) (fun _ _ _ => ?_)) | (refine pioO_oj_X3_product_16 hP hc  ?_)))
theorem pioO_oj_X3_quotient_53  {t0 : Option Nat} {t1 : Int32} {σ : oSt} (hP : iKptO P) (hc : cQoO P call)  (h : P σ) : PIo P (oj_X3_quotient_53 n call κ  t0 t1 σ) := by
  unfold oj_X3_quotient_53
  repeat' (with_reducible (first | assumption | (refine PIoO_gd ?_) | (refine PIoO_pf hP ?_ (by decide) (by with_unfolding_all rfl) (fun _ _ => ?_)) | (refine PIoO_si hP ?_ (fun _ _ => ?_)) | (refine PIoO_sj hP ?_ (fun _ _ => ?_)) | (refine PIoO_sr hP ?_ (fun _ _ => ?_)) | (refine PIoO_cy hP ?_ (fun _ _ => ?_)) | (refine PIoO_bn (fun _ => ?_)) | (refine PIoO_na hP ?_ (fun _ _ => ?_)) | (refine PIoO_no hP ?_ (fun _ _ => ?_)) | (refine PIoO_ite ?_ ?_) | (refine PIoO_some ?_) | (exact PIoO_none)))
theorem pioO_oj_X3_quotient_28  {x0 : Option Nat} {x1 : Option Nat} {x2 : Int64} {t0 : Int64} {σ : oSt} (hP : iKptO P) (hc : cQoO P call)  (h : P σ) : PIo P (oj_X3_quotient_28 n call κ  x0 x1 x2 t0 σ) := by
  unfold oj_X3_quotient_28
  repeat' (with_reducible (first | assumption | (refine PIoO_gd ?_) | (refine PIoO_pf hP ?_ (by decide) (by with_unfolding_all rfl) (fun _ _ => ?_)) | (refine PIoO_si hP ?_ (fun _ _ => ?_)) | (refine PIoO_sj hP ?_ (fun _ _ => ?_)) | (refine PIoO_sr hP ?_ (fun _ _ => ?_)) | (refine PIoO_cy hP ?_ (fun _ _ => ?_)) | (refine PIoO_bn (fun _ => ?_)) | (refine PIoO_na hP ?_ (fun _ _ => ?_)) | (refine PIoO_no hP ?_ (fun _ _ => ?_)) | (refine PIoO_ite ?_ ?_) | (refine PIoO_some ?_) | (exact PIoO_none) | (refine PIoO_ln (cQoO.c243 hc _ _ _ ?_) (fun _ _ _ => ?_)) | (refine PIoO_ln (cQoO.c244 hc _ _ _ ?_) (fun _ _ _ => ?_)) | (refine pioO_oj_X3_quotient_53 hP hc  ?_)))
theorem pioO_ob_X3_quotient  {x0 : Option Nat} {x1 : Option Nat} {σ : oSt} (hP : iKptO P) (hc : cQoO P call)  (h : P σ) : PIo P (ob_X3_quotient n call κ  x0 x1 σ) := by
  unfold ob_X3_quotient
  repeat' (with_reducible (first | assumption | (refine PIoO_gd ?_) | (refine PIoO_pf hP ?_ (by decide) (by with_unfolding_all rfl) (fun _ _ => ?_)) | (refine PIoO_si hP ?_ (fun _ _ => ?_)) | (refine PIoO_sj hP ?_ (fun _ _ => ?_)) | (refine PIoO_sr hP ?_ (fun _ _ => ?_)) | (refine PIoO_cy hP ?_ (fun _ _ => ?_)) | (refine PIoO_bn (fun _ => ?_)) | (refine PIoO_na hP ?_ (fun _ _ => ?_)) | (refine PIoO_no hP ?_ (fun _ _ => ?_)) | (refine PIoO_ite ?_ ?_) | (refine PIoO_some ?_) | (exact PIoO_none) | (refine PIoO_ln (cQoO.c85 hc _ _ _ ?_) (fun _ _ _ => ?_)) | (refine pioO_oj_X3_quotient_28 hP hc  ?_)))
theorem pioO_ob_X3_plain  {x0 : Option Nat} {x1 : Option Nat} {σ : oSt} (hP : iKptO P) (hc : cQoO P call)  (h : P σ) : PIo P (ob_X3_plain n call κ  x0 x1 σ) := by
  unfold ob_X3_plain
  repeat' (with_reducible (first | assumption | (refine PIoO_gd ?_) | (refine PIoO_pf hP ?_ (by decide) (by with_unfolding_all rfl) (fun _ _ => ?_)) | (refine PIoO_si hP ?_ (fun _ _ => ?_)) | (refine PIoO_sj hP ?_ (fun _ _ => ?_)) | (refine PIoO_sr hP ?_ (fun _ _ => ?_)) | (refine PIoO_cy hP ?_ (fun _ _ => ?_)) | (refine PIoO_bn (fun _ => ?_)) | (refine PIoO_na hP ?_ (fun _ _ => ?_)) | (refine PIoO_no hP ?_ (fun _ _ => ?_)) | (refine PIoO_ite ?_ ?_) | (refine PIoO_some ?_) | (exact PIoO_none) | (refine PIoO_in (cQoO.c82 hc _ _ _ _ _ ?_) (fun _ _ _ => ?_)) | (refine PIoO_in (cQoO.c88 hc _ _ _ ?_) (fun _ _ _ => ?_)) | (refine PIoO_ln (cQoO.c83 hc _ _ _ _ ?_) (fun _ _ _ => ?_)) | (refine PIoO_ln (cQoO.c85 hc _ _ _ ?_) (fun _ _ _ => ?_)) | (refine PIoO_ln (cQoO.c94 hc _ _ _ ?_) (fun _ _ _ => ?_)) | (refine PIoO_ln (cQoO.c95 hc _ _ _ ?_) (fun _ _ _ => ?_)) | (refine PIoO_ln (cQoO.c96 hc _ _ _ _ ?_) (fun _ _ _ => ?_)) | (refine PIoO_ln (cQoO.c97 hc _ _ _ ?_) (fun _ _ _ => ?_))))
theorem pioO_oj_X3_start_210  {x1 : Option Nat} {σ : oSt} (hP : iKptO P) (hc : cQoO P call)  (h : P σ) : PIo P (oj_X3_start_210 n call κ  x1 σ) := by
  unfold oj_X3_start_210
  repeat' (with_reducible (first | assumption | (refine PIoO_gd ?_) | (refine PIoO_pf hP ?_ (by decide) (by with_unfolding_all rfl) (fun _ _ => ?_)) | (refine PIoO_si hP ?_ (fun _ _ => ?_)) | (refine PIoO_sj hP ?_ (fun _ _ => ?_)) | (refine PIoO_sr hP ?_ (fun _ _ => ?_)) | (refine PIoO_cy hP ?_ (fun _ _ => ?_)) | (refine PIoO_bn (fun _ => ?_)) | (refine PIoO_na hP ?_ (fun _ _ => ?_)) | (refine PIoO_no hP ?_ (fun _ _ => ?_)) | (refine PIoO_ite ?_ ?_) | (refine PIoO_some ?_) | (exact PIoO_none)))
theorem pioO_ob_X3_start  {x0 : Option Nat} {x1 : Option Nat} {σ : oSt} (hP : iKptO P) (hc : cQoO P call)  (h : P σ) : PIo P (ob_X3_start n call κ  x0 x1 σ) := by
  unfold ob_X3_start
  repeat' (with_reducible (first | assumption | (refine PIoO_gd ?_) | (refine PIoO_pf hP ?_ (by decide) (by with_unfolding_all rfl) (fun _ _ => ?_)) | (refine PIoO_si hP ?_ (fun _ _ => ?_)) | (refine PIoO_sj hP ?_ (fun _ _ => ?_)) | (refine PIoO_sr hP ?_ (fun _ _ => ?_)) | (refine PIoO_cy hP ?_ (fun _ _ => ?_)) | (refine PIoO_bn (fun _ => ?_)) | (refine PIoO_na hP ?_ (fun _ _ => ?_)) | (refine PIoO_no hP ?_ (fun _ _ => ?_)) | (refine PIoO_ite ?_ ?_) | (refine PIoO_some ?_) | (exact PIoO_none) | (refine PIoO_cv (cQoO.c81 hc _ _ _ _ _ ?_) (fun _ _ => ?_)) | (refine PIoO_cv (cQoO.c89 hc _ _ _ ?_) (fun _ _ => ?_)) | (refine PIoO_in (cQoO.c79 hc _ _ _ _ ?_) (fun _ _ _ => ?_)) | (refine PIoO_in (cQoO.c82 hc _ _ _ _ _ ?_) (fun _ _ _ => ?_)) | (refine PIoO_in (cQoO.c87 hc _ _ _ ?_) (fun _ _ _ => ?_)) | (refine PIoO_ln (cQoO.c98 hc _ _ _ ?_) (fun _ _ _ => ?_)) | (refine PIoO_rn (cQoO.c90 hc _ _ _ ?_) (fun _ _ _ => ?_)) | (refine PIoO_rn (cQoO.c93 hc _ _ _ ?_) (fun _ _ _ => ?_)) | (refine pioO_oj_X3_start_210 hP hc  ?_)))
theorem pioO_ob_X3_resume  {x0 : Option Nat} {σ : oSt} (hP : iKptO P) (hc : cQoO P call)  (h : P σ) : PIo P (ob_X3_resume n call κ  x0 σ) := by
  unfold ob_X3_resume
  repeat' (with_reducible (first | assumption | (refine PIoO_gd ?_) | (refine PIoO_pf hP ?_ (by decide) (by with_unfolding_all rfl) (fun _ _ => ?_)) | (refine PIoO_si hP ?_ (fun _ _ => ?_)) | (refine PIoO_sj hP ?_ (fun _ _ => ?_)) | (refine PIoO_sr hP ?_ (fun _ _ => ?_)) | (refine PIoO_cy hP ?_ (fun _ _ => ?_)) | (refine PIoO_bn (fun _ => ?_)) | (refine PIoO_na hP ?_ (fun _ _ => ?_)) | (refine PIoO_no hP ?_ (fun _ _ => ?_)) | (refine PIoO_ite ?_ ?_) | (refine PIoO_some ?_) | (exact PIoO_none) | (refine PIoO_in (cQoO.c79 hc _ _ _ _ ?_) (fun _ _ _ => ?_)) | (refine PIoO_rn (cQoO.c92 hc _ _ _ _ ?_) (fun _ _ _ => ?_))))
theorem pioO_oj_X3_go_105  {x0 : Option Nat} {t0 : Option Nat} {t1 : Int64} {σ : oSt} (hP : iKptO P) (hc : cQoO P call)  (h : P σ) : PIo P (oj_X3_go_105 n call κ  x0 t0 t1 σ) := by
  unfold oj_X3_go_105
  repeat' (with_reducible (first | assumption | (refine PIoO_gd ?_) | (refine PIoO_pf hP ?_ (by decide) (by with_unfolding_all rfl) (fun _ _ => ?_)) | (refine PIoO_si hP ?_ (fun _ _ => ?_)) | (refine PIoO_sj hP ?_ (fun _ _ => ?_)) | (refine PIoO_sr hP ?_ (fun _ _ => ?_)) | (refine PIoO_cy hP ?_ (fun _ _ => ?_)) | (refine PIoO_bn (fun _ => ?_)) | (refine PIoO_na hP ?_ (fun _ _ => ?_)) | (refine PIoO_no hP ?_ (fun _ _ => ?_)) | (refine PIoO_ite ?_ ?_) | (refine PIoO_some ?_) | (exact PIoO_none)))
theorem pioO_oj_X3_go_71  {x0 : Option Nat} {x1 : Int32} {σ : oSt} (hP : iKptO P) (hc : cQoO P call)  (h : P σ) : PIo P (oj_X3_go_71 n call κ  x0 x1 σ) := by
  unfold oj_X3_go_71
  repeat' (with_reducible (first | assumption | (refine PIoO_gd ?_) | (refine PIoO_pf hP ?_ (by decide) (by with_unfolding_all rfl) (fun _ _ => ?_)) | (refine PIoO_si hP ?_ (fun _ _ => ?_)) | (refine PIoO_sj hP ?_ (fun _ _ => ?_)) | (refine PIoO_sr hP ?_ (fun _ _ => ?_)) | (refine PIoO_cy hP ?_ (fun _ _ => ?_)) | (refine PIoO_bn (fun _ => ?_)) | (refine PIoO_na hP ?_ (fun _ _ => ?_)) | (refine PIoO_no hP ?_ (fun _ _ => ?_)) | (refine PIoO_ite ?_ ?_) | (refine PIoO_some ?_) | (exact PIoO_none) | (refine PIoO_ln (cQoO.c84 hc _ _ _ _ ?_) (fun _ _ _ => ?_)) | (refine pioO_oj_X3_go_105 hP hc  ?_)))
theorem pioO_oj_X3_go_64 {k24 : Option Nat → Int32 → Option Nat → Int32 → oSt → oRs} {x0 : Option Nat} {x1 : Int32} {x3 : Int32} {t0 : Option Nat} {σ : oSt} (hP : iKptO P) (hc : cQoO P call) (hk24 : ∀ (a0 : Option Nat) (a1 : Int32) (a2 : Option Nat) (a3 : Int32), ∀ σ, P σ → PIo P (k24 a0 a1 a2 a3 σ)) (h : P σ) : PIo P (oj_X3_go_64 n call κ k24 x0 x1 x3 t0 σ) := by
  unfold oj_X3_go_64
  repeat' (with_reducible (first | assumption | (refine PIoO_gd ?_) | (refine PIoO_pf hP ?_ (by decide) (by with_unfolding_all rfl) (fun _ _ => ?_)) | (refine PIoO_si hP ?_ (fun _ _ => ?_)) | (refine PIoO_sj hP ?_ (fun _ _ => ?_)) | (refine PIoO_sr hP ?_ (fun _ _ => ?_)) | (refine PIoO_cy hP ?_ (fun _ _ => ?_)) | (refine PIoO_bn (fun _ => ?_)) | (refine PIoO_na hP ?_ (fun _ _ => ?_)) | (refine PIoO_no hP ?_ (fun _ _ => ?_)) | (refine PIoO_ite ?_ ?_) | (refine PIoO_some ?_) | (exact PIoO_none) | (refine hk24 _ _ _ _ _ ?_)))
theorem pioO_oj_X3_go_48 {k24 : Option Nat → Int32 → Option Nat → Int32 → oSt → oRs} {x0 : Option Nat} {x1 : Int32} {x2 : Option Nat} {x3 : Int32} {σ : oSt} (hP : iKptO P) (hc : cQoO P call) (hk24 : ∀ (a0 : Option Nat) (a1 : Int32) (a2 : Option Nat) (a3 : Int32), ∀ σ, P σ → PIo P (k24 a0 a1 a2 a3 σ)) (h : P σ) : PIo P (oj_X3_go_48 n call κ k24 x0 x1 x2 x3 σ) := by
  unfold oj_X3_go_48
  repeat' (with_reducible (first | assumption | (refine PIoO_gd ?_) | (refine PIoO_pf hP ?_ (by decide) (by with_unfolding_all rfl) (fun _ _ => ?_)) | (refine PIoO_si hP ?_ (fun _ _ => ?_)) | (refine PIoO_sj hP ?_ (fun _ _ => ?_)) | (refine PIoO_sr hP ?_ (fun _ _ => ?_)) | (refine PIoO_cy hP ?_ (fun _ _ => ?_)) | (refine PIoO_bn (fun _ => ?_)) | (refine PIoO_na hP ?_ (fun _ _ => ?_)) | (refine PIoO_no hP ?_ (fun _ _ => ?_)) | (refine PIoO_ite ?_ ?_) | (refine PIoO_some ?_) | (exact PIoO_none) | (refine PIoO_rn (cQoO.c99 hc _ _ _ ?_) (fun _ _ _ => ?_)) | (refine PIoO_rn (cQoO.c100 hc _ _ ?_) (fun _ _ _ => ?_)) | (refine pioO_oj_X3_go_64 hP hc hk24 ?_) | (refine hk24 _ _ _ _ _ ?_)))
theorem pioO_ol_X3_go_24  (hP : iKptO P) (hc : cQoO P call)  : ∀ (t : Nat) (x0 : Option Nat) (x1 : Int32) (x2 : Option Nat) (x3 : Int32) (σ : oSt), P σ → PIo P (ol_X3_go_24 n call κ  t x0 x1 x2 x3 σ) := by
  intro t
  induction t with
  | zero => intros; exact PIoO_none
  | succ t ih =>
    intro x0 x1 x2 x3 σ h
    rw [ol_X3_go_24]
    repeat' (with_reducible (first | assumption | (refine PIoO_gd ?_) | (refine PIoO_pf hP ?_ (by decide) (by with_unfolding_all rfl) (fun _ _ => ?_)) | (refine PIoO_si hP ?_ (fun _ _ => ?_)) | (refine PIoO_sj hP ?_ (fun _ _ => ?_)) | (refine PIoO_sr hP ?_ (fun _ _ => ?_)) | (refine PIoO_cy hP ?_ (fun _ _ => ?_)) | (refine PIoO_bn (fun _ => ?_)) | (refine PIoO_na hP ?_ (fun _ _ => ?_)) | (refine PIoO_no hP ?_ (fun _ _ => ?_)) | (refine PIoO_ite ?_ ?_) | (refine PIoO_some ?_) | (exact PIoO_none) | (refine pioO_oj_X3_go_71 hP hc  ?_) | (refine pioO_oj_X3_go_48 hP hc ih ?_)))
theorem pioO_ob_X3_go  {x0 : Option Nat} {x1 : Int32} {σ : oSt} (hP : iKptO P) (hc : cQoO P call)  (h : P σ) : PIo P (ob_X3_go n call κ  x0 x1 σ) := by
  unfold ob_X3_go
  repeat' (with_reducible (first | assumption | (refine PIoO_gd ?_) | (refine PIoO_pf hP ?_ (by decide) (by with_unfolding_all rfl) (fun _ _ => ?_)) | (refine PIoO_si hP ?_ (fun _ _ => ?_)) | (refine PIoO_sj hP ?_ (fun _ _ => ?_)) | (refine PIoO_sr hP ?_ (fun _ _ => ?_)) | (refine PIoO_cy hP ?_ (fun _ _ => ?_)) | (refine PIoO_bn (fun _ => ?_)) | (refine PIoO_na hP ?_ (fun _ _ => ?_)) | (refine PIoO_no hP ?_ (fun _ _ => ?_)) | (refine PIoO_ite ?_ ?_) | (refine PIoO_some ?_) | (exact PIoO_none) | (refine PIoO_cv (cQoO.c80 hc _ _ ?_) (fun _ _ => ?_)) | (refine pioO_ol_X3_go_24 hP hc  _ _ _ _ _ _ ?_)))
theorem pioO_ob_X5_init  {x0 : Option Nat} {x1 : Int32} {x2 : Int32} {x3 : Int32} {σ : oSt} (hP : iKptO P) (hc : cQoO P call)  (h : P σ) : PIo P (ob_X5_init n call κ  x0 x1 x2 x3 σ) := by
  unfold ob_X5_init
  repeat' (with_reducible (first | assumption | (refine PIoO_gd ?_) | (refine PIoO_pf hP ?_ (by decide) (by with_unfolding_all rfl) (fun _ _ => ?_)) | (refine PIoO_si hP ?_ (fun _ _ => ?_)) | (refine PIoO_sj hP ?_ (fun _ _ => ?_)) | (refine PIoO_sr hP ?_ (fun _ _ => ?_)) | (refine PIoO_cy hP ?_ (fun _ _ => ?_)) | (refine PIoO_bn (fun _ => ?_)) | (refine PIoO_na hP ?_ (fun _ _ => ?_)) | (refine PIoO_no hP ?_ (fun _ _ => ?_)) | (refine PIoO_ite ?_ ?_) | (refine PIoO_some ?_) | (exact PIoO_none)))
theorem pioO_ob_X7_init  {x0 : Option Nat} {x1 : Option Nat} {σ : oSt} (hP : iKptO P) (hc : cQoO P call)  (h : P σ) : PIo P (ob_X7_init n call κ  x0 x1 σ) := by
  unfold ob_X7_init
  repeat' (with_reducible (first | assumption | (refine PIoO_gd ?_) | (refine PIoO_pf hP ?_ (by decide) (by with_unfolding_all rfl) (fun _ _ => ?_)) | (refine PIoO_si hP ?_ (fun _ _ => ?_)) | (refine PIoO_sj hP ?_ (fun _ _ => ?_)) | (refine PIoO_sr hP ?_ (fun _ _ => ?_)) | (refine PIoO_cy hP ?_ (fun _ _ => ?_)) | (refine PIoO_bn (fun _ => ?_)) | (refine PIoO_na hP ?_ (fun _ _ => ?_)) | (refine PIoO_no hP ?_ (fun _ _ => ?_)) | (refine PIoO_ite ?_ ?_) | (refine PIoO_some ?_) | (exact PIoO_none) | (refine PIoO_cv (cQoO.c224 hc _ _ ?_) (fun _ _ => ?_))))
theorem pioO_ob_X7_kind  {x0 : Option Nat} {σ : oSt} (hP : iKptO P) (hc : cQoO P call)  (h : P σ) : PIo P (ob_X7_kind n call κ  x0 σ) := by
  unfold ob_X7_kind
  repeat' (with_reducible (first | assumption | (refine PIoO_gd ?_) | (refine PIoO_pf hP ?_ (by decide) (by with_unfolding_all rfl) (fun _ _ => ?_)) | (refine PIoO_si hP ?_ (fun _ _ => ?_)) | (refine PIoO_sj hP ?_ (fun _ _ => ?_)) | (refine PIoO_sr hP ?_ (fun _ _ => ?_)) | (refine PIoO_cy hP ?_ (fun _ _ => ?_)) | (refine PIoO_bn (fun _ => ?_)) | (refine PIoO_na hP ?_ (fun _ _ => ?_)) | (refine PIoO_no hP ?_ (fun _ _ => ?_)) | (refine PIoO_ite ?_ ?_) | (refine PIoO_some ?_) | (exact PIoO_none)))
theorem pioO_ob_X7_next  {x0 : Option Nat} {σ : oSt} (hP : iKptO P) (hc : cQoO P call)  (h : P σ) : PIo P (ob_X7_next n call κ  x0 σ) := by
  unfold ob_X7_next
  repeat' (with_reducible (first | assumption | (refine PIoO_gd ?_) | (refine PIoO_pf hP ?_ (by decide) (by with_unfolding_all rfl) (fun _ _ => ?_)) | (refine PIoO_si hP ?_ (fun _ _ => ?_)) | (refine PIoO_sj hP ?_ (fun _ _ => ?_)) | (refine PIoO_sr hP ?_ (fun _ _ => ?_)) | (refine PIoO_cy hP ?_ (fun _ _ => ?_)) | (refine PIoO_bn (fun _ => ?_)) | (refine PIoO_na hP ?_ (fun _ _ => ?_)) | (refine PIoO_no hP ?_ (fun _ _ => ?_)) | (refine PIoO_ite ?_ ?_) | (refine PIoO_some ?_) | (exact PIoO_none)))
theorem pioO_ob_X7_here  {x0 : Option Nat} {σ : oSt} (hP : iKptO P) (hc : cQoO P call)  (h : P σ) : PIo P (ob_X7_here n call κ  x0 σ) := by
  unfold ob_X7_here
  repeat' (with_reducible (first | assumption | (refine PIoO_gd ?_) | (refine PIoO_pf hP ?_ (by decide) (by with_unfolding_all rfl) (fun _ _ => ?_)) | (refine PIoO_si hP ?_ (fun _ _ => ?_)) | (refine PIoO_sj hP ?_ (fun _ _ => ?_)) | (refine PIoO_sr hP ?_ (fun _ _ => ?_)) | (refine PIoO_cy hP ?_ (fun _ _ => ?_)) | (refine PIoO_bn (fun _ => ?_)) | (refine PIoO_na hP ?_ (fun _ _ => ?_)) | (refine PIoO_no hP ?_ (fun _ _ => ?_)) | (refine PIoO_ite ?_ ?_) | (refine PIoO_some ?_) | (exact PIoO_none)))
theorem pioO_ob_X7_fail  {x0 : Option Nat} {σ : oSt} (hP : iKptO P) (hc : cQoO P call)  (h : P σ) : PIo P (ob_X7_fail n call κ  x0 σ) := by
  unfold ob_X7_fail
  repeat' (with_reducible (first | assumption | (refine PIoO_gd ?_) | (refine PIoO_pf hP ?_ (by decide) (by with_unfolding_all rfl) (fun _ _ => ?_)) | (refine PIoO_si hP ?_ (fun _ _ => ?_)) | (refine PIoO_sj hP ?_ (fun _ _ => ?_)) | (refine PIoO_sr hP ?_ (fun _ _ => ?_)) | (refine PIoO_cy hP ?_ (fun _ _ => ?_)) | (refine PIoO_bn (fun _ => ?_)) | (refine PIoO_na hP ?_ (fun _ _ => ?_)) | (refine PIoO_no hP ?_ (fun _ _ => ?_)) | (refine PIoO_ite ?_ ?_) | (refine PIoO_some ?_) | (exact PIoO_none) | (refine PIoO_in (cQoO.c106 hc _ _ ?_) (fun _ _ _ => ?_))))
theorem pioO_ob_X7_expect  {x0 : Option Nat} {x1 : Int32} {σ : oSt} (hP : iKptO P) (hc : cQoO P call)  (h : P σ) : PIo P (ob_X7_expect n call κ  x0 x1 σ) := by
  unfold ob_X7_expect
  repeat' (with_reducible (first | assumption | (refine PIoO_gd ?_) | (refine PIoO_pf hP ?_ (by decide) (by with_unfolding_all rfl) (fun _ _ => ?_)) | (refine PIoO_si hP ?_ (fun _ _ => ?_)) | (refine PIoO_sj hP ?_ (fun _ _ => ?_)) | (refine PIoO_sr hP ?_ (fun _ _ => ?_)) | (refine PIoO_cy hP ?_ (fun _ _ => ?_)) | (refine PIoO_bn (fun _ => ?_)) | (refine PIoO_na hP ?_ (fun _ _ => ?_)) | (refine PIoO_no hP ?_ (fun _ _ => ?_)) | (refine PIoO_ite ?_ ?_) | (refine PIoO_some ?_) | (exact PIoO_none) | (refine PIoO_cv (cQoO.c105 hc _ _ ?_) (fun _ _ => ?_)) | (refine PIoO_cv (cQoO.c107 hc _ _ ?_) (fun _ _ => ?_)) | (refine PIoO_in (cQoO.c104 hc _ _ ?_) (fun _ _ _ => ?_))))
theorem pioO_oj_X7_isRelation_32   {σ : oSt} (hP : iKptO P) (hc : cQoO P call)  (h : P σ) : PIo P (oj_X7_isRelation_32 n call κ   σ) := by
  unfold oj_X7_isRelation_32
  repeat' (with_reducible (first | assumption | (refine PIoO_gd ?_) | (refine PIoO_pf hP ?_ (by decide) (by with_unfolding_all rfl) (fun _ _ => ?_)) | (refine PIoO_si hP ?_ (fun _ _ => ?_)) | (refine PIoO_sj hP ?_ (fun _ _ => ?_)) | (refine PIoO_sr hP ?_ (fun _ _ => ?_)) | (refine PIoO_cy hP ?_ (fun _ _ => ?_)) | (refine PIoO_bn (fun _ => ?_)) | (refine PIoO_na hP ?_ (fun _ _ => ?_)) | (refine PIoO_no hP ?_ (fun _ _ => ?_)) | (refine PIoO_ite ?_ ?_) | (refine PIoO_some ?_) | (exact PIoO_none)))
theorem pioO_ob_X7_isRelation  {x0 : Int32} {σ : oSt} (hP : iKptO P) (hc : cQoO P call)  (h : P σ) : PIo P (ob_X7_isRelation n call κ  x0 σ) := by
  unfold ob_X7_isRelation
  repeat' (with_reducible (first | assumption | (refine PIoO_gd ?_) | (refine PIoO_pf hP ?_ (by decide) (by with_unfolding_all rfl) (fun _ _ => ?_)) | (refine PIoO_si hP ?_ (fun _ _ => ?_)) | (refine PIoO_sj hP ?_ (fun _ _ => ?_)) | (refine PIoO_sr hP ?_ (fun _ _ => ?_)) | (refine PIoO_cy hP ?_ (fun _ _ => ?_)) | (refine PIoO_bn (fun _ => ?_)) | (refine PIoO_na hP ?_ (fun _ _ => ?_)) | (refine PIoO_no hP ?_ (fun _ _ => ?_)) | (refine PIoO_ite ?_ ?_) | (refine PIoO_some ?_) | (exact PIoO_none) | (refine pioO_oj_X7_isRelation_32 hP hc  ?_)))
theorem pioO_ol_X11_numberOf_9  (hP : iKptO P) (hc : cQoO P call)  : ∀ (t : Nat) (x0 : Option Nat) (x1 : Int32) (x2 : Int32) (x3 : Int32) (σ : oSt), P σ → PIo P (ol_X11_numberOf_9 n call κ  t x0 x1 x2 x3 σ) := by
  intro t
  induction t with
  | zero => intros; exact PIoO_none
  | succ t ih =>
    intro x0 x1 x2 x3 σ h
    rw [ol_X11_numberOf_9]
    repeat' (with_reducible (first | assumption | (refine PIoO_gd ?_) | (refine PIoO_pf hP ?_ (by decide) (by with_unfolding_all rfl) (fun _ _ => ?_)) | (refine PIoO_si hP ?_ (fun _ _ => ?_)) | (refine PIoO_sj hP ?_ (fun _ _ => ?_)) | (refine PIoO_sr hP ?_ (fun _ _ => ?_)) | (refine PIoO_cy hP ?_ (fun _ _ => ?_)) | (refine PIoO_bn (fun _ => ?_)) | (refine PIoO_na hP ?_ (fun _ _ => ?_)) | (refine PIoO_no hP ?_ (fun _ _ => ?_)) | (refine PIoO_ite ?_ ?_) | (refine PIoO_some ?_) | (exact PIoO_none) | (refine PIoO_in (cQoO.c201 hc _ _ _ ?_) (fun _ _ _ => ?_)) | (refine ih _ _ _ _ _ ?_)))
theorem pioO_ob_X11_numberOf  {x0 : Option Nat} {x1 : Int32} {σ : oSt} (hP : iKptO P) (hc : cQoO P call)  (h : P σ) : PIo P (ob_X11_numberOf n call κ  x0 x1 σ) := by
  unfold ob_X11_numberOf
  repeat' (with_reducible (first | assumption | (refine PIoO_gd ?_) | (refine PIoO_pf hP ?_ (by decide) (by with_unfolding_all rfl) (fun _ _ => ?_)) | (refine PIoO_si hP ?_ (fun _ _ => ?_)) | (refine PIoO_sj hP ?_ (fun _ _ => ?_)) | (refine PIoO_sr hP ?_ (fun _ _ => ?_)) | (refine PIoO_cy hP ?_ (fun _ _ => ?_)) | (refine PIoO_bn (fun _ => ?_)) | (refine PIoO_na hP ?_ (fun _ _ => ?_)) | (refine PIoO_no hP ?_ (fun _ _ => ?_)) | (refine PIoO_ite ?_ ?_) | (refine PIoO_some ?_) | (exact PIoO_none) | (refine pioO_ol_X11_numberOf_9 hP hc  _ _ _ _ _ _ ?_)))
theorem pioO_oj_X7_readQualTerm_108  {x0 : Option Nat} {σ : oSt} (hP : iKptO P) (hc : cQoO P call)  (h : P σ) : PIo P (oj_X7_readQualTerm_108 n call κ  x0 σ) := by
  unfold oj_X7_readQualTerm_108
  repeat' (with_reducible (first | assumption | (refine PIoO_gd ?_) | (refine PIoO_pf hP ?_ (by decide) (by with_unfolding_all rfl) (fun _ _ => ?_)) | (refine PIoO_si hP ?_ (fun _ _ => ?_)) | (refine PIoO_sj hP ?_ (fun _ _ => ?_)) | (refine PIoO_sr hP ?_ (fun _ _ => ?_)) | (refine PIoO_cy hP ?_ (fun _ _ => ?_)) | (refine PIoO_bn (fun _ => ?_)) | (refine PIoO_na hP ?_ (fun _ _ => ?_)) | (refine PIoO_no hP ?_ (fun _ _ => ?_)) | (refine PIoO_ite ?_ ?_) | (refine PIoO_some ?_) | (exact PIoO_none) | (refine PIoO_cv (cQoO.c108 hc _ _ _ ?_) (fun _ _ => ?_))))
theorem pioO_oj_X7_readQualTerm_78  {x0 : Option Nat} {x1 : Int32} {σ : oSt} (hP : iKptO P) (hc : cQoO P call)  (h : P σ) : PIo P (oj_X7_readQualTerm_78 n call κ  x0 x1 σ) := by
  unfold oj_X7_readQualTerm_78
  repeat' (with_reducible (first | assumption | (refine PIoO_gd ?_) | (refine PIoO_pf hP ?_ (by decide) (by with_unfolding_all rfl) (fun _ _ => ?_)) | (refine PIoO_si hP ?_ (fun _ _ => ?_)) | (refine PIoO_sj hP ?_ (fun _ _ => ?_)) | (refine PIoO_sr hP ?_ (fun _ _ => ?_)) | (refine PIoO_cy hP ?_ (fun _ _ => ?_)) | (refine PIoO_bn (fun _ => ?_)) | (refine PIoO_na hP ?_ (fun _ _ => ?_)) | (refine PIoO_no hP ?_ (fun _ _ => ?_)) | (refine PIoO_ite ?_ ?_) | (refine PIoO_some ?_) | (exact PIoO_none) | (refine PIoO_in (cQoO.c104 hc _ _ ?_) (fun _ _ _ => ?_)) | (refine PIoO_in (cQoO.c110 hc _ _ _ ?_) (fun _ _ _ => ?_)) | (refine pioO_oj_X7_readQualTerm_108 hP hc  ?_)))
theorem pioO_oj_X7_readQualTerm_73  {x0 : Option Nat} {t0 : Int32} {σ : oSt} (hP : iKptO P) (hc : cQoO P call)  (h : P σ) : PIo P (oj_X7_readQualTerm_73 n call κ  x0 t0 σ) := by
  unfold oj_X7_readQualTerm_73
  repeat' (with_reducible (first | assumption | (refine PIoO_gd ?_) | (refine PIoO_pf hP ?_ (by decide) (by with_unfolding_all rfl) (fun _ _ => ?_)) | (refine PIoO_si hP ?_ (fun _ _ => ?_)) | (refine PIoO_sj hP ?_ (fun _ _ => ?_)) | (refine PIoO_sr hP ?_ (fun _ _ => ?_)) | (refine PIoO_cy hP ?_ (fun _ _ => ?_)) | (refine PIoO_bn (fun _ => ?_)) | (refine PIoO_na hP ?_ (fun _ _ => ?_)) | (refine PIoO_no hP ?_ (fun _ _ => ?_)) | (refine PIoO_ite ?_ ?_) | (refine PIoO_some ?_) | (exact PIoO_none) | (refine PIoO_cv (cQoO.c105 hc _ _ ?_) (fun _ _ => ?_)) | (refine pioO_oj_X7_readQualTerm_78 hP hc  ?_)))
theorem pioO_oj_X7_readQualTerm_59  {x0 : Option Nat} {σ : oSt} (hP : iKptO P) (hc : cQoO P call)  (h : P σ) : PIo P (oj_X7_readQualTerm_59 n call κ  x0 σ) := by
  unfold oj_X7_readQualTerm_59
  repeat' (with_reducible (first | assumption | (refine PIoO_gd ?_) | (refine PIoO_pf hP ?_ (by decide) (by with_unfolding_all rfl) (fun _ _ => ?_)) | (refine PIoO_si hP ?_ (fun _ _ => ?_)) | (refine PIoO_sj hP ?_ (fun _ _ => ?_)) | (refine PIoO_sr hP ?_ (fun _ _ => ?_)) | (refine PIoO_cy hP ?_ (fun _ _ => ?_)) | (refine PIoO_bn (fun _ => ?_)) | (refine PIoO_na hP ?_ (fun _ _ => ?_)) | (refine PIoO_no hP ?_ (fun _ _ => ?_)) | (refine PIoO_ite ?_ ?_) | (refine PIoO_some ?_) | (exact PIoO_none) | (refine PIoO_in (cQoO.c104 hc _ _ ?_) (fun _ _ _ => ?_)) | (refine pioO_oj_X7_readQualTerm_73 hP hc  ?_)))
theorem pioO_oj_X7_readQualTerm_17  {x0 : Option Nat} {x1 : Int32} {σ : oSt} (hP : iKptO P) (hc : cQoO P call)  (h : P σ) : PIo P (oj_X7_readQualTerm_17 n call κ  x0 x1 σ) := by
  unfold oj_X7_readQualTerm_17
  repeat' (with_reducible (first | assumption | (refine PIoO_gd ?_) | (refine PIoO_pf hP ?_ (by decide) (by with_unfolding_all rfl) (fun _ _ => ?_)) | (refine PIoO_si hP ?_ (fun _ _ => ?_)) | (refine PIoO_sj hP ?_ (fun _ _ => ?_)) | (refine PIoO_sr hP ?_ (fun _ _ => ?_)) | (refine PIoO_cy hP ?_ (fun _ _ => ?_)) | (refine PIoO_bn (fun _ => ?_)) | (refine PIoO_na hP ?_ (fun _ _ => ?_)) | (refine PIoO_no hP ?_ (fun _ _ => ?_)) | (refine PIoO_ite ?_ ?_) | (refine PIoO_some ?_) | (exact PIoO_none) | (refine PIoO_cv (cQoO.c105 hc _ _ ?_) (fun _ _ => ?_)) | (refine PIoO_in (cQoO.c104 hc _ _ ?_) (fun _ _ _ => ?_)) | (refine pioO_oj_X7_readQualTerm_59 hP hc  ?_) | (refine pioO_oj_X7_readQualTerm_78 hP hc  ?_)))
theorem pioO_ob_X7_readQualTerm  {x0 : Option Nat} {σ : oSt} (hP : iKptO P) (hc : cQoO P call)  (h : P σ) : PIo P (ob_X7_readQualTerm n call κ  x0 σ) := by
  unfold ob_X7_readQualTerm
  repeat' (with_reducible (first | assumption | (refine PIoO_gd ?_) | (refine PIoO_pf hP ?_ (by decide) (by with_unfolding_all rfl) (fun _ _ => ?_)) | (refine PIoO_si hP ?_ (fun _ _ => ?_)) | (refine PIoO_sj hP ?_ (fun _ _ => ?_)) | (refine PIoO_sr hP ?_ (fun _ _ => ?_)) | (refine PIoO_cy hP ?_ (fun _ _ => ?_)) | (refine PIoO_bn (fun _ => ?_)) | (refine PIoO_na hP ?_ (fun _ _ => ?_)) | (refine PIoO_no hP ?_ (fun _ _ => ?_)) | (refine PIoO_ite ?_ ?_) | (refine PIoO_some ?_) | (exact PIoO_none) | (refine PIoO_cv (cQoO.c105 hc _ _ ?_) (fun _ _ => ?_)) | (refine PIoO_in (cQoO.c104 hc _ _ ?_) (fun _ _ _ => ?_)) | (refine pioO_oj_X7_readQualTerm_17 hP hc  ?_)))
theorem pioO_oj_X7_readQual_98  {x0 : Option Nat} {σ : oSt} (hP : iKptO P) (hc : cQoO P call)  (h : P σ) : PIo P (oj_X7_readQual_98 n call κ  x0 σ) := by
  unfold oj_X7_readQual_98
  repeat' (with_reducible (first | assumption | (refine PIoO_gd ?_) | (refine PIoO_pf hP ?_ (by decide) (by with_unfolding_all rfl) (fun _ _ => ?_)) | (refine PIoO_si hP ?_ (fun _ _ => ?_)) | (refine PIoO_sj hP ?_ (fun _ _ => ?_)) | (refine PIoO_sr hP ?_ (fun _ _ => ?_)) | (refine PIoO_cy hP ?_ (fun _ _ => ?_)) | (refine PIoO_bn (fun _ => ?_)) | (refine PIoO_na hP ?_ (fun _ _ => ?_)) | (refine PIoO_no hP ?_ (fun _ _ => ?_)) | (refine PIoO_ite ?_ ?_) | (refine PIoO_some ?_) | (exact PIoO_none) | (refine PIoO_cv (cQoO.c108 hc _ _ _ ?_) (fun _ _ => ?_)) | (refine PIoO_cv (cQoO.c111 hc _ _ ?_) (fun _ _ => ?_))))
theorem pioO_oj_X7_readQual_51  {x0 : Option Nat} {σ : oSt} (hP : iKptO P) (hc : cQoO P call)  (h : P σ) : PIo P (oj_X7_readQual_51 n call κ  x0 σ) := by
  unfold oj_X7_readQual_51
  repeat' (with_reducible (first | assumption | (refine PIoO_gd ?_) | (refine PIoO_pf hP ?_ (by decide) (by with_unfolding_all rfl) (fun _ _ => ?_)) | (refine PIoO_si hP ?_ (fun _ _ => ?_)) | (refine PIoO_sj hP ?_ (fun _ _ => ?_)) | (refine PIoO_sr hP ?_ (fun _ _ => ?_)) | (refine PIoO_cy hP ?_ (fun _ _ => ?_)) | (refine PIoO_bn (fun _ => ?_)) | (refine PIoO_na hP ?_ (fun _ _ => ?_)) | (refine PIoO_no hP ?_ (fun _ _ => ?_)) | (refine PIoO_ite ?_ ?_) | (refine PIoO_some ?_) | (exact PIoO_none) | (refine PIoO_cv (cQoO.c105 hc _ _ ?_) (fun _ _ => ?_)) | (refine PIoO_cv (cQoO.c107 hc _ _ ?_) (fun _ _ => ?_)) | (refine PIoO_cv (cQoO.c108 hc _ _ _ ?_) (fun _ _ => ?_)) | (refine PIoO_in (cQoO.c104 hc _ _ ?_) (fun _ _ _ => ?_)) | (refine PIoO_in (cQoO.c109 hc _ _ ?_) (fun _ _ _ => ?_)) | (refine pioO_oj_X7_readQual_98 hP hc  ?_)))
theorem pioO_oj_X7_readQual_30  {x0 : Option Nat} {x1 : Int32} {σ : oSt} (hP : iKptO P) (hc : cQoO P call)  (h : P σ) : PIo P (oj_X7_readQual_30 n call κ  x0 x1 σ) := by
  unfold oj_X7_readQual_30
  repeat' (with_reducible (first | assumption | (refine PIoO_gd ?_) | (refine PIoO_pf hP ?_ (by decide) (by with_unfolding_all rfl) (fun _ _ => ?_)) | (refine PIoO_si hP ?_ (fun _ _ => ?_)) | (refine PIoO_sj hP ?_ (fun _ _ => ?_)) | (refine PIoO_sr hP ?_ (fun _ _ => ?_)) | (refine PIoO_cy hP ?_ (fun _ _ => ?_)) | (refine PIoO_bn (fun _ => ?_)) | (refine PIoO_na hP ?_ (fun _ _ => ?_)) | (refine PIoO_no hP ?_ (fun _ _ => ?_)) | (refine PIoO_ite ?_ ?_) | (refine PIoO_some ?_) | (exact PIoO_none) | (refine PIoO_cv (cQoO.c105 hc _ _ ?_) (fun _ _ => ?_)) | (refine pioO_oj_X7_readQual_51 hP hc  ?_)))
theorem pioO_ob_X7_readQual  {x0 : Option Nat} {σ : oSt} (hP : iKptO P) (hc : cQoO P call)  (h : P σ) : PIo P (ob_X7_readQual n call κ  x0 σ) := by
  unfold ob_X7_readQual
  repeat' (with_reducible (first | assumption | (refine PIoO_gd ?_) | (refine PIoO_pf hP ?_ (by decide) (by with_unfolding_all rfl) (fun _ _ => ?_)) | (refine PIoO_si hP ?_ (fun _ _ => ?_)) | (refine PIoO_sj hP ?_ (fun _ _ => ?_)) | (refine PIoO_sr hP ?_ (fun _ _ => ?_)) | (refine PIoO_cy hP ?_ (fun _ _ => ?_)) | (refine PIoO_bn (fun _ => ?_)) | (refine PIoO_na hP ?_ (fun _ _ => ?_)) | (refine PIoO_no hP ?_ (fun _ _ => ?_)) | (refine PIoO_ite ?_ ?_) | (refine PIoO_some ?_) | (exact PIoO_none) | (refine PIoO_cv (cQoO.c105 hc _ _ ?_) (fun _ _ => ?_)) | (refine PIoO_cv (cQoO.c107 hc _ _ ?_) (fun _ _ => ?_)) | (refine PIoO_in (cQoO.c104 hc _ _ ?_) (fun _ _ _ => ?_)) | (refine pioO_oj_X7_readQual_30 hP hc  ?_) | (refine pioO_oj_X7_readQual_51 hP hc  ?_)))
theorem pioO_ob_X11_textOf  {x0 : Option Nat} {x1 : Int32} {σ : oSt} (hP : iKptO P) (hc : cQoO P call)  (h : P σ) : PIo P (ob_X11_textOf n call κ  x0 x1 σ) := by
  unfold ob_X11_textOf
  repeat' (with_reducible (first | assumption | (refine PIoO_gd ?_) | (refine PIoO_pf hP ?_ (by decide) (by with_unfolding_all rfl) (fun _ _ => ?_)) | (refine PIoO_si hP ?_ (fun _ _ => ?_)) | (refine PIoO_sj hP ?_ (fun _ _ => ?_)) | (refine PIoO_sr hP ?_ (fun _ _ => ?_)) | (refine PIoO_cy hP ?_ (fun _ _ => ?_)) | (refine PIoO_bn (fun _ => ?_)) | (refine PIoO_na hP ?_ (fun _ _ => ?_)) | (refine PIoO_no hP ?_ (fun _ _ => ?_)) | (refine PIoO_ite ?_ ?_) | (refine PIoO_some ?_) | (exact PIoO_none) | (refine PIoO_rn (cQoO.c209 hc _ _ _ _ ?_) (fun _ _ _ => ?_))))
theorem pioO_ol_X7_counts_2  (hP : iKptO P) (hc : cQoO P call)  : ∀ (t : Nat) (x0 : Option Nat) (x1 : Option Nat) (x2 : Int32) (σ : oSt), P σ → PIo P (ol_X7_counts_2 n call κ  t x0 x1 x2 σ) := by
  intro t
  induction t with
  | zero => intros; exact PIoO_none
  | succ t ih =>
    intro x0 x1 x2 σ h
    rw [ol_X7_counts_2]
    repeat' (with_reducible (first | assumption | (refine PIoO_gd ?_) | (refine PIoO_pf hP ?_ (by decide) (by with_unfolding_all rfl) (fun _ _ => ?_)) | (refine PIoO_si hP ?_ (fun _ _ => ?_)) | (refine PIoO_sj hP ?_ (fun _ _ => ?_)) | (refine PIoO_sr hP ?_ (fun _ _ => ?_)) | (refine PIoO_cy hP ?_ (fun _ _ => ?_)) | (refine PIoO_bn (fun _ => ?_)) | (refine PIoO_na hP ?_ (fun _ _ => ?_)) | (refine PIoO_no hP ?_ (fun _ _ => ?_)) | (refine PIoO_ite ?_ ?_) | (refine PIoO_some ?_) | (exact PIoO_none) | (refine PIoO_in (cQoO.c217 hc _ _ _ ?_) (fun _ _ _ => ?_)) | (refine ih _ _ _ _ ?_)))
theorem pioO_ob_X7_counts  {x0 : Option Nat} {x1 : Option Nat} {σ : oSt} (hP : iKptO P) (hc : cQoO P call)  (h : P σ) : PIo P (ob_X7_counts n call κ  x0 x1 σ) := by
  unfold ob_X7_counts
  repeat' (with_reducible (first | assumption | (refine PIoO_gd ?_) | (refine PIoO_pf hP ?_ (by decide) (by with_unfolding_all rfl) (fun _ _ => ?_)) | (refine PIoO_si hP ?_ (fun _ _ => ?_)) | (refine PIoO_sj hP ?_ (fun _ _ => ?_)) | (refine PIoO_sr hP ?_ (fun _ _ => ?_)) | (refine PIoO_cy hP ?_ (fun _ _ => ?_)) | (refine PIoO_bn (fun _ => ?_)) | (refine PIoO_na hP ?_ (fun _ _ => ?_)) | (refine PIoO_no hP ?_ (fun _ _ => ?_)) | (refine PIoO_ite ?_ ?_) | (refine PIoO_some ?_) | (exact PIoO_none) | (refine pioO_ol_X7_counts_2 hP hc  _ _ _ _ _ ?_)))
theorem pioO_oj_X7_tell_82  {x0 : Option Nat} {x1 : Option Nat} {σ : oSt} (hP : iKptO P) (hc : cQoO P call)  (h : P σ) : PIo P (oj_X7_tell_82 n call κ  x0 x1 σ) := by
  unfold oj_X7_tell_82
  repeat' (with_reducible (first | assumption | (refine PIoO_gd ?_) | (refine PIoO_pf hP ?_ (by decide) (by with_unfolding_all rfl) (fun _ _ => ?_)) | (refine PIoO_si hP ?_ (fun _ _ => ?_)) | (refine PIoO_sj hP ?_ (fun _ _ => ?_)) | (refine PIoO_sr hP ?_ (fun _ _ => ?_)) | (refine PIoO_cy hP ?_ (fun _ _ => ?_)) | (refine PIoO_bn (fun _ => ?_)) | (refine PIoO_na hP ?_ (fun _ _ => ?_)) | (refine PIoO_no hP ?_ (fun _ _ => ?_)) | (refine PIoO_ite ?_ ?_) | (refine PIoO_some ?_) | (exact PIoO_none) | (refine PIoO_cv (cQoO.c105 hc _ _ ?_) (fun _ _ => ?_)) | (refine PIoO_in (cQoO.c227 hc _ _ _ ?_) (fun _ _ _ => ?_))))
theorem pioO_oj_X7_tell_74  {x0 : Option Nat} {x1 : Option Nat} {σ : oSt} (hP : iKptO P) (hc : cQoO P call)  (h : P σ) : PIo P (oj_X7_tell_74 n call κ  x0 x1 σ) := by
  unfold oj_X7_tell_74
  repeat' (with_reducible (first | assumption | (refine PIoO_gd ?_) | (refine PIoO_pf hP ?_ (by decide) (by with_unfolding_all rfl) (fun _ _ => ?_)) | (refine PIoO_si hP ?_ (fun _ _ => ?_)) | (refine PIoO_sj hP ?_ (fun _ _ => ?_)) | (refine PIoO_sr hP ?_ (fun _ _ => ?_)) | (refine PIoO_cy hP ?_ (fun _ _ => ?_)) | (refine PIoO_bn (fun _ => ?_)) | (refine PIoO_na hP ?_ (fun _ _ => ?_)) | (refine PIoO_no hP ?_ (fun _ _ => ?_)) | (refine PIoO_ite ?_ ?_) | (refine PIoO_some ?_) | (exact PIoO_none) | (refine PIoO_in (cQoO.c106 hc _ _ ?_) (fun _ _ _ => ?_)) | (refine pioO_oj_X7_tell_82 hP hc  ?_)))
theorem pioO_ob_X7_tell  {x0 : Option Nat} {σ : oSt} (hP : iKptO P) (hc : cQoO P call)  (h : P σ) : PIo P (ob_X7_tell n call κ  x0 σ) := by
  unfold ob_X7_tell
  repeat' (with_reducible (first | assumption | (refine PIoO_gd ?_) | (refine PIoO_pf hP ?_ (by decide) (by with_unfolding_all rfl) (fun _ _ => ?_)) | (refine PIoO_si hP ?_ (fun _ _ => ?_)) | (refine PIoO_sj hP ?_ (fun _ _ => ?_)) | (refine PIoO_sr hP ?_ (fun _ _ => ?_)) | (refine PIoO_cy hP ?_ (fun _ _ => ?_)) | (refine PIoO_bn (fun _ => ?_)) | (refine PIoO_na hP ?_ (fun _ _ => ?_)) | (refine PIoO_no hP ?_ (fun _ _ => ?_)) | (refine PIoO_ite ?_ ?_) | (refine PIoO_some ?_) | (exact PIoO_none) | (refine PIoO_cv (cQoO.c7 hc _ _ _ _ ?_) (fun _ _ => ?_)) | (refine PIoO_cv (cQoO.c107 hc _ _ ?_) (fun _ _ => ?_)) | (refine PIoO_in (cQoO.c104 hc _ _ ?_) (fun _ _ _ => ?_)) | (refine PIoO_rn (cQoO.c113 hc _ _ _ ?_) (fun _ _ _ => ?_)) | (refine PIoO_rn (cQoO.c114 hc _ _ _ ?_) (fun _ _ _ => ?_)) | (refine pioO_oj_X7_tell_82 hP hc  ?_) | (refine pioO_oj_X7_tell_74 hP hc  ?_)))
theorem pioO_oj_X7_count_27  {x0 : Option Nat} {σ : oSt} (hP : iKptO P) (hc : cQoO P call)  (h : P σ) : PIo P (oj_X7_count_27 n call κ  x0 σ) := by
  unfold oj_X7_count_27
  repeat' (with_reducible (first | assumption | (refine PIoO_gd ?_) | (refine PIoO_pf hP ?_ (by decide) (by with_unfolding_all rfl) (fun _ _ => ?_)) | (refine PIoO_si hP ?_ (fun _ _ => ?_)) | (refine PIoO_sj hP ?_ (fun _ _ => ?_)) | (refine PIoO_sr hP ?_ (fun _ _ => ?_)) | (refine PIoO_cy hP ?_ (fun _ _ => ?_)) | (refine PIoO_bn (fun _ => ?_)) | (refine PIoO_na hP ?_ (fun _ _ => ?_)) | (refine PIoO_no hP ?_ (fun _ _ => ?_)) | (refine PIoO_ite ?_ ?_) | (refine PIoO_some ?_) | (exact PIoO_none)))
theorem pioO_ob_X7_count  {x0 : Option Nat} {x1 : Option Nat} {σ : oSt} (hP : iKptO P) (hc : cQoO P call)  (h : P σ) : PIo P (ob_X7_count n call κ  x0 x1 σ) := by
  unfold ob_X7_count
  repeat' (with_reducible (first | assumption | (refine PIoO_gd ?_) | (refine PIoO_pf hP ?_ (by decide) (by with_unfolding_all rfl) (fun _ _ => ?_)) | (refine PIoO_si hP ?_ (fun _ _ => ?_)) | (refine PIoO_sj hP ?_ (fun _ _ => ?_)) | (refine PIoO_sr hP ?_ (fun _ _ => ?_)) | (refine PIoO_cy hP ?_ (fun _ _ => ?_)) | (refine PIoO_bn (fun _ => ?_)) | (refine PIoO_na hP ?_ (fun _ _ => ?_)) | (refine PIoO_no hP ?_ (fun _ _ => ?_)) | (refine PIoO_ite ?_ ?_) | (refine PIoO_some ?_) | (exact PIoO_none) | (refine pioO_oj_X7_count_27 hP hc  ?_)))
theorem pioO_oj_X7_readInput_57  {x0 : Option Nat} {x1 : Option Nat} {σ : oSt} (hP : iKptO P) (hc : cQoO P call)  (h : P σ) : PIo P (oj_X7_readInput_57 n call κ  x0 x1 σ) := by
  unfold oj_X7_readInput_57
  repeat' (with_reducible (first | assumption | (refine PIoO_gd ?_) | (refine PIoO_pf hP ?_ (by decide) (by with_unfolding_all rfl) (fun _ _ => ?_)) | (refine PIoO_si hP ?_ (fun _ _ => ?_)) | (refine PIoO_sj hP ?_ (fun _ _ => ?_)) | (refine PIoO_sr hP ?_ (fun _ _ => ?_)) | (refine PIoO_cy hP ?_ (fun _ _ => ?_)) | (refine PIoO_bn (fun _ => ?_)) | (refine PIoO_na hP ?_ (fun _ _ => ?_)) | (refine PIoO_no hP ?_ (fun _ _ => ?_)) | (refine PIoO_ite ?_ ?_) | (refine PIoO_some ?_) | (exact PIoO_none) | (refine PIoO_cv (cQoO.c108 hc _ _ _ ?_) (fun _ _ => ?_)) | (refine PIoO_cv (cQoO.c116 hc _ _ _ ?_) (fun _ _ => ?_))))
theorem pioO_oj_X7_readInput_41  {x0 : Option Nat} {x1 : Option Nat} {x2 : Int32} {σ : oSt} (hP : iKptO P) (hc : cQoO P call)  (h : P σ) : PIo P (oj_X7_readInput_41 n call κ  x0 x1 x2 σ) := by
  unfold oj_X7_readInput_41
  repeat' (with_reducible (first | assumption | (refine PIoO_gd ?_) | (refine PIoO_pf hP ?_ (by decide) (by with_unfolding_all rfl) (fun _ _ => ?_)) | (refine PIoO_si hP ?_ (fun _ _ => ?_)) | (refine PIoO_sj hP ?_ (fun _ _ => ?_)) | (refine PIoO_sr hP ?_ (fun _ _ => ?_)) | (refine PIoO_cy hP ?_ (fun _ _ => ?_)) | (refine PIoO_bn (fun _ => ?_)) | (refine PIoO_na hP ?_ (fun _ _ => ?_)) | (refine PIoO_no hP ?_ (fun _ _ => ?_)) | (refine PIoO_ite ?_ ?_) | (refine PIoO_some ?_) | (exact PIoO_none) | (refine PIoO_cv (cQoO.c105 hc _ _ ?_) (fun _ _ => ?_)) | (refine pioO_oj_X7_readInput_57 hP hc  ?_)))
theorem pioO_ob_X7_readInput  {x0 : Option Nat} {σ : oSt} (hP : iKptO P) (hc : cQoO P call)  (h : P σ) : PIo P (ob_X7_readInput n call κ  x0 σ) := by
  unfold ob_X7_readInput
  repeat' (with_reducible (first | assumption | (refine PIoO_gd ?_) | (refine PIoO_pf hP ?_ (by decide) (by with_unfolding_all rfl) (fun _ _ => ?_)) | (refine PIoO_si hP ?_ (fun _ _ => ?_)) | (refine PIoO_sj hP ?_ (fun _ _ => ?_)) | (refine PIoO_sr hP ?_ (fun _ _ => ?_)) | (refine PIoO_cy hP ?_ (fun _ _ => ?_)) | (refine PIoO_bn (fun _ => ?_)) | (refine PIoO_na hP ?_ (fun _ _ => ?_)) | (refine PIoO_no hP ?_ (fun _ _ => ?_)) | (refine PIoO_ite ?_ ?_) | (refine PIoO_some ?_) | (exact PIoO_none) | (refine PIoO_cv (cQoO.c105 hc _ _ ?_) (fun _ _ => ?_)) | (refine PIoO_cv (cQoO.c107 hc _ _ ?_) (fun _ _ => ?_)) | (refine PIoO_cv (cQoO.c108 hc _ _ _ ?_) (fun _ _ => ?_)) | (refine PIoO_in (cQoO.c104 hc _ _ ?_) (fun _ _ _ => ?_)) | (refine PIoO_rn (cQoO.c115 hc _ _ ?_) (fun _ _ _ => ?_)) | (refine pioO_oj_X7_readInput_41 hP hc  ?_) | (refine pioO_oj_X7_readInput_57 hP hc  ?_)))
theorem pioO_ob_X7_node  {x0 : Option Nat} {x1 : Int32} {σ : oSt} (hP : iKptO P) (hc : cQoO P call)  (h : P σ) : PIo P (ob_X7_node n call κ  x0 x1 σ) := by
  unfold ob_X7_node
  repeat' (with_reducible (first | assumption | (refine PIoO_gd ?_) | (refine PIoO_pf hP ?_ (by decide) (by with_unfolding_all rfl) (fun _ _ => ?_)) | (refine PIoO_si hP ?_ (fun _ _ => ?_)) | (refine PIoO_sj hP ?_ (fun _ _ => ?_)) | (refine PIoO_sr hP ?_ (fun _ _ => ?_)) | (refine PIoO_cy hP ?_ (fun _ _ => ?_)) | (refine PIoO_bn (fun _ => ?_)) | (refine PIoO_na hP ?_ (fun _ _ => ?_)) | (refine PIoO_no hP ?_ (fun _ _ => ?_)) | (refine PIoO_ite ?_ ?_) | (refine PIoO_some ?_) | (exact PIoO_none) | (refine PIoO_cv (cQoO.c102 hc _ _ _ _ _ ?_) (fun _ _ => ?_)) | (refine PIoO_in (cQoO.c106 hc _ _ ?_) (fun _ _ _ => ?_))))
theorem pioO_oj_X7_use_49  {x0 : Option Nat} {x1 : Option Nat} {σ : oSt} (hP : iKptO P) (hc : cQoO P call)  (h : P σ) : PIo P (oj_X7_use_49 n call κ  x0 x1 σ) := by
  unfold oj_X7_use_49
  repeat' (with_reducible (first | assumption | (refine PIoO_gd ?_) | (refine PIoO_pf hP ?_ (by decide) (by with_unfolding_all rfl) (fun _ _ => ?_)) | (refine PIoO_si hP ?_ (fun _ _ => ?_)) | (refine PIoO_sj hP ?_ (fun _ _ => ?_)) | (refine PIoO_sr hP ?_ (fun _ _ => ?_)) | (refine PIoO_cy hP ?_ (fun _ _ => ?_)) | (refine PIoO_bn (fun _ => ?_)) | (refine PIoO_na hP ?_ (fun _ _ => ?_)) | (refine PIoO_no hP ?_ (fun _ _ => ?_)) | (refine PIoO_ite ?_ ?_) | (refine PIoO_some ?_) | (exact PIoO_none) | (refine PIoO_cv (cQoO.c105 hc _ _ ?_) (fun _ _ => ?_))))
theorem pioO_ob_X7_use  {x0 : Option Nat} {σ : oSt} (hP : iKptO P) (hc : cQoO P call)  (h : P σ) : PIo P (ob_X7_use n call κ  x0 σ) := by
  unfold ob_X7_use
  repeat' (with_reducible (first | assumption | (refine PIoO_gd ?_) | (refine PIoO_pf hP ?_ (by decide) (by with_unfolding_all rfl) (fun _ _ => ?_)) | (refine PIoO_si hP ?_ (fun _ _ => ?_)) | (refine PIoO_sj hP ?_ (fun _ _ => ?_)) | (refine PIoO_sr hP ?_ (fun _ _ => ?_)) | (refine PIoO_cy hP ?_ (fun _ _ => ?_)) | (refine PIoO_bn (fun _ => ?_)) | (refine PIoO_na hP ?_ (fun _ _ => ?_)) | (refine PIoO_no hP ?_ (fun _ _ => ?_)) | (refine PIoO_ite ?_ ?_) | (refine PIoO_some ?_) | (exact PIoO_none) | (refine PIoO_cv (cQoO.c107 hc _ _ ?_) (fun _ _ => ?_)) | (refine PIoO_in (cQoO.c104 hc _ _ ?_) (fun _ _ _ => ?_)) | (refine PIoO_in (cQoO.c106 hc _ _ ?_) (fun _ _ _ => ?_)) | (refine PIoO_rn (cQoO.c113 hc _ _ _ ?_) (fun _ _ _ => ?_)) | (refine PIoO_rn (cQoO.c114 hc _ _ _ ?_) (fun _ _ _ => ?_)) | (refine pioO_oj_X7_use_49 hP hc  ?_)))
theorem pioO_oj_X7_sum__260 {k43 : Option Nat → Int32 → Option Nat → Int32 → Int32 → oSt → oRs} {x0 : Option Nat} {x1 : Int32} {x2 : Option Nat} {x4 : Int32} {t0 : Int32} {σ : oSt} (hP : iKptO P) (hc : cQoO P call) (hk43 : ∀ (a0 : Option Nat) (a1 : Int32) (a2 : Option Nat) (a3 : Int32) (a4 : Int32), ∀ σ, P σ → PIo P (k43 a0 a1 a2 a3 a4 σ)) (h : P σ) : PIo P (oj_X7_sum__260 n call κ k43 x0 x1 x2 x4 t0 σ) := by
  unfold oj_X7_sum__260
  repeat' (with_reducible (first | assumption | (refine PIoO_gd ?_) | (refine PIoO_pf hP ?_ (by decide) (by with_unfolding_all rfl) (fun _ _ => ?_)) | (refine PIoO_si hP ?_ (fun _ _ => ?_)) | (refine PIoO_sj hP ?_ (fun _ _ => ?_)) | (refine PIoO_sr hP ?_ (fun _ _ => ?_)) | (refine PIoO_cy hP ?_ (fun _ _ => ?_)) | (refine PIoO_bn (fun _ => ?_)) | (refine PIoO_na hP ?_ (fun _ _ => ?_)) | (refine PIoO_no hP ?_ (fun _ _ => ?_)) | (refine PIoO_ite ?_ ?_) | (refine PIoO_some ?_) | (exact PIoO_none) | (refine hk43 _ _ _ _ _ _ ?_)))
theorem pioO_oj_X7_sum__255 {k43 : Option Nat → Int32 → Option Nat → Int32 → Int32 → oSt → oRs} {x0 : Option Nat} {x1 : Int32} {x2 : Option Nat} {x4 : Int32} {σ : oSt} (hP : iKptO P) (hc : cQoO P call) (hk43 : ∀ (a0 : Option Nat) (a1 : Int32) (a2 : Option Nat) (a3 : Int32) (a4 : Int32), ∀ σ, P σ → PIo P (k43 a0 a1 a2 a3 a4 σ)) (h : P σ) : PIo P (oj_X7_sum__255 n call κ k43 x0 x1 x2 x4 σ) := by
  unfold oj_X7_sum__255
  repeat' (with_reducible (first | assumption | (refine PIoO_gd ?_) | (refine PIoO_pf hP ?_ (by decide) (by with_unfolding_all rfl) (fun _ _ => ?_)) | (refine PIoO_si hP ?_ (fun _ _ => ?_)) | (refine PIoO_sj hP ?_ (fun _ _ => ?_)) | (refine PIoO_sr hP ?_ (fun _ _ => ?_)) | (refine PIoO_cy hP ?_ (fun _ _ => ?_)) | (refine PIoO_bn (fun _ => ?_)) | (refine PIoO_na hP ?_ (fun _ _ => ?_)) | (refine PIoO_no hP ?_ (fun _ _ => ?_)) | (refine PIoO_ite ?_ ?_) | (refine PIoO_some ?_) | (exact PIoO_none) | (refine pioO_oj_X7_sum__260 hP hc hk43 ?_) | (refine hk43 _ _ _ _ _ _ ?_)))
theorem pioO_oj_X7_sum__237 {k43 : Option Nat → Int32 → Option Nat → Int32 → Int32 → oSt → oRs} {x0 : Option Nat} {x1 : Int32} {x2 : Option Nat} {x4 : Int32} {σ : oSt} (hP : iKptO P) (hc : cQoO P call) (hk43 : ∀ (a0 : Option Nat) (a1 : Int32) (a2 : Option Nat) (a3 : Int32) (a4 : Int32), ∀ σ, P σ → PIo P (k43 a0 a1 a2 a3 a4 σ)) (h : P σ) : PIo P (oj_X7_sum__237 n call κ k43 x0 x1 x2 x4 σ) := by
  unfold oj_X7_sum__237
  repeat' (with_reducible (first | assumption | (refine PIoO_gd ?_) | (refine PIoO_pf hP ?_ (by decide) (by with_unfolding_all rfl) (fun _ _ => ?_)) | (refine PIoO_si hP ?_ (fun _ _ => ?_)) | (refine PIoO_sj hP ?_ (fun _ _ => ?_)) | (refine PIoO_sr hP ?_ (fun _ _ => ?_)) | (refine PIoO_cy hP ?_ (fun _ _ => ?_)) | (refine PIoO_bn (fun _ => ?_)) | (refine PIoO_na hP ?_ (fun _ _ => ?_)) | (refine PIoO_no hP ?_ (fun _ _ => ?_)) | (refine PIoO_ite ?_ ?_) | (refine PIoO_some ?_) | (exact PIoO_none) | (refine PIoO_in (cQoO.c104 hc _ _ ?_) (fun _ _ _ => ?_)) | (refine pioO_oj_X7_sum__255 hP hc hk43 ?_) | (refine pioO_oj_X7_sum__260 hP hc hk43 ?_) | (refine hk43 _ _ _ _ _ _ ?_)))
theorem pioO_oj_X7_sum__190 {k43 : Option Nat → Int32 → Option Nat → Int32 → Int32 → oSt → oRs} {x0 : Option Nat} {x1 : Int32} {x2 : Option Nat} {x4 : Int32} {x5 : Int32} {t0 : Option Nat} {t1 : Int32} {σ : oSt} (hP : iKptO P) (hc : cQoO P call) (hk43 : ∀ (a0 : Option Nat) (a1 : Int32) (a2 : Option Nat) (a3 : Int32) (a4 : Int32), ∀ σ, P σ → PIo P (k43 a0 a1 a2 a3 a4 σ)) (h : P σ) : PIo P (oj_X7_sum__190 n call κ k43 x0 x1 x2 x4 x5 t0 t1 σ) := by
  unfold oj_X7_sum__190
  repeat' (with_reducible (first | assumption | (refine PIoO_gd ?_) | (refine PIoO_pf hP ?_ (by decide) (by with_unfolding_all rfl) (fun _ _ => ?_)) | (refine PIoO_si hP ?_ (fun _ _ => ?_)) | (refine PIoO_sj hP ?_ (fun _ _ => ?_)) | (refine PIoO_sr hP ?_ (fun _ _ => ?_)) | (refine PIoO_cy hP ?_ (fun _ _ => ?_)) | (refine PIoO_bn (fun _ => ?_)) | (refine PIoO_na hP ?_ (fun _ _ => ?_)) | (refine PIoO_no hP ?_ (fun _ _ => ?_)) | (refine PIoO_ite ?_ ?_) | (refine PIoO_some ?_) | (exact PIoO_none) | (refine PIoO_cv (cQoO.c10 hc _ _ _ _ ?_) (fun _ _ => ?_)) | (refine PIoO_in (cQoO.c227 hc _ _ _ ?_) (fun _ _ _ => ?_)) | (refine PIoO_rn (cQoO.c118 hc _ _ _ ?_) (fun _ _ _ => ?_)) | (refine PIoO_rn (cQoO.c119 hc _ _ ?_) (fun _ _ _ => ?_)) | (refine pioO_oj_X7_sum__237 hP hc hk43 ?_) | (refine hk43 _ _ _ _ _ _ ?_)))
theorem pioO_oj_X7_sum__158 {k43 : Option Nat → Int32 → Option Nat → Int32 → Int32 → oSt → oRs} {x0 : Option Nat} {x1 : Int32} {x2 : Option Nat} {x4 : Int32} {x5 : Int32} {x6 : Int32} {σ : oSt} (hP : iKptO P) (hc : cQoO P call) (hk43 : ∀ (a0 : Option Nat) (a1 : Int32) (a2 : Option Nat) (a3 : Int32) (a4 : Int32), ∀ σ, P σ → PIo P (k43 a0 a1 a2 a3 a4 σ)) (h : P σ) : PIo P (oj_X7_sum__158 n call κ k43 x0 x1 x2 x4 x5 x6 σ) := by
  unfold oj_X7_sum__158
  repeat' (with_reducible (first | assumption | (refine PIoO_gd ?_) | (refine PIoO_pf hP ?_ (by decide) (by with_unfolding_all rfl) (fun _ _ => ?_)) | (refine PIoO_si hP ?_ (fun _ _ => ?_)) | (refine PIoO_sj hP ?_ (fun _ _ => ?_)) | (refine PIoO_sr hP ?_ (fun _ _ => ?_)) | (refine PIoO_cy hP ?_ (fun _ _ => ?_)) | (refine PIoO_bn (fun _ => ?_)) | (refine PIoO_na hP ?_ (fun _ _ => ?_)) | (refine PIoO_no hP ?_ (fun _ _ => ?_)) | (refine PIoO_ite ?_ ?_) | (refine PIoO_some ?_) | (exact PIoO_none) | (refine pioO_oj_X7_sum__190 hP hc hk43 ?_) | (refine hk43 _ _ _ _ _ _ ?_)))
theorem pioO_oj_X7_sum__154 {k43 : Option Nat → Int32 → Option Nat → Int32 → Int32 → oSt → oRs} {x0 : Option Nat} {x1 : Int32} {x2 : Option Nat} {x4 : Int32} {x5 : Int32} {x6 : Int32} {σ : oSt} (hP : iKptO P) (hc : cQoO P call) (hk43 : ∀ (a0 : Option Nat) (a1 : Int32) (a2 : Option Nat) (a3 : Int32) (a4 : Int32), ∀ σ, P σ → PIo P (k43 a0 a1 a2 a3 a4 σ)) (h : P σ) : PIo P (oj_X7_sum__154 n call κ k43 x0 x1 x2 x4 x5 x6 σ) := by
  unfold oj_X7_sum__154
  repeat' (with_reducible (first | assumption | (refine PIoO_gd ?_) | (refine PIoO_pf hP ?_ (by decide) (by with_unfolding_all rfl) (fun _ _ => ?_)) | (refine PIoO_si hP ?_ (fun _ _ => ?_)) | (refine PIoO_sj hP ?_ (fun _ _ => ?_)) | (refine PIoO_sr hP ?_ (fun _ _ => ?_)) | (refine PIoO_cy hP ?_ (fun _ _ => ?_)) | (refine PIoO_bn (fun _ => ?_)) | (refine PIoO_na hP ?_ (fun _ _ => ?_)) | (refine PIoO_no hP ?_ (fun _ _ => ?_)) | (refine PIoO_ite ?_ ?_) | (refine PIoO_some ?_) | (exact PIoO_none) | (refine PIoO_cv (cQoO.c105 hc _ _ ?_) (fun _ _ => ?_)) | (refine pioO_oj_X7_sum__158 hP hc hk43 ?_) | (refine hk43 _ _ _ _ _ _ ?_)))
theorem pioO_oj_X7_sum__92 {k43 : Option Nat → Int32 → Option Nat → Int32 → Int32 → oSt → oRs} {x0 : Option Nat} {x1 : Int32} {x2 : Option Nat} {x4 : Int32} {x5 : Int32} {σ : oSt} (hP : iKptO P) (hc : cQoO P call) (hk43 : ∀ (a0 : Option Nat) (a1 : Int32) (a2 : Option Nat) (a3 : Int32) (a4 : Int32), ∀ σ, P σ → PIo P (k43 a0 a1 a2 a3 a4 σ)) (h : P σ) : PIo P (oj_X7_sum__92 n call κ k43 x0 x1 x2 x4 x5 σ) := by
  unfold oj_X7_sum__92
  repeat' (with_reducible (first | assumption | (refine PIoO_gd ?_) | (refine PIoO_pf hP ?_ (by decide) (by with_unfolding_all rfl) (fun _ _ => ?_)) | (refine PIoO_si hP ?_ (fun _ _ => ?_)) | (refine PIoO_sj hP ?_ (fun _ _ => ?_)) | (refine PIoO_sr hP ?_ (fun _ _ => ?_)) | (refine PIoO_cy hP ?_ (fun _ _ => ?_)) | (refine PIoO_bn (fun _ => ?_)) | (refine PIoO_na hP ?_ (fun _ _ => ?_)) | (refine PIoO_no hP ?_ (fun _ _ => ?_)) | (refine PIoO_ite ?_ ?_) | (refine PIoO_some ?_) | (exact PIoO_none) | (refine PIoO_cv (cQoO.c105 hc _ _ ?_) (fun _ _ => ?_)) | (refine PIoO_in (cQoO.c104 hc _ _ ?_) (fun _ _ _ => ?_)) | (refine PIoO_in (cQoO.c110 hc _ _ _ ?_) (fun _ _ _ => ?_)) | (refine pioO_oj_X7_sum__237 hP hc hk43 ?_) | (refine pioO_oj_X7_sum__154 hP hc hk43 ?_) | (refine pioO_oj_X7_sum__158 hP hc hk43 ?_) | (refine hk43 _ _ _ _ _ _ ?_)))
theorem pioO_oj_X7_sum__83 {k43 : Option Nat → Int32 → Option Nat → Int32 → Int32 → oSt → oRs} {x0 : Option Nat} {x1 : Int32} {x2 : Option Nat} {x4 : Int32} {x5 : Int32} {σ : oSt} (hP : iKptO P) (hc : cQoO P call) (hk43 : ∀ (a0 : Option Nat) (a1 : Int32) (a2 : Option Nat) (a3 : Int32) (a4 : Int32), ∀ σ, P σ → PIo P (k43 a0 a1 a2 a3 a4 σ)) (h : P σ) : PIo P (oj_X7_sum__83 n call κ k43 x0 x1 x2 x4 x5 σ) := by
  unfold oj_X7_sum__83
  repeat' (with_reducible (first | assumption | (refine PIoO_gd ?_) | (refine PIoO_pf hP ?_ (by decide) (by with_unfolding_all rfl) (fun _ _ => ?_)) | (refine PIoO_si hP ?_ (fun _ _ => ?_)) | (refine PIoO_sj hP ?_ (fun _ _ => ?_)) | (refine PIoO_sr hP ?_ (fun _ _ => ?_)) | (refine PIoO_cy hP ?_ (fun _ _ => ?_)) | (refine PIoO_bn (fun _ => ?_)) | (refine PIoO_na hP ?_ (fun _ _ => ?_)) | (refine PIoO_no hP ?_ (fun _ _ => ?_)) | (refine PIoO_ite ?_ ?_) | (refine PIoO_some ?_) | (exact PIoO_none) | (refine PIoO_cv (cQoO.c105 hc _ _ ?_) (fun _ _ => ?_)) | (refine pioO_oj_X7_sum__92 hP hc hk43 ?_) | (refine hk43 _ _ _ _ _ _ ?_)))
theorem pioO_oj_X7_sum__67 {k43 : Option Nat → Int32 → Option Nat → Int32 → Int32 → oSt → oRs} {x0 : Option Nat} {x1 : Int32} {x2 : Option Nat} {x4 : Int32} {t0 : Int32} {σ : oSt} (hP : iKptO P) (hc : cQoO P call) (hk43 : ∀ (a0 : Option Nat) (a1 : Int32) (a2 : Option Nat) (a3 : Int32) (a4 : Int32), ∀ σ, P σ → PIo P (k43 a0 a1 a2 a3 a4 σ)) (h : P σ) : PIo P (oj_X7_sum__67 n call κ k43 x0 x1 x2 x4 t0 σ) := by
  unfold oj_X7_sum__67
  repeat' (with_reducible (first | assumption | (refine PIoO_gd ?_) | (refine PIoO_pf hP ?_ (by decide) (by with_unfolding_all rfl) (fun _ _ => ?_)) | (refine PIoO_si hP ?_ (fun _ _ => ?_)) | (refine PIoO_sj hP ?_ (fun _ _ => ?_)) | (refine PIoO_sr hP ?_ (fun _ _ => ?_)) | (refine PIoO_cy hP ?_ (fun _ _ => ?_)) | (refine PIoO_bn (fun _ => ?_)) | (refine PIoO_na hP ?_ (fun _ _ => ?_)) | (refine PIoO_no hP ?_ (fun _ _ => ?_)) | (refine PIoO_ite ?_ ?_) | (refine PIoO_some ?_) | (exact PIoO_none) | (refine PIoO_in (cQoO.c104 hc _ _ ?_) (fun _ _ _ => ?_)) | (refine pioO_oj_X7_sum__83 hP hc hk43 ?_) | (refine pioO_oj_X7_sum__92 hP hc hk43 ?_) | (refine hk43 _ _ _ _ _ _ ?_)))
theorem pioO_ol_X7_sum__43  (hP : iKptO P) (hc : cQoO P call)  : ∀ (t : Nat) (x0 : Option Nat) (x1 : Int32) (x2 : Option Nat) (x3 : Int32) (x4 : Int32) (σ : oSt), P σ → PIo P (ol_X7_sum__43 n call κ  t x0 x1 x2 x3 x4 σ) := by
  intro t
  induction t with
  | zero => intros; exact PIoO_none
  | succ t ih =>
    intro x0 x1 x2 x3 x4 σ h
    rw [ol_X7_sum__43]
    repeat' (with_reducible (first | assumption | (refine PIoO_gd ?_) | (refine PIoO_pf hP ?_ (by decide) (by with_unfolding_all rfl) (fun _ _ => ?_)) | (refine PIoO_si hP ?_ (fun _ _ => ?_)) | (refine PIoO_sj hP ?_ (fun _ _ => ?_)) | (refine PIoO_sr hP ?_ (fun _ _ => ?_)) | (refine PIoO_cy hP ?_ (fun _ _ => ?_)) | (refine PIoO_bn (fun _ => ?_)) | (refine PIoO_na hP ?_ (fun _ _ => ?_)) | (refine PIoO_no hP ?_ (fun _ _ => ?_)) | (refine PIoO_ite ?_ ?_) | (refine PIoO_some ?_) | (exact PIoO_none) | (refine PIoO_in (cQoO.c104 hc _ _ ?_) (fun _ _ _ => ?_)) | (refine pioO_oj_X7_sum__67 hP hc ih ?_)))
theorem pioO_ob_X7_sum_  {x0 : Option Nat} {x1 : Int32} {σ : oSt} (hP : iKptO P) (hc : cQoO P call)  (h : P σ) : PIo P (ob_X7_sum_ n call κ  x0 x1 σ) := by
  unfold ob_X7_sum_
  repeat' (with_reducible (first | assumption | (refine PIoO_gd ?_) | (refine PIoO_pf hP ?_ (by decide) (by with_unfolding_all rfl) (fun _ _ => ?_)) | (refine PIoO_si hP ?_ (fun _ _ => ?_)) | (refine PIoO_sj hP ?_ (fun _ _ => ?_)) | (refine PIoO_sr hP ?_ (fun _ _ => ?_)) | (refine PIoO_cy hP ?_ (fun _ _ => ?_)) | (refine PIoO_bn (fun _ => ?_)) | (refine PIoO_na hP ?_ (fun _ _ => ?_)) | (refine PIoO_no hP ?_ (fun _ _ => ?_)) | (refine PIoO_ite ?_ ?_) | (refine PIoO_some ?_) | (exact PIoO_none) | (refine PIoO_cv (cQoO.c8 hc _ _ ?_) (fun _ _ => ?_)) | (refine PIoO_cv (cQoO.c224 hc _ _ ?_) (fun _ _ => ?_)) | (refine PIoO_in (cQoO.c104 hc _ _ ?_) (fun _ _ _ => ?_)) | (refine PIoO_rn (cQoO.c118 hc _ _ _ ?_) (fun _ _ _ => ?_)) | (refine pioO_ol_X7_sum__43 hP hc  _ _ _ _ _ _ _ ?_)))
theorem pioO_ob_X7_sum  {x0 : Option Nat} {σ : oSt} (hP : iKptO P) (hc : cQoO P call)  (h : P σ) : PIo P (ob_X7_sum n call κ  x0 σ) := by
  unfold ob_X7_sum
  repeat' (with_reducible (first | assumption | (refine PIoO_gd ?_) | (refine PIoO_pf hP ?_ (by decide) (by with_unfolding_all rfl) (fun _ _ => ?_)) | (refine PIoO_si hP ?_ (fun _ _ => ?_)) | (refine PIoO_sj hP ?_ (fun _ _ => ?_)) | (refine PIoO_sr hP ?_ (fun _ _ => ?_)) | (refine PIoO_cy hP ?_ (fun _ _ => ?_)) | (refine PIoO_bn (fun _ => ?_)) | (refine PIoO_na hP ?_ (fun _ _ => ?_)) | (refine PIoO_no hP ?_ (fun _ _ => ?_)) | (refine PIoO_ite ?_ ?_) | (refine PIoO_some ?_) | (exact PIoO_none) | (refine PIoO_rn (cQoO.c120 hc _ _ _ ?_) (fun _ _ _ => ?_))))
theorem pioO_oj_X7_blameForm_19  {x0 : Option Nat} {x1 : Int32} {σ : oSt} (hP : iKptO P) (hc : cQoO P call)  (h : P σ) : PIo P (oj_X7_blameForm_19 n call κ  x0 x1 σ) := by
  unfold oj_X7_blameForm_19
  repeat' (with_reducible (first | assumption | (refine PIoO_gd ?_) | (refine PIoO_pf hP ?_ (by decide) (by with_unfolding_all rfl) (fun _ _ => ?_)) | (refine PIoO_si hP ?_ (fun _ _ => ?_)) | (refine PIoO_sj hP ?_ (fun _ _ => ?_)) | (refine PIoO_sr hP ?_ (fun _ _ => ?_)) | (refine PIoO_cy hP ?_ (fun _ _ => ?_)) | (refine PIoO_bn (fun _ => ?_)) | (refine PIoO_na hP ?_ (fun _ _ => ?_)) | (refine PIoO_no hP ?_ (fun _ _ => ?_)) | (refine PIoO_ite ?_ ?_) | (refine PIoO_some ?_) | (exact PIoO_none)))
theorem pioO_ob_X7_blameForm  {x0 : Option Nat} {x1 : Int32} {σ : oSt} (hP : iKptO P) (hc : cQoO P call)  (h : P σ) : PIo P (ob_X7_blameForm n call κ  x0 x1 σ) := by
  unfold ob_X7_blameForm
  repeat' (with_reducible (first | assumption | (refine PIoO_gd ?_) | (refine PIoO_pf hP ?_ (by decide) (by with_unfolding_all rfl) (fun _ _ => ?_)) | (refine PIoO_si hP ?_ (fun _ _ => ?_)) | (refine PIoO_sj hP ?_ (fun _ _ => ?_)) | (refine PIoO_sr hP ?_ (fun _ _ => ?_)) | (refine PIoO_cy hP ?_ (fun _ _ => ?_)) | (refine PIoO_bn (fun _ => ?_)) | (refine PIoO_na hP ?_ (fun _ _ => ?_)) | (refine PIoO_no hP ?_ (fun _ _ => ?_)) | (refine PIoO_ite ?_ ?_) | (refine PIoO_some ?_) | (exact PIoO_none) | (refine pioO_oj_X7_blameForm_19 hP hc  ?_)))
theorem pioO_ob_X7_compare  {x0 : Option Nat} {x1 : Option Nat} {x2 : Int32} {σ : oSt} (hP : iKptO P) (hc : cQoO P call)  (h : P σ) : PIo P (ob_X7_compare n call κ  x0 x1 x2 σ) := by
  unfold ob_X7_compare
  repeat' (with_reducible (first | assumption | (refine PIoO_gd ?_) | (refine PIoO_pf hP ?_ (by decide) (by with_unfolding_all rfl) (fun _ _ => ?_)) | (refine PIoO_si hP ?_ (fun _ _ => ?_)) | (refine PIoO_sj hP ?_ (fun _ _ => ?_)) | (refine PIoO_sr hP ?_ (fun _ _ => ?_)) | (refine PIoO_cy hP ?_ (fun _ _ => ?_)) | (refine PIoO_bn (fun _ => ?_)) | (refine PIoO_na hP ?_ (fun _ _ => ?_)) | (refine PIoO_no hP ?_ (fun _ _ => ?_)) | (refine PIoO_ite ?_ ?_) | (refine PIoO_some ?_) | (exact PIoO_none) | (refine PIoO_rn (cQoO.c118 hc _ _ _ ?_) (fun _ _ _ => ?_))))
theorem pioO_ol_X9_addAll_2  (hP : iKptO P) (hc : cQoO P call)  : ∀ (t : Nat) (x0 : Option Nat) (x1 : Option Nat) (x2 : Int32) (x3 : Int32) (σ : oSt), P σ → PIo P (ol_X9_addAll_2 n call κ  t x0 x1 x2 x3 σ) := by
  intro t
  induction t with
  | zero => intros; exact PIoO_none
  | succ t ih =>
    intro x0 x1 x2 x3 σ h
    rw [ol_X9_addAll_2]
    repeat' (with_reducible (first | assumption | (refine PIoO_gd ?_) | (refine PIoO_pf hP ?_ (by decide) (by with_unfolding_all rfl) (fun _ _ => ?_)) | (refine PIoO_si hP ?_ (fun _ _ => ?_)) | (refine PIoO_sj hP ?_ (fun _ _ => ?_)) | (refine PIoO_sr hP ?_ (fun _ _ => ?_)) | (refine PIoO_cy hP ?_ (fun _ _ => ?_)) | (refine PIoO_bn (fun _ => ?_)) | (refine PIoO_na hP ?_ (fun _ _ => ?_)) | (refine PIoO_no hP ?_ (fun _ _ => ?_)) | (refine PIoO_ite ?_ ?_) | (refine PIoO_some ?_) | (exact PIoO_none) | (refine PIoO_cv (cQoO.c10 hc _ _ _ _ ?_) (fun _ _ => ?_)) | (refine ih _ _ _ _ _ ?_)))
theorem pioO_ob_X9_addAll  {x0 : Option Nat} {x1 : Option Nat} {x2 : Int32} {σ : oSt} (hP : iKptO P) (hc : cQoO P call)  (h : P σ) : PIo P (ob_X9_addAll n call κ  x0 x1 x2 σ) := by
  unfold ob_X9_addAll
  repeat' (with_reducible (first | assumption | (refine PIoO_gd ?_) | (refine PIoO_pf hP ?_ (by decide) (by with_unfolding_all rfl) (fun _ _ => ?_)) | (refine PIoO_si hP ?_ (fun _ _ => ?_)) | (refine PIoO_sj hP ?_ (fun _ _ => ?_)) | (refine PIoO_sr hP ?_ (fun _ _ => ?_)) | (refine PIoO_cy hP ?_ (fun _ _ => ?_)) | (refine PIoO_bn (fun _ => ?_)) | (refine PIoO_na hP ?_ (fun _ _ => ?_)) | (refine PIoO_no hP ?_ (fun _ _ => ?_)) | (refine PIoO_ite ?_ ?_) | (refine PIoO_some ?_) | (exact PIoO_none) | (refine pioO_ol_X9_addAll_2 hP hc  _ _ _ _ _ _ ?_)))
theorem pioO_oj_X7_comparison_72  {x0 : Option Nat} {x1 : Option Nat} {σ : oSt} (hP : iKptO P) (hc : cQoO P call)  (h : P σ) : PIo P (oj_X7_comparison_72 n call κ  x0 x1 σ) := by
  unfold oj_X7_comparison_72
  repeat' (with_reducible (first | assumption | (refine PIoO_gd ?_) | (refine PIoO_pf hP ?_ (by decide) (by with_unfolding_all rfl) (fun _ _ => ?_)) | (refine PIoO_si hP ?_ (fun _ _ => ?_)) | (refine PIoO_sj hP ?_ (fun _ _ => ?_)) | (refine PIoO_sr hP ?_ (fun _ _ => ?_)) | (refine PIoO_cy hP ?_ (fun _ _ => ?_)) | (refine PIoO_bn (fun _ => ?_)) | (refine PIoO_na hP ?_ (fun _ _ => ?_)) | (refine PIoO_no hP ?_ (fun _ _ => ?_)) | (refine PIoO_ite ?_ ?_) | (refine PIoO_some ?_) | (exact PIoO_none) | (refine PIoO_cv (cQoO.c8 hc _ _ ?_) (fun _ _ => ?_)) | (refine PIoO_cv (cQoO.c105 hc _ _ ?_) (fun _ _ => ?_)) | (refine PIoO_cv (cQoO.c122 hc _ _ _ ?_) (fun _ _ => ?_)) | (refine PIoO_cv (cQoO.c124 hc _ _ _ _ ?_) (fun _ _ => ?_)) | (refine PIoO_in (cQoO.c38 hc _ _ ?_) (fun _ _ _ => ?_)) | (refine PIoO_in (cQoO.c104 hc _ _ ?_) (fun _ _ _ => ?_)) | (refine PIoO_in (cQoO.c106 hc _ _ ?_) (fun _ _ _ => ?_)) | (refine PIoO_rn (cQoO.c121 hc _ _ ?_) (fun _ _ _ => ?_))))
theorem pioO_ob_X7_comparison  {x0 : Option Nat} {x1 : Option Nat} {σ : oSt} (hP : iKptO P) (hc : cQoO P call)  (h : P σ) : PIo P (ob_X7_comparison n call κ  x0 x1 σ) := by
  unfold ob_X7_comparison
  repeat' (with_reducible (first | assumption | (refine PIoO_gd ?_) | (refine PIoO_pf hP ?_ (by decide) (by with_unfolding_all rfl) (fun _ _ => ?_)) | (refine PIoO_si hP ?_ (fun _ _ => ?_)) | (refine PIoO_sj hP ?_ (fun _ _ => ?_)) | (refine PIoO_sr hP ?_ (fun _ _ => ?_)) | (refine PIoO_cy hP ?_ (fun _ _ => ?_)) | (refine PIoO_bn (fun _ => ?_)) | (refine PIoO_na hP ?_ (fun _ _ => ?_)) | (refine PIoO_no hP ?_ (fun _ _ => ?_)) | (refine PIoO_ite ?_ ?_) | (refine PIoO_some ?_) | (exact PIoO_none) | (refine PIoO_cv (cQoO.c107 hc _ _ ?_) (fun _ _ => ?_)) | (refine PIoO_in (cQoO.c104 hc _ _ ?_) (fun _ _ _ => ?_)) | (refine PIoO_in (cQoO.c109 hc _ _ ?_) (fun _ _ _ => ?_)) | (refine PIoO_rn (cQoO.c121 hc _ _ ?_) (fun _ _ _ => ?_)) | (refine pioO_oj_X7_comparison_72 hP hc  ?_)))
theorem pioO_ol_X7_both_60  (hP : iKptO P) (hc : cQoO P call)  : ∀ (t : Nat) (x0 : Option Nat) (x1 : Int32) (x2 : Option Nat) (x3 : Int32) (σ : oSt), P σ → PIo P (ol_X7_both_60 n call κ  t x0 x1 x2 x3 σ) := by
  intro t
  induction t with
  | zero => intros; exact PIoO_none
  | succ t ih =>
    intro x0 x1 x2 x3 σ h
    rw [ol_X7_both_60]
    repeat' (with_reducible (first | assumption | (refine PIoO_gd ?_) | (refine PIoO_pf hP ?_ (by decide) (by with_unfolding_all rfl) (fun _ _ => ?_)) | (refine PIoO_si hP ?_ (fun _ _ => ?_)) | (refine PIoO_sj hP ?_ (fun _ _ => ?_)) | (refine PIoO_sr hP ?_ (fun _ _ => ?_)) | (refine PIoO_cy hP ?_ (fun _ _ => ?_)) | (refine PIoO_bn (fun _ => ?_)) | (refine PIoO_na hP ?_ (fun _ _ => ?_)) | (refine PIoO_no hP ?_ (fun _ _ => ?_)) | (refine PIoO_ite ?_ ?_) | (refine PIoO_some ?_) | (exact PIoO_none) | (refine PIoO_cv (cQoO.c105 hc _ _ ?_) (fun _ _ => ?_)) | (refine PIoO_in (cQoO.c104 hc _ _ ?_) (fun _ _ _ => ?_)) | (refine PIoO_in (cQoO.c227 hc _ _ _ ?_) (fun _ _ _ => ?_)) | (refine PIoO_rn (cQoO.c128 hc _ _ _ ?_) (fun _ _ _ => ?_)) | (refine ih _ _ _ _ _ ?_)))
theorem pioO_ob_X7_both  {x0 : Option Nat} {x1 : Int32} {σ : oSt} (hP : iKptO P) (hc : cQoO P call)  (h : P σ) : PIo P (ob_X7_both n call κ  x0 x1 σ) := by
  unfold ob_X7_both
  repeat' (with_reducible (first | assumption | (refine PIoO_gd ?_) | (refine PIoO_pf hP ?_ (by decide) (by with_unfolding_all rfl) (fun _ _ => ?_)) | (refine PIoO_si hP ?_ (fun _ _ => ?_)) | (refine PIoO_sj hP ?_ (fun _ _ => ?_)) | (refine PIoO_sr hP ?_ (fun _ _ => ?_)) | (refine PIoO_cy hP ?_ (fun _ _ => ?_)) | (refine PIoO_bn (fun _ => ?_)) | (refine PIoO_na hP ?_ (fun _ _ => ?_)) | (refine PIoO_no hP ?_ (fun _ _ => ?_)) | (refine PIoO_ite ?_ ?_) | (refine PIoO_some ?_) | (exact PIoO_none) | (refine PIoO_cv (cQoO.c102 hc _ _ _ _ _ ?_) (fun _ _ => ?_)) | (refine PIoO_cv (cQoO.c224 hc _ _ ?_) (fun _ _ => ?_)) | (refine PIoO_in (cQoO.c104 hc _ _ ?_) (fun _ _ _ => ?_)) | (refine PIoO_in (cQoO.c227 hc _ _ _ ?_) (fun _ _ _ => ?_)) | (refine PIoO_rn (cQoO.c128 hc _ _ _ ?_) (fun _ _ _ => ?_)) | (refine pioO_ol_X7_both_60 hP hc  _ _ _ _ _ _ ?_)))
theorem pioO_ol_X7_either_60  (hP : iKptO P) (hc : cQoO P call)  : ∀ (t : Nat) (x0 : Option Nat) (x1 : Int32) (x2 : Option Nat) (x3 : Int32) (σ : oSt), P σ → PIo P (ol_X7_either_60 n call κ  t x0 x1 x2 x3 σ) := by
  intro t
  induction t with
  | zero => intros; exact PIoO_none
  | succ t ih =>
    intro x0 x1 x2 x3 σ h
    rw [ol_X7_either_60]
    repeat' (with_reducible (first | assumption | (refine PIoO_gd ?_) | (refine PIoO_pf hP ?_ (by decide) (by with_unfolding_all rfl) (fun _ _ => ?_)) | (refine PIoO_si hP ?_ (fun _ _ => ?_)) | (refine PIoO_sj hP ?_ (fun _ _ => ?_)) | (refine PIoO_sr hP ?_ (fun _ _ => ?_)) | (refine PIoO_cy hP ?_ (fun _ _ => ?_)) | (refine PIoO_bn (fun _ => ?_)) | (refine PIoO_na hP ?_ (fun _ _ => ?_)) | (refine PIoO_no hP ?_ (fun _ _ => ?_)) | (refine PIoO_ite ?_ ?_) | (refine PIoO_some ?_) | (exact PIoO_none) | (refine PIoO_cv (cQoO.c105 hc _ _ ?_) (fun _ _ => ?_)) | (refine PIoO_in (cQoO.c104 hc _ _ ?_) (fun _ _ _ => ?_)) | (refine PIoO_in (cQoO.c227 hc _ _ _ ?_) (fun _ _ _ => ?_)) | (refine PIoO_rn (cQoO.c126 hc _ _ _ ?_) (fun _ _ _ => ?_)) | (refine ih _ _ _ _ _ ?_)))
theorem pioO_ob_X7_either  {x0 : Option Nat} {x1 : Int32} {σ : oSt} (hP : iKptO P) (hc : cQoO P call)  (h : P σ) : PIo P (ob_X7_either n call κ  x0 x1 σ) := by
  unfold ob_X7_either
  repeat' (with_reducible (first | assumption | (refine PIoO_gd ?_) | (refine PIoO_pf hP ?_ (by decide) (by with_unfolding_all rfl) (fun _ _ => ?_)) | (refine PIoO_si hP ?_ (fun _ _ => ?_)) | (refine PIoO_sj hP ?_ (fun _ _ => ?_)) | (refine PIoO_sr hP ?_ (fun _ _ => ?_)) | (refine PIoO_cy hP ?_ (fun _ _ => ?_)) | (refine PIoO_bn (fun _ => ?_)) | (refine PIoO_na hP ?_ (fun _ _ => ?_)) | (refine PIoO_no hP ?_ (fun _ _ => ?_)) | (refine PIoO_ite ?_ ?_) | (refine PIoO_some ?_) | (exact PIoO_none) | (refine PIoO_cv (cQoO.c102 hc _ _ _ _ _ ?_) (fun _ _ => ?_)) | (refine PIoO_cv (cQoO.c224 hc _ _ ?_) (fun _ _ => ?_)) | (refine PIoO_in (cQoO.c104 hc _ _ ?_) (fun _ _ _ => ?_)) | (refine PIoO_in (cQoO.c227 hc _ _ _ ?_) (fun _ _ _ => ?_)) | (refine PIoO_rn (cQoO.c126 hc _ _ _ ?_) (fun _ _ _ => ?_)) | (refine pioO_ol_X7_either_60 hP hc  _ _ _ _ _ _ ?_)))
theorem pioO_ob_X7_single  {x0 : Option Nat} {x1 : Int32} {σ : oSt} (hP : iKptO P) (hc : cQoO P call)  (h : P σ) : PIo P (ob_X7_single n call κ  x0 x1 σ) := by
  unfold ob_X7_single
  repeat' (with_reducible (first | assumption | (refine PIoO_gd ?_) | (refine PIoO_pf hP ?_ (by decide) (by with_unfolding_all rfl) (fun _ _ => ?_)) | (refine PIoO_si hP ?_ (fun _ _ => ?_)) | (refine PIoO_sj hP ?_ (fun _ _ => ?_)) | (refine PIoO_sr hP ?_ (fun _ _ => ?_)) | (refine PIoO_cy hP ?_ (fun _ _ => ?_)) | (refine PIoO_bn (fun _ => ?_)) | (refine PIoO_na hP ?_ (fun _ _ => ?_)) | (refine PIoO_no hP ?_ (fun _ _ => ?_)) | (refine PIoO_ite ?_ ?_) | (refine PIoO_some ?_) | (exact PIoO_none) | (refine PIoO_cv (cQoO.c105 hc _ _ ?_) (fun _ _ => ?_)) | (refine PIoO_cv (cQoO.c107 hc _ _ ?_) (fun _ _ => ?_)) | (refine PIoO_cv (cQoO.c108 hc _ _ _ ?_) (fun _ _ => ?_)) | (refine PIoO_in (cQoO.c104 hc _ _ ?_) (fun _ _ _ => ?_)) | (refine PIoO_rn (cQoO.c118 hc _ _ _ ?_) (fun _ _ _ => ?_)) | (refine PIoO_rn (cQoO.c125 hc _ _ _ ?_) (fun _ _ _ => ?_)) | (refine PIoO_rn (cQoO.c127 hc _ _ _ ?_) (fun _ _ _ => ?_)) | (refine PIoO_rn (cQoO.c128 hc _ _ _ ?_) (fun _ _ _ => ?_))))
theorem pioO_ob_X7_test  {x0 : Option Nat} {x1 : Int32} {σ : oSt} (hP : iKptO P) (hc : cQoO P call)  (h : P σ) : PIo P (ob_X7_test n call κ  x0 x1 σ) := by
  unfold ob_X7_test
  repeat' (with_reducible (first | assumption | (refine PIoO_gd ?_) | (refine PIoO_pf hP ?_ (by decide) (by with_unfolding_all rfl) (fun _ _ => ?_)) | (refine PIoO_si hP ?_ (fun _ _ => ?_)) | (refine PIoO_sj hP ?_ (fun _ _ => ?_)) | (refine PIoO_sr hP ?_ (fun _ _ => ?_)) | (refine PIoO_cy hP ?_ (fun _ _ => ?_)) | (refine PIoO_bn (fun _ => ?_)) | (refine PIoO_na hP ?_ (fun _ _ => ?_)) | (refine PIoO_no hP ?_ (fun _ _ => ?_)) | (refine PIoO_ite ?_ ?_) | (refine PIoO_some ?_) | (exact PIoO_none) | (refine PIoO_cv (cQoO.c122 hc _ _ _ ?_) (fun _ _ => ?_)) | (refine PIoO_in (cQoO.c106 hc _ _ ?_) (fun _ _ _ => ?_)) | (refine PIoO_rn (cQoO.c127 hc _ _ _ ?_) (fun _ _ _ => ?_))))
theorem pioO_oj_X7_beginsArgument_30   {σ : oSt} (hP : iKptO P) (hc : cQoO P call)  (h : P σ) : PIo P (oj_X7_beginsArgument_30 n call κ   σ) := by
  unfold oj_X7_beginsArgument_30
  repeat' (with_reducible (first | assumption | (refine PIoO_gd ?_) | (refine PIoO_pf hP ?_ (by decide) (by with_unfolding_all rfl) (fun _ _ => ?_)) | (refine PIoO_si hP ?_ (fun _ _ => ?_)) | (refine PIoO_sj hP ?_ (fun _ _ => ?_)) | (refine PIoO_sr hP ?_ (fun _ _ => ?_)) | (refine PIoO_cy hP ?_ (fun _ _ => ?_)) | (refine PIoO_bn (fun _ => ?_)) | (refine PIoO_na hP ?_ (fun _ _ => ?_)) | (refine PIoO_no hP ?_ (fun _ _ => ?_)) | (refine PIoO_ite ?_ ?_) | (refine PIoO_some ?_) | (exact PIoO_none)))
theorem pioO_ob_X7_beginsArgument  {x0 : Int32} {σ : oSt} (hP : iKptO P) (hc : cQoO P call)  (h : P σ) : PIo P (ob_X7_beginsArgument n call κ  x0 σ) := by
  unfold ob_X7_beginsArgument
  repeat' (with_reducible (first | assumption | (refine PIoO_gd ?_) | (refine PIoO_pf hP ?_ (by decide) (by with_unfolding_all rfl) (fun _ _ => ?_)) | (refine PIoO_si hP ?_ (fun _ _ => ?_)) | (refine PIoO_sj hP ?_ (fun _ _ => ?_)) | (refine PIoO_sr hP ?_ (fun _ _ => ?_)) | (refine PIoO_cy hP ?_ (fun _ _ => ?_)) | (refine PIoO_bn (fun _ => ?_)) | (refine PIoO_na hP ?_ (fun _ _ => ?_)) | (refine PIoO_no hP ?_ (fun _ _ => ?_)) | (refine PIoO_ite ?_ ?_) | (refine PIoO_some ?_) | (exact PIoO_none) | (refine pioO_oj_X7_beginsArgument_30 hP hc  ?_)))
theorem pioO_ob_X7_beFunction  {x0 : Option Nat} {x1 : Option Nat} {σ : oSt} (hP : iKptO P) (hc : cQoO P call)  (h : P σ) : PIo P (ob_X7_beFunction n call κ  x0 x1 σ) := by
  unfold ob_X7_beFunction
  repeat' (with_reducible (first | assumption | (refine PIoO_gd ?_) | (refine PIoO_pf hP ?_ (by decide) (by with_unfolding_all rfl) (fun _ _ => ?_)) | (refine PIoO_si hP ?_ (fun _ _ => ?_)) | (refine PIoO_sj hP ?_ (fun _ _ => ?_)) | (refine PIoO_sr hP ?_ (fun _ _ => ?_)) | (refine PIoO_cy hP ?_ (fun _ _ => ?_)) | (refine PIoO_bn (fun _ => ?_)) | (refine PIoO_na hP ?_ (fun _ _ => ?_)) | (refine PIoO_no hP ?_ (fun _ _ => ?_)) | (refine PIoO_ite ?_ ?_) | (refine PIoO_some ?_) | (exact PIoO_none) | (refine PIoO_cv (cQoO.c224 hc _ _ ?_) (fun _ _ => ?_)) | (refine PIoO_in (cQoO.c227 hc _ _ _ ?_) (fun _ _ _ => ?_)) | (refine PIoO_in (cQoO.c236 hc _ _ ?_) (fun _ _ _ => ?_))))
theorem pioO_ob_X7_tellParameter  {x0 : Option Nat} {x1 : Option Nat} {σ : oSt} (hP : iKptO P) (hc : cQoO P call)  (h : P σ) : PIo P (ob_X7_tellParameter n call κ  x0 x1 σ) := by
  unfold ob_X7_tellParameter
  repeat' (with_reducible (first | assumption | (refine PIoO_gd ?_) | (refine PIoO_pf hP ?_ (by decide) (by with_unfolding_all rfl) (fun _ _ => ?_)) | (refine PIoO_si hP ?_ (fun _ _ => ?_)) | (refine PIoO_sj hP ?_ (fun _ _ => ?_)) | (refine PIoO_sr hP ?_ (fun _ _ => ?_)) | (refine PIoO_cy hP ?_ (fun _ _ => ?_)) | (refine PIoO_bn (fun _ => ?_)) | (refine PIoO_na hP ?_ (fun _ _ => ?_)) | (refine PIoO_no hP ?_ (fun _ _ => ?_)) | (refine PIoO_ite ?_ ?_) | (refine PIoO_some ?_) | (exact PIoO_none) | (refine PIoO_cv (cQoO.c116 hc _ _ _ ?_) (fun _ _ => ?_)) | (refine PIoO_in (cQoO.c227 hc _ _ _ ?_) (fun _ _ _ => ?_)) | (refine PIoO_rn (cQoO.c115 hc _ _ ?_) (fun _ _ _ => ?_))))
theorem pioO_ob_X7_readIndex  {x0 : Option Nat} {x1 : Option Nat} {σ : oSt} (hP : iKptO P) (hc : cQoO P call)  (h : P σ) : PIo P (ob_X7_readIndex n call κ  x0 x1 σ) := by
  unfold ob_X7_readIndex
  repeat' (with_reducible (first | assumption | (refine PIoO_gd ?_) | (refine PIoO_pf hP ?_ (by decide) (by with_unfolding_all rfl) (fun _ _ => ?_)) | (refine PIoO_si hP ?_ (fun _ _ => ?_)) | (refine PIoO_sj hP ?_ (fun _ _ => ?_)) | (refine PIoO_sr hP ?_ (fun _ _ => ?_)) | (refine PIoO_cy hP ?_ (fun _ _ => ?_)) | (refine PIoO_bn (fun _ => ?_)) | (refine PIoO_na hP ?_ (fun _ _ => ?_)) | (refine PIoO_no hP ?_ (fun _ _ => ?_)) | (refine PIoO_ite ?_ ?_) | (refine PIoO_some ?_) | (exact PIoO_none) | (refine PIoO_cv (cQoO.c8 hc _ _ ?_) (fun _ _ => ?_)) | (refine PIoO_cv (cQoO.c10 hc _ _ _ _ ?_) (fun _ _ => ?_)) | (refine PIoO_cv (cQoO.c108 hc _ _ _ ?_) (fun _ _ => ?_)) | (refine PIoO_cv (cQoO.c124 hc _ _ _ _ ?_) (fun _ _ => ?_)) | (refine PIoO_cv (cQoO.c224 hc _ _ ?_) (fun _ _ => ?_)) | (refine PIoO_in (cQoO.c106 hc _ _ ?_) (fun _ _ _ => ?_)) | (refine PIoO_in (cQoO.c227 hc _ _ _ ?_) (fun _ _ _ => ?_)) | (refine PIoO_rn (cQoO.c118 hc _ _ _ ?_) (fun _ _ _ => ?_)) | (refine PIoO_rn (cQoO.c119 hc _ _ ?_) (fun _ _ _ => ?_)) | (refine PIoO_rn (cQoO.c121 hc _ _ ?_) (fun _ _ _ => ?_)) | (refine PIoO_rn (cQoO.c123 hc _ _ _ _ ?_) (fun _ _ _ => ?_))))
theorem pioO_oj_X7_argument_115  {x2 : Int32} {x3 : Option Nat} {σ : oSt} (hP : iKptO P) (hc : cQoO P call)  (h : P σ) : PIo P (oj_X7_argument_115 n call κ  x2 x3 σ) := by
  unfold oj_X7_argument_115
  repeat' (with_reducible (first | assumption | (refine PIoO_gd ?_) | (refine PIoO_pf hP ?_ (by decide) (by with_unfolding_all rfl) (fun _ _ => ?_)) | (refine PIoO_si hP ?_ (fun _ _ => ?_)) | (refine PIoO_sj hP ?_ (fun _ _ => ?_)) | (refine PIoO_sr hP ?_ (fun _ _ => ?_)) | (refine PIoO_cy hP ?_ (fun _ _ => ?_)) | (refine PIoO_bn (fun _ => ?_)) | (refine PIoO_na hP ?_ (fun _ _ => ?_)) | (refine PIoO_no hP ?_ (fun _ _ => ?_)) | (refine PIoO_ite ?_ ?_) | (refine PIoO_some ?_) | (exact PIoO_none)))
theorem pioO_oj_X7_argument_109  {x0 : Option Nat} {x2 : Int32} {x3 : Option Nat} {σ : oSt} (hP : iKptO P) (hc : cQoO P call)  (h : P σ) : PIo P (oj_X7_argument_109 n call κ  x0 x2 x3 σ) := by
  unfold oj_X7_argument_109
  repeat' (with_reducible (first | assumption | (refine PIoO_gd ?_) | (refine PIoO_pf hP ?_ (by decide) (by with_unfolding_all rfl) (fun _ _ => ?_)) | (refine PIoO_si hP ?_ (fun _ _ => ?_)) | (refine PIoO_sj hP ?_ (fun _ _ => ?_)) | (refine PIoO_sr hP ?_ (fun _ _ => ?_)) | (refine PIoO_cy hP ?_ (fun _ _ => ?_)) | (refine PIoO_bn (fun _ => ?_)) | (refine PIoO_na hP ?_ (fun _ _ => ?_)) | (refine PIoO_no hP ?_ (fun _ _ => ?_)) | (refine PIoO_ite ?_ ?_) | (refine PIoO_some ?_) | (exact PIoO_none) | (refine PIoO_cv (cQoO.c108 hc _ _ _ ?_) (fun _ _ => ?_)) | (refine pioO_oj_X7_argument_115 hP hc  ?_)))
theorem pioO_oj_X7_argument_34  {x0 : Option Nat} {x2 : Int32} {x3 : Option Nat} {σ : oSt} (hP : iKptO P) (hc : cQoO P call)  (h : P σ) : PIo P (oj_X7_argument_34 n call κ  x0 x2 x3 σ) := by
  unfold oj_X7_argument_34
  repeat' (with_reducible (first | assumption | (refine PIoO_gd ?_) | (refine PIoO_pf hP ?_ (by decide) (by with_unfolding_all rfl) (fun _ _ => ?_)) | (refine PIoO_si hP ?_ (fun _ _ => ?_)) | (refine PIoO_sj hP ?_ (fun _ _ => ?_)) | (refine PIoO_sr hP ?_ (fun _ _ => ?_)) | (refine PIoO_cy hP ?_ (fun _ _ => ?_)) | (refine PIoO_bn (fun _ => ?_)) | (refine PIoO_na hP ?_ (fun _ _ => ?_)) | (refine PIoO_no hP ?_ (fun _ _ => ?_)) | (refine PIoO_ite ?_ ?_) | (refine PIoO_some ?_) | (exact PIoO_none) | (refine PIoO_cv (cQoO.c105 hc _ _ ?_) (fun _ _ => ?_)) | (refine pioO_oj_X7_argument_115 hP hc  ?_)))
theorem pioO_ob_X7_argument  {x0 : Option Nat} {x1 : Int32} {σ : oSt} (hP : iKptO P) (hc : cQoO P call)  (h : P σ) : PIo P (ob_X7_argument n call κ  x0 x1 σ) := by
  unfold ob_X7_argument
  repeat' (with_reducible (first | assumption | (refine PIoO_gd ?_) | (refine PIoO_pf hP ?_ (by decide) (by with_unfolding_all rfl) (fun _ _ => ?_)) | (refine PIoO_si hP ?_ (fun _ _ => ?_)) | (refine PIoO_sj hP ?_ (fun _ _ => ?_)) | (refine PIoO_sr hP ?_ (fun _ _ => ?_)) | (refine PIoO_cy hP ?_ (fun _ _ => ?_)) | (refine PIoO_bn (fun _ => ?_)) | (refine PIoO_na hP ?_ (fun _ _ => ?_)) | (refine PIoO_no hP ?_ (fun _ _ => ?_)) | (refine PIoO_ite ?_ ?_) | (refine PIoO_some ?_) | (exact PIoO_none) | (refine PIoO_cv (cQoO.c105 hc _ _ ?_) (fun _ _ => ?_)) | (refine PIoO_cv (cQoO.c122 hc _ _ _ ?_) (fun _ _ => ?_)) | (refine PIoO_in (cQoO.c14 hc _ _ ?_) (fun _ _ _ => ?_)) | (refine PIoO_in (cQoO.c104 hc _ _ ?_) (fun _ _ _ => ?_)) | (refine PIoO_in (cQoO.c106 hc _ _ ?_) (fun _ _ _ => ?_)) | (refine PIoO_rn (cQoO.c118 hc _ _ _ ?_) (fun _ _ _ => ?_)) | (refine PIoO_rn (cQoO.c120 hc _ _ _ ?_) (fun _ _ _ => ?_)) | (refine PIoO_rn (cQoO.c121 hc _ _ ?_) (fun _ _ _ => ?_)) | (refine PIoO_rn (cQoO.c135 hc _ _ _ ?_) (fun _ _ _ => ?_)) | (refine pioO_oj_X7_argument_34 hP hc  ?_) | (refine pioO_oj_X7_argument_109 hP hc  ?_) | (refine pioO_oj_X7_argument_115 hP hc  ?_)))
theorem pioO_ob_X7_expression  {x0 : Option Nat} {x1 : Int32} {σ : oSt} (hP : iKptO P) (hc : cQoO P call)  (h : P σ) : PIo P (ob_X7_expression n call κ  x0 x1 σ) := by
  unfold ob_X7_expression
  repeat' (with_reducible (first | assumption | (refine PIoO_gd ?_) | (refine PIoO_pf hP ?_ (by decide) (by with_unfolding_all rfl) (fun _ _ => ?_)) | (refine PIoO_si hP ?_ (fun _ _ => ?_)) | (refine PIoO_sj hP ?_ (fun _ _ => ?_)) | (refine PIoO_sr hP ?_ (fun _ _ => ?_)) | (refine PIoO_cy hP ?_ (fun _ _ => ?_)) | (refine PIoO_bn (fun _ => ?_)) | (refine PIoO_na hP ?_ (fun _ _ => ?_)) | (refine PIoO_no hP ?_ (fun _ _ => ?_)) | (refine PIoO_ite ?_ ?_) | (refine PIoO_some ?_) | (exact PIoO_none) | (refine PIoO_cv (cQoO.c105 hc _ _ ?_) (fun _ _ => ?_)) | (refine PIoO_cv (cQoO.c107 hc _ _ ?_) (fun _ _ => ?_)) | (refine PIoO_cv (cQoO.c108 hc _ _ _ ?_) (fun _ _ => ?_)) | (refine PIoO_cv (cQoO.c136 hc _ _ _ _ ?_) (fun _ _ => ?_)) | (refine PIoO_cv (cQoO.c138 hc _ _ _ _ ?_) (fun _ _ => ?_)) | (refine PIoO_cv (cQoO.c139 hc _ _ _ _ ?_) (fun _ _ => ?_)) | (refine PIoO_cv (cQoO.c140 hc _ _ _ _ ?_) (fun _ _ => ?_)) | (refine PIoO_cv (cQoO.c141 hc _ _ _ _ ?_) (fun _ _ => ?_)) | (refine PIoO_cv (cQoO.c144 hc _ _ _ _ ?_) (fun _ _ => ?_)) | (refine PIoO_in (cQoO.c104 hc _ _ ?_) (fun _ _ _ => ?_)) | (refine PIoO_in (cQoO.c106 hc _ _ ?_) (fun _ _ _ => ?_)) | (refine PIoO_rn (cQoO.c118 hc _ _ _ ?_) (fun _ _ _ => ?_)) | (refine PIoO_rn (cQoO.c119 hc _ _ ?_) (fun _ _ _ => ?_)) | (refine PIoO_rn (cQoO.c121 hc _ _ ?_) (fun _ _ _ => ?_)) | (refine PIoO_rn (cQoO.c123 hc _ _ _ _ ?_) (fun _ _ _ => ?_)) | (refine PIoO_rn (cQoO.c135 hc _ _ _ ?_) (fun _ _ _ => ?_)) | (refine PIoO_rn (cQoO.c142 hc _ _ _ ?_) (fun _ _ _ => ?_))))
theorem pioO_ob_X7_readAssert  {x0 : Option Nat} {x1 : Option Nat} {x2 : Int32} {σ : oSt} (hP : iKptO P) (hc : cQoO P call)  (h : P σ) : PIo P (ob_X7_readAssert n call κ  x0 x1 x2 σ) := by
  unfold ob_X7_readAssert
  repeat' (with_reducible (first | assumption | (refine PIoO_gd ?_) | (refine PIoO_pf hP ?_ (by decide) (by with_unfolding_all rfl) (fun _ _ => ?_)) | (refine PIoO_si hP ?_ (fun _ _ => ?_)) | (refine PIoO_sj hP ?_ (fun _ _ => ?_)) | (refine PIoO_sr hP ?_ (fun _ _ => ?_)) | (refine PIoO_cy hP ?_ (fun _ _ => ?_)) | (refine PIoO_bn (fun _ => ?_)) | (refine PIoO_na hP ?_ (fun _ _ => ?_)) | (refine PIoO_no hP ?_ (fun _ _ => ?_)) | (refine PIoO_ite ?_ ?_) | (refine PIoO_some ?_) | (exact PIoO_none) | (refine PIoO_cv (cQoO.c105 hc _ _ ?_) (fun _ _ => ?_)) | (refine PIoO_cv (cQoO.c108 hc _ _ _ ?_) (fun _ _ => ?_)) | (refine PIoO_rn (cQoO.c129 hc _ _ _ ?_) (fun _ _ _ => ?_)) | (refine PIoO_rn (cQoO.c135 hc _ _ _ ?_) (fun _ _ _ => ?_))))
theorem pioO_ol_X7_readCall_37  (hP : iKptO P) (hc : cQoO P call)  : ∀ (t : Nat) (x0 : Option Nat) (x1 : Int32) (x2 : Option Nat) (x3 : Int32) (σ : oSt), P σ → PIo P (ol_X7_readCall_37 n call κ  t x0 x1 x2 x3 σ) := by
  intro t
  induction t with
  | zero => intros; exact PIoO_none
  | succ t ih =>
    intro x0 x1 x2 x3 σ h
    rw [ol_X7_readCall_37]
    repeat' (with_reducible (first | assumption | (refine PIoO_gd ?_) | (refine PIoO_pf hP ?_ (by decide) (by with_unfolding_all rfl) (fun _ _ => ?_)) | (refine PIoO_si hP ?_ (fun _ _ => ?_)) | (refine PIoO_sj hP ?_ (fun _ _ => ?_)) | (refine PIoO_sr hP ?_ (fun _ _ => ?_)) | (refine PIoO_cy hP ?_ (fun _ _ => ?_)) | (refine PIoO_bn (fun _ => ?_)) | (refine PIoO_na hP ?_ (fun _ _ => ?_)) | (refine PIoO_no hP ?_ (fun _ _ => ?_)) | (refine PIoO_ite ?_ ?_) | (refine PIoO_some ?_) | (exact PIoO_none) | (refine PIoO_in (cQoO.c104 hc _ _ ?_) (fun _ _ _ => ?_)) | (refine PIoO_in (cQoO.c130 hc _ _ ?_) (fun _ _ _ => ?_)) | (refine PIoO_in (cQoO.c227 hc _ _ _ ?_) (fun _ _ _ => ?_)) | (refine PIoO_rn (cQoO.c134 hc _ _ _ ?_) (fun _ _ _ => ?_)) | (refine ih _ _ _ _ _ ?_)))
theorem pioO_ob_X7_readCall  {x0 : Option Nat} {x1 : Int32} {σ : oSt} (hP : iKptO P) (hc : cQoO P call)  (h : P σ) : PIo P (ob_X7_readCall n call κ  x0 x1 σ) := by
  unfold ob_X7_readCall
  repeat' (with_reducible (first | assumption | (refine PIoO_gd ?_) | (refine PIoO_pf hP ?_ (by decide) (by with_unfolding_all rfl) (fun _ _ => ?_)) | (refine PIoO_si hP ?_ (fun _ _ => ?_)) | (refine PIoO_sj hP ?_ (fun _ _ => ?_)) | (refine PIoO_sr hP ?_ (fun _ _ => ?_)) | (refine PIoO_cy hP ?_ (fun _ _ => ?_)) | (refine PIoO_bn (fun _ => ?_)) | (refine PIoO_na hP ?_ (fun _ _ => ?_)) | (refine PIoO_no hP ?_ (fun _ _ => ?_)) | (refine PIoO_ite ?_ ?_) | (refine PIoO_some ?_) | (exact PIoO_none) | (refine PIoO_cv (cQoO.c224 hc _ _ ?_) (fun _ _ => ?_)) | (refine PIoO_in (cQoO.c106 hc _ _ ?_) (fun _ _ _ => ?_)) | (refine PIoO_rn (cQoO.c118 hc _ _ _ ?_) (fun _ _ _ => ?_)) | (refine PIoO_rn (cQoO.c119 hc _ _ ?_) (fun _ _ _ => ?_)) | (refine pioO_ol_X7_readCall_37 hP hc  _ _ _ _ _ _ ?_)))
theorem pioO_ob_X7_readFunction  {x0 : Option Nat} {x1 : Option Nat} {x2 : Int32} {σ : oSt} (hP : iKptO P) (hc : cQoO P call)  (h : P σ) : PIo P (ob_X7_readFunction n call κ  x0 x1 x2 σ) := by
  unfold ob_X7_readFunction
  repeat' (with_reducible (first | assumption | (refine PIoO_gd ?_) | (refine PIoO_pf hP ?_ (by decide) (by with_unfolding_all rfl) (fun _ _ => ?_)) | (refine PIoO_si hP ?_ (fun _ _ => ?_)) | (refine PIoO_sj hP ?_ (fun _ _ => ?_)) | (refine PIoO_sr hP ?_ (fun _ _ => ?_)) | (refine PIoO_cy hP ?_ (fun _ _ => ?_)) | (refine PIoO_bn (fun _ => ?_)) | (refine PIoO_na hP ?_ (fun _ _ => ?_)) | (refine PIoO_no hP ?_ (fun _ _ => ?_)) | (refine PIoO_ite ?_ ?_) | (refine PIoO_some ?_) | (exact PIoO_none) | (refine PIoO_cv (cQoO.c105 hc _ _ ?_) (fun _ _ => ?_)) | (refine PIoO_cv (cQoO.c108 hc _ _ _ ?_) (fun _ _ => ?_)) | (refine PIoO_cv (cQoO.c131 hc _ _ _ ?_) (fun _ _ => ?_)) | (refine PIoO_cv (cQoO.c132 hc _ _ _ ?_) (fun _ _ => ?_)) | (refine PIoO_rn (cQoO.c135 hc _ _ _ ?_) (fun _ _ _ => ?_))))
theorem pioO_ob_X7_readIf  {x0 : Option Nat} {x1 : Option Nat} {x2 : Int32} {σ : oSt} (hP : iKptO P) (hc : cQoO P call)  (h : P σ) : PIo P (ob_X7_readIf n call κ  x0 x1 x2 σ) := by
  unfold ob_X7_readIf
  repeat' (with_reducible (first | assumption | (refine PIoO_gd ?_) | (refine PIoO_pf hP ?_ (by decide) (by with_unfolding_all rfl) (fun _ _ => ?_)) | (refine PIoO_si hP ?_ (fun _ _ => ?_)) | (refine PIoO_sj hP ?_ (fun _ _ => ?_)) | (refine PIoO_sr hP ?_ (fun _ _ => ?_)) | (refine PIoO_cy hP ?_ (fun _ _ => ?_)) | (refine PIoO_bn (fun _ => ?_)) | (refine PIoO_na hP ?_ (fun _ _ => ?_)) | (refine PIoO_no hP ?_ (fun _ _ => ?_)) | (refine PIoO_ite ?_ ?_) | (refine PIoO_some ?_) | (exact PIoO_none) | (refine PIoO_cv (cQoO.c105 hc _ _ ?_) (fun _ _ => ?_)) | (refine PIoO_cv (cQoO.c108 hc _ _ _ ?_) (fun _ _ => ?_)) | (refine PIoO_rn (cQoO.c129 hc _ _ _ ?_) (fun _ _ _ => ?_)) | (refine PIoO_rn (cQoO.c135 hc _ _ _ ?_) (fun _ _ _ => ?_))))
theorem pioO_ob_X7_readLet  {x0 : Option Nat} {x1 : Option Nat} {x2 : Int32} {σ : oSt} (hP : iKptO P) (hc : cQoO P call)  (h : P σ) : PIo P (ob_X7_readLet n call κ  x0 x1 x2 σ) := by
  unfold ob_X7_readLet
  repeat' (with_reducible (first | assumption | (refine PIoO_gd ?_) | (refine PIoO_pf hP ?_ (by decide) (by with_unfolding_all rfl) (fun _ _ => ?_)) | (refine PIoO_si hP ?_ (fun _ _ => ?_)) | (refine PIoO_sj hP ?_ (fun _ _ => ?_)) | (refine PIoO_sr hP ?_ (fun _ _ => ?_)) | (refine PIoO_cy hP ?_ (fun _ _ => ?_)) | (refine PIoO_bn (fun _ => ?_)) | (refine PIoO_na hP ?_ (fun _ _ => ?_)) | (refine PIoO_no hP ?_ (fun _ _ => ?_)) | (refine PIoO_ite ?_ ?_) | (refine PIoO_some ?_) | (exact PIoO_none) | (refine PIoO_cv (cQoO.c105 hc _ _ ?_) (fun _ _ => ?_)) | (refine PIoO_cv (cQoO.c108 hc _ _ _ ?_) (fun _ _ => ?_)) | (refine PIoO_cv (cQoO.c116 hc _ _ _ ?_) (fun _ _ => ?_)) | (refine PIoO_cv (cQoO.c143 hc _ _ _ _ ?_) (fun _ _ => ?_)) | (refine PIoO_in (cQoO.c104 hc _ _ ?_) (fun _ _ _ => ?_)) | (refine PIoO_rn (cQoO.c115 hc _ _ ?_) (fun _ _ _ => ?_)) | (refine PIoO_rn (cQoO.c135 hc _ _ _ ?_) (fun _ _ _ => ?_))))
theorem pioO_ob_X7_readMatch  {x0 : Option Nat} {x1 : Option Nat} {x2 : Int32} {σ : oSt} (hP : iKptO P) (hc : cQoO P call)  (h : P σ) : PIo P (ob_X7_readMatch n call κ  x0 x1 x2 σ) := by
  unfold ob_X7_readMatch
  repeat' (with_reducible (first | assumption | (refine PIoO_gd ?_) | (refine PIoO_pf hP ?_ (by decide) (by with_unfolding_all rfl) (fun _ _ => ?_)) | (refine PIoO_si hP ?_ (fun _ _ => ?_)) | (refine PIoO_sj hP ?_ (fun _ _ => ?_)) | (refine PIoO_sr hP ?_ (fun _ _ => ?_)) | (refine PIoO_cy hP ?_ (fun _ _ => ?_)) | (refine PIoO_bn (fun _ => ?_)) | (refine PIoO_na hP ?_ (fun _ _ => ?_)) | (refine PIoO_no hP ?_ (fun _ _ => ?_)) | (refine PIoO_ite ?_ ?_) | (refine PIoO_some ?_) | (exact PIoO_none) | (refine PIoO_cv (cQoO.c105 hc _ _ ?_) (fun _ _ => ?_)) | (refine PIoO_cv (cQoO.c108 hc _ _ _ ?_) (fun _ _ => ?_)) | (refine PIoO_cv (cQoO.c132 hc _ _ _ ?_) (fun _ _ => ?_)) | (refine PIoO_cv (cQoO.c224 hc _ _ ?_) (fun _ _ => ?_)) | (refine PIoO_in (cQoO.c106 hc _ _ ?_) (fun _ _ _ => ?_)) | (refine PIoO_in (cQoO.c236 hc _ _ ?_) (fun _ _ _ => ?_)) | (refine PIoO_rn (cQoO.c11 hc _ _ _ _ ?_) (fun _ _ _ => ?_)) | (refine PIoO_rn (cQoO.c119 hc _ _ ?_) (fun _ _ _ => ?_)) | (refine PIoO_rn (cQoO.c123 hc _ _ _ _ ?_) (fun _ _ _ => ?_)) | (refine PIoO_rn (cQoO.c135 hc _ _ _ ?_) (fun _ _ _ => ?_))))
theorem pioO_oj_X7_readOpen_173  {x4 : Option Nat} {t0 : Option Nat} {t1 : Option Nat} {σ : oSt} (hP : iKptO P) (hc : cQoO P call)  (h : P σ) : PIo P (oj_X7_readOpen_173 n call κ  x4 t0 t1 σ) := by
  unfold oj_X7_readOpen_173
  repeat' (with_reducible (first | assumption | (refine PIoO_gd ?_) | (refine PIoO_pf hP ?_ (by decide) (by with_unfolding_all rfl) (fun _ _ => ?_)) | (refine PIoO_si hP ?_ (fun _ _ => ?_)) | (refine PIoO_sj hP ?_ (fun _ _ => ?_)) | (refine PIoO_sr hP ?_ (fun _ _ => ?_)) | (refine PIoO_cy hP ?_ (fun _ _ => ?_)) | (refine PIoO_bn (fun _ => ?_)) | (refine PIoO_na hP ?_ (fun _ _ => ?_)) | (refine PIoO_no hP ?_ (fun _ _ => ?_)) | (refine PIoO_ite ?_ ?_) | (refine PIoO_some ?_) | (exact PIoO_none)))
theorem pioO_oj_X7_readOpen_94  {x0 : Option Nat} {x3 : Option Nat} {σ : oSt} (hP : iKptO P) (hc : cQoO P call)  (h : P σ) : PIo P (oj_X7_readOpen_94 n call κ  x0 x3 σ) := by
  unfold oj_X7_readOpen_94
  repeat' (with_reducible (first | assumption | (refine PIoO_gd ?_) | (refine PIoO_pf hP ?_ (by decide) (by with_unfolding_all rfl) (fun _ _ => ?_)) | (refine PIoO_si hP ?_ (fun _ _ => ?_)) | (refine PIoO_sj hP ?_ (fun _ _ => ?_)) | (refine PIoO_sr hP ?_ (fun _ _ => ?_)) | (refine PIoO_cy hP ?_ (fun _ _ => ?_)) | (refine PIoO_bn (fun _ => ?_)) | (refine PIoO_na hP ?_ (fun _ _ => ?_)) | (refine PIoO_no hP ?_ (fun _ _ => ?_)) | (refine PIoO_ite ?_ ?_) | (refine PIoO_some ?_) | (exact PIoO_none) | (refine PIoO_cv (cQoO.c102 hc _ _ _ _ _ ?_) (fun _ _ => ?_)) | (refine PIoO_cv (cQoO.c105 hc _ _ ?_) (fun _ _ => ?_)) | (refine PIoO_in (cQoO.c104 hc _ _ ?_) (fun _ _ _ => ?_)) | (refine PIoO_in (cQoO.c106 hc _ _ ?_) (fun _ _ _ => ?_)) | (refine PIoO_rn (cQoO.c121 hc _ _ ?_) (fun _ _ _ => ?_)) | (refine PIoO_rn (cQoO.c123 hc _ _ _ _ ?_) (fun _ _ _ => ?_)) | (refine pioO_oj_X7_readOpen_173 hP hc  ?_)))
theorem pioO_oj_X7_readOpen_26  {x0 : Option Nat} {x1 : Int32} {t0 : Int32} {σ : oSt} (hP : iKptO P) (hc : cQoO P call)  (h : P σ) : PIo P (oj_X7_readOpen_26 n call κ  x0 x1 t0 σ) := by
  unfold oj_X7_readOpen_26
  repeat' (with_reducible (first | assumption | (refine PIoO_gd ?_) | (refine PIoO_pf hP ?_ (by decide) (by with_unfolding_all rfl) (fun _ _ => ?_)) | (refine PIoO_si hP ?_ (fun _ _ => ?_)) | (refine PIoO_sj hP ?_ (fun _ _ => ?_)) | (refine PIoO_sr hP ?_ (fun _ _ => ?_)) | (refine PIoO_cy hP ?_ (fun _ _ => ?_)) | (refine PIoO_bn (fun _ => ?_)) | (refine PIoO_na hP ?_ (fun _ _ => ?_)) | (refine PIoO_no hP ?_ (fun _ _ => ?_)) | (refine PIoO_ite ?_ ?_) | (refine PIoO_some ?_) | (exact PIoO_none) | (refine PIoO_cv (cQoO.c133 hc _ _ _ ?_) (fun _ _ => ?_)) | (refine PIoO_in (cQoO.c104 hc _ _ ?_) (fun _ _ _ => ?_)) | (refine PIoO_in (cQoO.c130 hc _ _ ?_) (fun _ _ _ => ?_)) | (refine PIoO_rn (cQoO.c118 hc _ _ _ ?_) (fun _ _ _ => ?_)) | (refine PIoO_rn (cQoO.c121 hc _ _ ?_) (fun _ _ _ => ?_)) | (refine PIoO_rn (cQoO.c137 hc _ _ _ ?_) (fun _ _ _ => ?_)) | (refine pioO_oj_X7_readOpen_94 hP hc  ?_)))
theorem pioO_ob_X7_readOpen  {x0 : Option Nat} {x1 : Int32} {σ : oSt} (hP : iKptO P) (hc : cQoO P call)  (h : P σ) : PIo P (ob_X7_readOpen n call κ  x0 x1 σ) := by
  unfold ob_X7_readOpen
  repeat' (with_reducible (first | assumption | (refine PIoO_gd ?_) | (refine PIoO_pf hP ?_ (by decide) (by with_unfolding_all rfl) (fun _ _ => ?_)) | (refine PIoO_si hP ?_ (fun _ _ => ?_)) | (refine PIoO_sj hP ?_ (fun _ _ => ?_)) | (refine PIoO_sr hP ?_ (fun _ _ => ?_)) | (refine PIoO_cy hP ?_ (fun _ _ => ?_)) | (refine PIoO_bn (fun _ => ?_)) | (refine PIoO_na hP ?_ (fun _ _ => ?_)) | (refine PIoO_no hP ?_ (fun _ _ => ?_)) | (refine PIoO_ite ?_ ?_) | (refine PIoO_some ?_) | (exact PIoO_none) | (refine PIoO_in (cQoO.c104 hc _ _ ?_) (fun _ _ _ => ?_)) | (refine pioO_oj_X7_readOpen_26 hP hc  ?_)))
theorem pioO_oj_X7_readRec_62  {x0 : Option Nat} {x1 : Option Nat} {x2 : Int32} {σ : oSt} (hP : iKptO P) (hc : cQoO P call)  (h : P σ) : PIo P (oj_X7_readRec_62 n call κ  x0 x1 x2 σ) := by
  unfold oj_X7_readRec_62
  repeat' (with_reducible (first | assumption | (refine PIoO_gd ?_) | (refine PIoO_pf hP ?_ (by decide) (by with_unfolding_all rfl) (fun _ _ => ?_)) | (refine PIoO_si hP ?_ (fun _ _ => ?_)) | (refine PIoO_sj hP ?_ (fun _ _ => ?_)) | (refine PIoO_sr hP ?_ (fun _ _ => ?_)) | (refine PIoO_cy hP ?_ (fun _ _ => ?_)) | (refine PIoO_bn (fun _ => ?_)) | (refine PIoO_na hP ?_ (fun _ _ => ?_)) | (refine PIoO_no hP ?_ (fun _ _ => ?_)) | (refine PIoO_ite ?_ ?_) | (refine PIoO_some ?_) | (exact PIoO_none) | (refine PIoO_cv (cQoO.c108 hc _ _ _ ?_) (fun _ _ => ?_)) | (refine PIoO_in (cQoO.c236 hc _ _ ?_) (fun _ _ _ => ?_)) | (refine PIoO_rn (cQoO.c135 hc _ _ _ ?_) (fun _ _ _ => ?_))))
theorem pioO_oj_X7_readRec_51 {k34 : Option Nat → Option Nat → Int32 → Int32 → oSt → oRs} {x0 : Option Nat} {x1 : Option Nat} {x2 : Int32} {x3 : Int32} {σ : oSt} (hP : iKptO P) (hc : cQoO P call) (hk34 : ∀ (a0 : Option Nat) (a1 : Option Nat) (a2 : Int32) (a3 : Int32), ∀ σ, P σ → PIo P (k34 a0 a1 a2 a3 σ)) (h : P σ) : PIo P (oj_X7_readRec_51 n call κ k34 x0 x1 x2 x3 σ) := by
  unfold oj_X7_readRec_51
  repeat' (with_reducible (first | assumption | (refine PIoO_gd ?_) | (refine PIoO_pf hP ?_ (by decide) (by with_unfolding_all rfl) (fun _ _ => ?_)) | (refine PIoO_si hP ?_ (fun _ _ => ?_)) | (refine PIoO_sj hP ?_ (fun _ _ => ?_)) | (refine PIoO_sr hP ?_ (fun _ _ => ?_)) | (refine PIoO_cy hP ?_ (fun _ _ => ?_)) | (refine PIoO_bn (fun _ => ?_)) | (refine PIoO_na hP ?_ (fun _ _ => ?_)) | (refine PIoO_no hP ?_ (fun _ _ => ?_)) | (refine PIoO_ite ?_ ?_) | (refine PIoO_some ?_) | (exact PIoO_none) | (refine PIoO_cv (cQoO.c132 hc _ _ _ ?_) (fun _ _ => ?_)) | (refine hk34 _ _ _ _ _ ?_)))
theorem pioO_ol_X7_readRec_34  (hP : iKptO P) (hc : cQoO P call)  : ∀ (t : Nat) (x0 : Option Nat) (x1 : Option Nat) (x2 : Int32) (x3 : Int32) (σ : oSt), P σ → PIo P (ol_X7_readRec_34 n call κ  t x0 x1 x2 x3 σ) := by
  intro t
  induction t with
  | zero => intros; exact PIoO_none
  | succ t ih =>
    intro x0 x1 x2 x3 σ h
    rw [ol_X7_readRec_34]
    repeat' (with_reducible (first | assumption | (refine PIoO_gd ?_) | (refine PIoO_pf hP ?_ (by decide) (by with_unfolding_all rfl) (fun _ _ => ?_)) | (refine PIoO_si hP ?_ (fun _ _ => ?_)) | (refine PIoO_sj hP ?_ (fun _ _ => ?_)) | (refine PIoO_sr hP ?_ (fun _ _ => ?_)) | (refine PIoO_cy hP ?_ (fun _ _ => ?_)) | (refine PIoO_bn (fun _ => ?_)) | (refine PIoO_na hP ?_ (fun _ _ => ?_)) | (refine PIoO_no hP ?_ (fun _ _ => ?_)) | (refine PIoO_ite ?_ ?_) | (refine PIoO_some ?_) | (exact PIoO_none) | (refine PIoO_in (cQoO.c104 hc _ _ ?_) (fun _ _ _ => ?_)) | (refine pioO_oj_X7_readRec_62 hP hc  ?_) | (refine pioO_oj_X7_readRec_51 hP hc ih ?_)))
theorem pioO_ob_X7_readRec  {x0 : Option Nat} {x1 : Option Nat} {x2 : Int32} {σ : oSt} (hP : iKptO P) (hc : cQoO P call)  (h : P σ) : PIo P (ob_X7_readRec n call κ  x0 x1 x2 σ) := by
  unfold ob_X7_readRec
  repeat' (with_reducible (first | assumption | (refine PIoO_gd ?_) | (refine PIoO_pf hP ?_ (by decide) (by with_unfolding_all rfl) (fun _ _ => ?_)) | (refine PIoO_si hP ?_ (fun _ _ => ?_)) | (refine PIoO_sj hP ?_ (fun _ _ => ?_)) | (refine PIoO_sr hP ?_ (fun _ _ => ?_)) | (refine PIoO_cy hP ?_ (fun _ _ => ?_)) | (refine PIoO_bn (fun _ => ?_)) | (refine PIoO_na hP ?_ (fun _ _ => ?_)) | (refine PIoO_no hP ?_ (fun _ _ => ?_)) | (refine PIoO_ite ?_ ?_) | (refine PIoO_some ?_) | (exact PIoO_none) | (refine PIoO_cv (cQoO.c105 hc _ _ ?_) (fun _ _ => ?_)) | (refine PIoO_cv (cQoO.c116 hc _ _ _ ?_) (fun _ _ => ?_)) | (refine PIoO_cv (cQoO.c131 hc _ _ _ ?_) (fun _ _ => ?_)) | (refine PIoO_rn (cQoO.c115 hc _ _ ?_) (fun _ _ _ => ?_)) | (refine pioO_ol_X7_readRec_34 hP hc  _ _ _ _ _ _ ?_)))
theorem pioO_ob_X7_readSet  {x0 : Option Nat} {x1 : Option Nat} {x2 : Int32} {σ : oSt} (hP : iKptO P) (hc : cQoO P call)  (h : P σ) : PIo P (ob_X7_readSet n call κ  x0 x1 x2 σ) := by
  unfold ob_X7_readSet
  repeat' (with_reducible (first | assumption | (refine PIoO_gd ?_) | (refine PIoO_pf hP ?_ (by decide) (by with_unfolding_all rfl) (fun _ _ => ?_)) | (refine PIoO_si hP ?_ (fun _ _ => ?_)) | (refine PIoO_sj hP ?_ (fun _ _ => ?_)) | (refine PIoO_sr hP ?_ (fun _ _ => ?_)) | (refine PIoO_cy hP ?_ (fun _ _ => ?_)) | (refine PIoO_bn (fun _ => ?_)) | (refine PIoO_na hP ?_ (fun _ _ => ?_)) | (refine PIoO_no hP ?_ (fun _ _ => ?_)) | (refine PIoO_ite ?_ ?_) | (refine PIoO_some ?_) | (exact PIoO_none) | (refine PIoO_cv (cQoO.c105 hc _ _ ?_) (fun _ _ => ?_)) | (refine PIoO_cv (cQoO.c108 hc _ _ _ ?_) (fun _ _ => ?_)) | (refine PIoO_cv (cQoO.c133 hc _ _ _ ?_) (fun _ _ => ?_)) | (refine PIoO_rn (cQoO.c121 hc _ _ ?_) (fun _ _ _ => ?_)) | (refine PIoO_rn (cQoO.c135 hc _ _ _ ?_) (fun _ _ _ => ?_))))
theorem pioO_oj_X7_readProgram_72  {x0 : Option Nat} {σ : oSt} (hP : iKptO P) (hc : cQoO P call)  (h : P σ) : PIo P (oj_X7_readProgram_72 n call κ  x0 σ) := by
  unfold oj_X7_readProgram_72
  repeat' (with_reducible (first | assumption | (refine PIoO_gd ?_) | (refine PIoO_pf hP ?_ (by decide) (by with_unfolding_all rfl) (fun _ _ => ?_)) | (refine PIoO_si hP ?_ (fun _ _ => ?_)) | (refine PIoO_sj hP ?_ (fun _ _ => ?_)) | (refine PIoO_sr hP ?_ (fun _ _ => ?_)) | (refine PIoO_cy hP ?_ (fun _ _ => ?_)) | (refine PIoO_bn (fun _ => ?_)) | (refine PIoO_na hP ?_ (fun _ _ => ?_)) | (refine PIoO_no hP ?_ (fun _ _ => ?_)) | (refine PIoO_ite ?_ ?_) | (refine PIoO_some ?_) | (exact PIoO_none) | (refine PIoO_cv (cQoO.c107 hc _ _ ?_) (fun _ _ => ?_)) | (refine PIoO_in (cQoO.c104 hc _ _ ?_) (fun _ _ _ => ?_)) | (refine PIoO_rn (cQoO.c135 hc _ _ _ ?_) (fun _ _ _ => ?_))))
theorem pioO_ol_X7_readProgram_36  (hP : iKptO P) (hc : cQoO P call)  : ∀ (t : Nat) (x0 : Option Nat) (σ : oSt), P σ → PIo P (ol_X7_readProgram_36 n call κ  t x0 σ) := by
  intro t
  induction t with
  | zero => intros; exact PIoO_none
  | succ t ih =>
    intro x0 σ h
    rw [ol_X7_readProgram_36]
    repeat' (with_reducible (first | assumption | (refine PIoO_gd ?_) | (refine PIoO_pf hP ?_ (by decide) (by with_unfolding_all rfl) (fun _ _ => ?_)) | (refine PIoO_si hP ?_ (fun _ _ => ?_)) | (refine PIoO_sj hP ?_ (fun _ _ => ?_)) | (refine PIoO_sr hP ?_ (fun _ _ => ?_)) | (refine PIoO_cy hP ?_ (fun _ _ => ?_)) | (refine PIoO_bn (fun _ => ?_)) | (refine PIoO_na hP ?_ (fun _ _ => ?_)) | (refine PIoO_no hP ?_ (fun _ _ => ?_)) | (refine PIoO_ite ?_ ?_) | (refine PIoO_some ?_) | (exact PIoO_none) | (refine PIoO_cv (cQoO.c117 hc _ _ ?_) (fun _ _ => ?_)) | (refine PIoO_in (cQoO.c104 hc _ _ ?_) (fun _ _ _ => ?_)) | (refine pioO_oj_X7_readProgram_72 hP hc  ?_) | (refine ih _ _ ?_)))
theorem pioO_ol_X7_readProgram_0  (hP : iKptO P) (hc : cQoO P call)  : ∀ (t : Nat) (x0 : Option Nat) (σ : oSt), P σ → PIo P (ol_X7_readProgram_0 n call κ  t x0 σ) := by
  intro t
  induction t with
  | zero => intros; exact PIoO_none
  | succ t ih =>
    intro x0 σ h
    rw [ol_X7_readProgram_0]
    repeat' (with_reducible (first | assumption | (refine PIoO_gd ?_) | (refine PIoO_pf hP ?_ (by decide) (by with_unfolding_all rfl) (fun _ _ => ?_)) | (refine PIoO_si hP ?_ (fun _ _ => ?_)) | (refine PIoO_sj hP ?_ (fun _ _ => ?_)) | (refine PIoO_sr hP ?_ (fun _ _ => ?_)) | (refine PIoO_cy hP ?_ (fun _ _ => ?_)) | (refine PIoO_bn (fun _ => ?_)) | (refine PIoO_na hP ?_ (fun _ _ => ?_)) | (refine PIoO_no hP ?_ (fun _ _ => ?_)) | (refine PIoO_ite ?_ ?_) | (refine PIoO_some ?_) | (exact PIoO_none) | (refine PIoO_cv (cQoO.c112 hc _ _ ?_) (fun _ _ => ?_)) | (refine PIoO_in (cQoO.c104 hc _ _ ?_) (fun _ _ _ => ?_)) | (refine pioO_ol_X7_readProgram_36 hP hc  _ _ _ ?_) | (refine ih _ _ ?_)))
theorem pioO_ob_X7_readProgram  {x0 : Option Nat} {σ : oSt} (hP : iKptO P) (hc : cQoO P call)  (h : P σ) : PIo P (ob_X7_readProgram n call κ  x0 σ) := by
  unfold ob_X7_readProgram
  repeat' (with_reducible (first | assumption | (refine PIoO_gd ?_) | (refine PIoO_pf hP ?_ (by decide) (by with_unfolding_all rfl) (fun _ _ => ?_)) | (refine PIoO_si hP ?_ (fun _ _ => ?_)) | (refine PIoO_sj hP ?_ (fun _ _ => ?_)) | (refine PIoO_sr hP ?_ (fun _ _ => ?_)) | (refine PIoO_cy hP ?_ (fun _ _ => ?_)) | (refine PIoO_bn (fun _ => ?_)) | (refine PIoO_na hP ?_ (fun _ _ => ?_)) | (refine PIoO_no hP ?_ (fun _ _ => ?_)) | (refine PIoO_ite ?_ ?_) | (refine PIoO_some ?_) | (exact PIoO_none) | (refine pioO_ol_X7_readProgram_0 hP hc  _ _ _ ?_)))
theorem pioO_ob_X10_make  {x0 : Option Nat} {x1 : Int32} {σ : oSt} (hP : iKptO P) (hc : cQoO P call)  (h : P σ) : PIo P (ob_X10_make n call κ  x0 x1 σ) := by
  unfold ob_X10_make
  repeat' (with_reducible (first | assumption | (refine PIoO_gd ?_) | (refine PIoO_pf hP ?_ (by decide) (by with_unfolding_all rfl) (fun _ _ => ?_)) | (refine PIoO_si hP ?_ (fun _ _ => ?_)) | (refine PIoO_sj hP ?_ (fun _ _ => ?_)) | (refine PIoO_sr hP ?_ (fun _ _ => ?_)) | (refine PIoO_cy hP ?_ (fun _ _ => ?_)) | (refine PIoO_bn (fun _ => ?_)) | (refine PIoO_na hP ?_ (fun _ _ => ?_)) | (refine PIoO_no hP ?_ (fun _ _ => ?_)) | (refine PIoO_ite ?_ ?_) | (refine PIoO_some ?_) | (exact PIoO_none)))
theorem pioO_ob_X10_init  {x0 : Option Nat} {x1 : Int32} {σ : oSt} (hP : iKptO P) (hc : cQoO P call)  (h : P σ) : PIo P (ob_X10_init n call κ  x0 x1 σ) := by
  unfold ob_X10_init
  repeat' (with_reducible (first | assumption | (refine PIoO_gd ?_) | (refine PIoO_pf hP ?_ (by decide) (by with_unfolding_all rfl) (fun _ _ => ?_)) | (refine PIoO_si hP ?_ (fun _ _ => ?_)) | (refine PIoO_sj hP ?_ (fun _ _ => ?_)) | (refine PIoO_sr hP ?_ (fun _ _ => ?_)) | (refine PIoO_cy hP ?_ (fun _ _ => ?_)) | (refine PIoO_bn (fun _ => ?_)) | (refine PIoO_na hP ?_ (fun _ _ => ?_)) | (refine PIoO_no hP ?_ (fun _ _ => ?_)) | (refine PIoO_ite ?_ ?_) | (refine PIoO_some ?_) | (exact PIoO_none) | (refine PIoO_in (cQoO.c146 hc _ _ _ ?_) (fun _ _ _ => ?_))))
theorem pioO_ob_X10_basic  {x0 : Int32} {σ : oSt} (hP : iKptO P) (hc : cQoO P call)  (h : P σ) : PIo P (ob_X10_basic n call κ  x0 σ) := by
  unfold ob_X10_basic
  repeat' (with_reducible (first | assumption | (refine PIoO_gd ?_) | (refine PIoO_pf hP ?_ (by decide) (by with_unfolding_all rfl) (fun _ _ => ?_)) | (refine PIoO_si hP ?_ (fun _ _ => ?_)) | (refine PIoO_sj hP ?_ (fun _ _ => ?_)) | (refine PIoO_sr hP ?_ (fun _ _ => ?_)) | (refine PIoO_cy hP ?_ (fun _ _ => ?_)) | (refine PIoO_bn (fun _ => ?_)) | (refine PIoO_na hP ?_ (fun _ _ => ?_)) | (refine PIoO_no hP ?_ (fun _ _ => ?_)) | (refine PIoO_ite ?_ ?_) | (refine PIoO_some ?_) | (exact PIoO_none)))
theorem pioO_ob_X10_function  {x0 : Option Nat} {x1 : Int32} {x2 : Int32} {σ : oSt} (hP : iKptO P) (hc : cQoO P call)  (h : P σ) : PIo P (ob_X10_function n call κ  x0 x1 x2 σ) := by
  unfold ob_X10_function
  repeat' (with_reducible (first | assumption | (refine PIoO_gd ?_) | (refine PIoO_pf hP ?_ (by decide) (by with_unfolding_all rfl) (fun _ _ => ?_)) | (refine PIoO_si hP ?_ (fun _ _ => ?_)) | (refine PIoO_sj hP ?_ (fun _ _ => ?_)) | (refine PIoO_sr hP ?_ (fun _ _ => ?_)) | (refine PIoO_cy hP ?_ (fun _ _ => ?_)) | (refine PIoO_bn (fun _ => ?_)) | (refine PIoO_na hP ?_ (fun _ _ => ?_)) | (refine PIoO_no hP ?_ (fun _ _ => ?_)) | (refine PIoO_ite ?_ ?_) | (refine PIoO_some ?_) | (exact PIoO_none) | (refine PIoO_in (cQoO.c146 hc _ _ _ ?_) (fun _ _ _ => ?_))))
theorem pioO_oj_X10_unify_222 {k25 : Option Nat → Int32 → Int32 → oSt → oRs} {x0 : Option Nat} {x3 : Int32} {x4 : Int32} {σ : oSt} (hP : iKptO P) (hc : cQoO P call) (hk25 : ∀ (a0 : Option Nat) (a1 : Int32) (a2 : Int32), ∀ σ, P σ → PIo P (k25 a0 a1 a2 σ)) (h : P σ) : PIo P (oj_X10_unify_222 n call κ k25 x0 x3 x4 σ) := by
  unfold oj_X10_unify_222
  repeat' (with_reducible (first | assumption | (refine PIoO_gd ?_) | (refine PIoO_pf hP ?_ (by decide) (by with_unfolding_all rfl) (fun _ _ => ?_)) | (refine PIoO_si hP ?_ (fun _ _ => ?_)) | (refine PIoO_sj hP ?_ (fun _ _ => ?_)) | (refine PIoO_sr hP ?_ (fun _ _ => ?_)) | (refine PIoO_cy hP ?_ (fun _ _ => ?_)) | (refine PIoO_bn (fun _ => ?_)) | (refine PIoO_na hP ?_ (fun _ _ => ?_)) | (refine PIoO_no hP ?_ (fun _ _ => ?_)) | (refine PIoO_ite ?_ ?_) | (refine PIoO_some ?_) | (exact PIoO_none) | (refine hk25 _ _ _ _ ?_)))
theorem pioO_ol_X10_unify_25  (hP : iKptO P) (hc : cQoO P call)  : ∀ (t : Nat) (x0 : Option Nat) (x1 : Int32) (x2 : Int32) (σ : oSt), P σ → PIo P (ol_X10_unify_25 n call κ  t x0 x1 x2 σ) := by
  intro t
  induction t with
  | zero => intros; exact PIoO_none
  | succ t ih =>
    intro x0 x1 x2 σ h
    rw [ol_X10_unify_25]
    repeat' (with_reducible (first | assumption | (refine PIoO_gd ?_) | (refine PIoO_pf hP ?_ (by decide) (by with_unfolding_all rfl) (fun _ _ => ?_)) | (refine PIoO_si hP ?_ (fun _ _ => ?_)) | (refine PIoO_sj hP ?_ (fun _ _ => ?_)) | (refine PIoO_sr hP ?_ (fun _ _ => ?_)) | (refine PIoO_cy hP ?_ (fun _ _ => ?_)) | (refine PIoO_bn (fun _ => ?_)) | (refine PIoO_na hP ?_ (fun _ _ => ?_)) | (refine PIoO_no hP ?_ (fun _ _ => ?_)) | (refine PIoO_ite ?_ ?_) | (refine PIoO_some ?_) | (exact PIoO_none) | (refine PIoO_in (cQoO.c21 hc _ _ _ ?_) (fun _ _ _ => ?_)) | (refine pioO_oj_X10_unify_222 hP hc ih ?_)))
theorem pioO_ob_X10_unify  {x0 : Option Nat} {x1 : Int32} {x2 : Int32} {σ : oSt} (hP : iKptO P) (hc : cQoO P call)  (h : P σ) : PIo P (ob_X10_unify n call κ  x0 x1 x2 σ) := by
  unfold ob_X10_unify
  repeat' (with_reducible (first | assumption | (refine PIoO_gd ?_) | (refine PIoO_pf hP ?_ (by decide) (by with_unfolding_all rfl) (fun _ _ => ?_)) | (refine PIoO_si hP ?_ (fun _ _ => ?_)) | (refine PIoO_sj hP ?_ (fun _ _ => ?_)) | (refine PIoO_sr hP ?_ (fun _ _ => ?_)) | (refine PIoO_cy hP ?_ (fun _ _ => ?_)) | (refine PIoO_bn (fun _ => ?_)) | (refine PIoO_na hP ?_ (fun _ _ => ?_)) | (refine PIoO_no hP ?_ (fun _ _ => ?_)) | (refine PIoO_ite ?_ ?_) | (refine PIoO_some ?_) | (exact PIoO_none) | (refine pioO_ol_X10_unify_25 hP hc  _ _ _ _ _ ?_)))
theorem pioO_oj_X10_isFinite_163 {k22 : Option Nat → Int32 → Int32 → oSt → oRs} {x0 : Option Nat} {x2 : Int32} {x3 : Int32} {σ : oSt} (hP : iKptO P) (hc : cQoO P call) (hk22 : ∀ (a0 : Option Nat) (a1 : Int32) (a2 : Int32), ∀ σ, P σ → PIo P (k22 a0 a1 a2 σ)) (h : P σ) : PIo P (oj_X10_isFinite_163 n call κ k22 x0 x2 x3 σ) := by
  unfold oj_X10_isFinite_163
  repeat' (with_reducible (first | assumption | (refine PIoO_gd ?_) | (refine PIoO_pf hP ?_ (by decide) (by with_unfolding_all rfl) (fun _ _ => ?_)) | (refine PIoO_si hP ?_ (fun _ _ => ?_)) | (refine PIoO_sj hP ?_ (fun _ _ => ?_)) | (refine PIoO_sr hP ?_ (fun _ _ => ?_)) | (refine PIoO_cy hP ?_ (fun _ _ => ?_)) | (refine PIoO_bn (fun _ => ?_)) | (refine PIoO_na hP ?_ (fun _ _ => ?_)) | (refine PIoO_no hP ?_ (fun _ _ => ?_)) | (refine PIoO_ite ?_ ?_) | (refine PIoO_some ?_) | (exact PIoO_none) | (refine hk22 _ _ _ _ ?_)))
theorem pioO_oj_X10_isFinite_69 {k22 : Option Nat → Int32 → Int32 → oSt → oRs} {x0 : Option Nat} {x2 : Int32} {x3 : Int32} {x4 : Int32} {σ : oSt} (hP : iKptO P) (hc : cQoO P call) (hk22 : ∀ (a0 : Option Nat) (a1 : Int32) (a2 : Int32), ∀ σ, P σ → PIo P (k22 a0 a1 a2 σ)) (h : P σ) : PIo P (oj_X10_isFinite_69 n call κ k22 x0 x2 x3 x4 σ) := by
  unfold oj_X10_isFinite_69
  repeat' (with_reducible (first | assumption | (refine PIoO_gd ?_) | (refine PIoO_pf hP ?_ (by decide) (by with_unfolding_all rfl) (fun _ _ => ?_)) | (refine PIoO_si hP ?_ (fun _ _ => ?_)) | (refine PIoO_sj hP ?_ (fun _ _ => ?_)) | (refine PIoO_sr hP ?_ (fun _ _ => ?_)) | (refine PIoO_cy hP ?_ (fun _ _ => ?_)) | (refine PIoO_bn (fun _ => ?_)) | (refine PIoO_na hP ?_ (fun _ _ => ?_)) | (refine PIoO_no hP ?_ (fun _ _ => ?_)) | (refine PIoO_ite ?_ ?_) | (refine PIoO_some ?_) | (exact PIoO_none) | (refine pioO_oj_X10_isFinite_163 hP hc hk22 ?_) | (refine hk22 _ _ _ _ ?_)))
theorem pioO_ol_X10_isFinite_22  (hP : iKptO P) (hc : cQoO P call)  : ∀ (t : Nat) (x0 : Option Nat) (x1 : Int32) (x2 : Int32) (σ : oSt), P σ → PIo P (ol_X10_isFinite_22 n call κ  t x0 x1 x2 σ) := by
  intro t
  induction t with
  | zero => intros; exact PIoO_none
  | succ t ih =>
    intro x0 x1 x2 σ h
    rw [ol_X10_isFinite_22]
    repeat' (with_reducible (first | assumption | (refine PIoO_gd ?_) | (refine PIoO_pf hP ?_ (by decide) (by with_unfolding_all rfl) (fun _ _ => ?_)) | (refine PIoO_si hP ?_ (fun _ _ => ?_)) | (refine PIoO_sj hP ?_ (fun _ _ => ?_)) | (refine PIoO_sr hP ?_ (fun _ _ => ?_)) | (refine PIoO_cy hP ?_ (fun _ _ => ?_)) | (refine PIoO_bn (fun _ => ?_)) | (refine PIoO_na hP ?_ (fun _ _ => ?_)) | (refine PIoO_no hP ?_ (fun _ _ => ?_)) | (refine PIoO_ite ?_ ?_) | (refine PIoO_some ?_) | (exact PIoO_none) | (refine PIoO_in (cQoO.c21 hc _ _ _ ?_) (fun _ _ _ => ?_)) | (refine pioO_oj_X10_isFinite_163 hP hc ih ?_) | (refine pioO_oj_X10_isFinite_69 hP hc ih ?_)))
theorem pioO_ob_X10_isFinite  {x0 : Option Nat} {x1 : Int32} {σ : oSt} (hP : iKptO P) (hc : cQoO P call)  (h : P σ) : PIo P (ob_X10_isFinite n call κ  x0 x1 σ) := by
  unfold ob_X10_isFinite
  repeat' (with_reducible (first | assumption | (refine PIoO_gd ?_) | (refine PIoO_pf hP ?_ (by decide) (by with_unfolding_all rfl) (fun _ _ => ?_)) | (refine PIoO_si hP ?_ (fun _ _ => ?_)) | (refine PIoO_sj hP ?_ (fun _ _ => ?_)) | (refine PIoO_sr hP ?_ (fun _ _ => ?_)) | (refine PIoO_cy hP ?_ (fun _ _ => ?_)) | (refine PIoO_bn (fun _ => ?_)) | (refine PIoO_na hP ?_ (fun _ _ => ?_)) | (refine PIoO_no hP ?_ (fun _ _ => ?_)) | (refine PIoO_ite ?_ ?_) | (refine PIoO_some ?_) | (exact PIoO_none) | (refine PIoO_cv (cQoO.c242 hc _ _ _ ?_) (fun _ _ => ?_)) | (refine pioO_ol_X10_isFinite_22 hP hc  _ _ _ _ _ ?_)))
theorem pioO_oj_X10_must_24  {x0 : Option Nat} {x3 : Int32} {σ : oSt} (hP : iKptO P) (hc : cQoO P call)  (h : P σ) : PIo P (oj_X10_must_24 n call κ  x0 x3 σ) := by
  unfold oj_X10_must_24
  repeat' (with_reducible (first | assumption | (refine PIoO_gd ?_) | (refine PIoO_pf hP ?_ (by decide) (by with_unfolding_all rfl) (fun _ _ => ?_)) | (refine PIoO_si hP ?_ (fun _ _ => ?_)) | (refine PIoO_sj hP ?_ (fun _ _ => ?_)) | (refine PIoO_sr hP ?_ (fun _ _ => ?_)) | (refine PIoO_cy hP ?_ (fun _ _ => ?_)) | (refine PIoO_bn (fun _ => ?_)) | (refine PIoO_na hP ?_ (fun _ _ => ?_)) | (refine PIoO_no hP ?_ (fun _ _ => ?_)) | (refine PIoO_ite ?_ ?_) | (refine PIoO_some ?_) | (exact PIoO_none)))
theorem pioO_ob_X10_must  {x0 : Option Nat} {x1 : Int32} {x2 : Int32} {x3 : Int32} {σ : oSt} (hP : iKptO P) (hc : cQoO P call)  (h : P σ) : PIo P (ob_X10_must n call κ  x0 x1 x2 x3 σ) := by
  unfold ob_X10_must
  repeat' (with_reducible (first | assumption | (refine PIoO_gd ?_) | (refine PIoO_pf hP ?_ (by decide) (by with_unfolding_all rfl) (fun _ _ => ?_)) | (refine PIoO_si hP ?_ (fun _ _ => ?_)) | (refine PIoO_sj hP ?_ (fun _ _ => ?_)) | (refine PIoO_sr hP ?_ (fun _ _ => ?_)) | (refine PIoO_cy hP ?_ (fun _ _ => ?_)) | (refine PIoO_bn (fun _ => ?_)) | (refine PIoO_na hP ?_ (fun _ _ => ?_)) | (refine PIoO_no hP ?_ (fun _ _ => ?_)) | (refine PIoO_ite ?_ ?_) | (refine PIoO_some ?_) | (exact PIoO_none) | (refine PIoO_in (cQoO.c150 hc _ _ _ _ ?_) (fun _ _ _ => ?_)) | (refine PIoO_in (cQoO.c151 hc _ _ _ ?_) (fun _ _ _ => ?_)) | (refine pioO_oj_X10_must_24 hP hc  ?_)))
theorem pioO_ol_X10_checkSum_2  (hP : iKptO P) (hc : cQoO P call)  : ∀ (t : Nat) (x0 : Option Nat) (x1 : Option Nat) (x2 : Int32) (σ : oSt), P σ → PIo P (ol_X10_checkSum_2 n call κ  t x0 x1 x2 σ) := by
  intro t
  induction t with
  | zero => intros; exact PIoO_none
  | succ t ih =>
    intro x0 x1 x2 σ h
    rw [ol_X10_checkSum_2]
    repeat' (with_reducible (first | assumption | (refine PIoO_gd ?_) | (refine PIoO_pf hP ?_ (by decide) (by with_unfolding_all rfl) (fun _ _ => ?_)) | (refine PIoO_si hP ?_ (fun _ _ => ?_)) | (refine PIoO_sj hP ?_ (fun _ _ => ?_)) | (refine PIoO_sr hP ?_ (fun _ _ => ?_)) | (refine PIoO_cy hP ?_ (fun _ _ => ?_)) | (refine PIoO_bn (fun _ => ?_)) | (refine PIoO_na hP ?_ (fun _ _ => ?_)) | (refine PIoO_no hP ?_ (fun _ _ => ?_)) | (refine PIoO_ite ?_ ?_) | (refine PIoO_some ?_) | (exact PIoO_none) | (refine PIoO_cv (cQoO.c152 hc _ _ _ _ _ ?_) (fun _ _ => ?_)) | (refine PIoO_in (cQoO.c148 hc _ _ ?_) (fun _ _ _ => ?_)) | (refine PIoO_in (cQoO.c236 hc _ _ ?_) (fun _ _ _ => ?_)) | (refine PIoO_rn (cQoO.c234 hc _ _ _ ?_) (fun _ _ _ => ?_)) | (refine ih _ _ _ _ ?_)))
theorem pioO_ob_X10_checkSum  {x0 : Option Nat} {x1 : Option Nat} {σ : oSt} (hP : iKptO P) (hc : cQoO P call)  (h : P σ) : PIo P (ob_X10_checkSum n call κ  x0 x1 σ) := by
  unfold ob_X10_checkSum
  repeat' (with_reducible (first | assumption | (refine PIoO_gd ?_) | (refine PIoO_pf hP ?_ (by decide) (by with_unfolding_all rfl) (fun _ _ => ?_)) | (refine PIoO_si hP ?_ (fun _ _ => ?_)) | (refine PIoO_sj hP ?_ (fun _ _ => ?_)) | (refine PIoO_sr hP ?_ (fun _ _ => ?_)) | (refine PIoO_cy hP ?_ (fun _ _ => ?_)) | (refine PIoO_bn (fun _ => ?_)) | (refine PIoO_na hP ?_ (fun _ _ => ?_)) | (refine PIoO_no hP ?_ (fun _ _ => ?_)) | (refine PIoO_ite ?_ ?_) | (refine PIoO_some ?_) | (exact PIoO_none) | (refine pioO_ol_X10_checkSum_2 hP hc  _ _ _ _ _ ?_)))
theorem pioO_ol_X10_checkTest_69  (hP : iKptO P) (hc : cQoO P call)  : ∀ (t : Nat) (x0 : Option Nat) (x1 : Option Nat) (x2 : Int32) (σ : oSt), P σ → PIo P (ol_X10_checkTest_69 n call κ  t x0 x1 x2 σ) := by
  intro t
  induction t with
  | zero => intros; exact PIoO_none
  | succ t ih =>
    intro x0 x1 x2 σ h
    rw [ol_X10_checkTest_69]
    repeat' (with_reducible (first | assumption | (refine PIoO_gd ?_) | (refine PIoO_pf hP ?_ (by decide) (by with_unfolding_all rfl) (fun _ _ => ?_)) | (refine PIoO_si hP ?_ (fun _ _ => ?_)) | (refine PIoO_sj hP ?_ (fun _ _ => ?_)) | (refine PIoO_sr hP ?_ (fun _ _ => ?_)) | (refine PIoO_cy hP ?_ (fun _ _ => ?_)) | (refine PIoO_bn (fun _ => ?_)) | (refine PIoO_na hP ?_ (fun _ _ => ?_)) | (refine PIoO_no hP ?_ (fun _ _ => ?_)) | (refine PIoO_ite ?_ ?_) | (refine PIoO_some ?_) | (exact PIoO_none) | (refine PIoO_cv (cQoO.c154 hc _ _ _ ?_) (fun _ _ => ?_)) | (refine PIoO_in (cQoO.c236 hc _ _ ?_) (fun _ _ _ => ?_)) | (refine PIoO_rn (cQoO.c234 hc _ _ _ ?_) (fun _ _ _ => ?_)) | (refine ih _ _ _ _ ?_)))
theorem pioO_ob_X10_checkTest  {x0 : Option Nat} {x1 : Option Nat} {σ : oSt} (hP : iKptO P) (hc : cQoO P call)  (h : P σ) : PIo P (ob_X10_checkTest n call κ  x0 x1 σ) := by
  unfold ob_X10_checkTest
  repeat' (with_reducible (first | assumption | (refine PIoO_gd ?_) | (refine PIoO_pf hP ?_ (by decide) (by with_unfolding_all rfl) (fun _ _ => ?_)) | (refine PIoO_si hP ?_ (fun _ _ => ?_)) | (refine PIoO_sj hP ?_ (fun _ _ => ?_)) | (refine PIoO_sr hP ?_ (fun _ _ => ?_)) | (refine PIoO_cy hP ?_ (fun _ _ => ?_)) | (refine PIoO_bn (fun _ => ?_)) | (refine PIoO_na hP ?_ (fun _ _ => ?_)) | (refine PIoO_no hP ?_ (fun _ _ => ?_)) | (refine PIoO_ite ?_ ?_) | (refine PIoO_some ?_) | (exact PIoO_none) | (refine PIoO_cv (cQoO.c152 hc _ _ _ _ _ ?_) (fun _ _ => ?_)) | (refine PIoO_cv (cQoO.c153 hc _ _ _ ?_) (fun _ _ => ?_)) | (refine PIoO_cv (cQoO.c154 hc _ _ _ ?_) (fun _ _ => ?_)) | (refine PIoO_in (cQoO.c148 hc _ _ ?_) (fun _ _ _ => ?_)) | (refine pioO_ol_X10_checkTest_69 hP hc  _ _ _ _ _ ?_)))
theorem pioO_ob_X10_inferPlain  {x0 : Option Nat} {x1 : Option Nat} {σ : oSt} (hP : iKptO P) (hc : cQoO P call)  (h : P σ) : PIo P (ob_X10_inferPlain n call κ  x0 x1 σ) := by
  unfold ob_X10_inferPlain
  repeat' (with_reducible (first | assumption | (refine PIoO_gd ?_) | (refine PIoO_pf hP ?_ (by decide) (by with_unfolding_all rfl) (fun _ _ => ?_)) | (refine PIoO_si hP ?_ (fun _ _ => ?_)) | (refine PIoO_sj hP ?_ (fun _ _ => ?_)) | (refine PIoO_sr hP ?_ (fun _ _ => ?_)) | (refine PIoO_cy hP ?_ (fun _ _ => ?_)) | (refine PIoO_bn (fun _ => ?_)) | (refine PIoO_na hP ?_ (fun _ _ => ?_)) | (refine PIoO_no hP ?_ (fun _ _ => ?_)) | (refine PIoO_ite ?_ ?_) | (refine PIoO_some ?_) | (exact PIoO_none) | (refine PIoO_cv (cQoO.c152 hc _ _ _ _ _ ?_) (fun _ _ => ?_)) | (refine PIoO_cv (cQoO.c153 hc _ _ _ ?_) (fun _ _ => ?_)) | (refine PIoO_in (cQoO.c148 hc _ _ ?_) (fun _ _ _ => ?_))))
theorem pioO_oj_X10_infer_351  {x1 : Option Nat} {σ : oSt} (hP : iKptO P) (hc : cQoO P call)  (h : P σ) : PIo P (oj_X10_infer_351 n call κ  x1 σ) := by
  unfold oj_X10_infer_351
  repeat' (with_reducible (first | assumption | (refine PIoO_gd ?_) | (refine PIoO_pf hP ?_ (by decide) (by with_unfolding_all rfl) (fun _ _ => ?_)) | (refine PIoO_si hP ?_ (fun _ _ => ?_)) | (refine PIoO_sj hP ?_ (fun _ _ => ?_)) | (refine PIoO_sr hP ?_ (fun _ _ => ?_)) | (refine PIoO_cy hP ?_ (fun _ _ => ?_)) | (refine PIoO_bn (fun _ => ?_)) | (refine PIoO_na hP ?_ (fun _ _ => ?_)) | (refine PIoO_no hP ?_ (fun _ _ => ?_)) | (refine PIoO_ite ?_ ?_) | (refine PIoO_some ?_) | (exact PIoO_none)))
theorem pioO_ob_X10_infer  {x0 : Option Nat} {x1 : Option Nat} {σ : oSt} (hP : iKptO P) (hc : cQoO P call)  (h : P σ) : PIo P (ob_X10_infer n call κ  x0 x1 σ) := by
  unfold ob_X10_infer
  repeat' (with_reducible (first | assumption | (refine PIoO_gd ?_) | (refine PIoO_pf hP ?_ (by decide) (by with_unfolding_all rfl) (fun _ _ => ?_)) | (refine PIoO_si hP ?_ (fun _ _ => ?_)) | (refine PIoO_sj hP ?_ (fun _ _ => ?_)) | (refine PIoO_sr hP ?_ (fun _ _ => ?_)) | (refine PIoO_cy hP ?_ (fun _ _ => ?_)) | (refine PIoO_bn (fun _ => ?_)) | (refine PIoO_na hP ?_ (fun _ _ => ?_)) | (refine PIoO_no hP ?_ (fun _ _ => ?_)) | (refine PIoO_ite ?_ ?_) | (refine PIoO_some ?_) | (exact PIoO_none) | (refine PIoO_cv (cQoO.c152 hc _ _ _ _ _ ?_) (fun _ _ => ?_)) | (refine PIoO_cv (cQoO.c153 hc _ _ _ ?_) (fun _ _ => ?_)) | (refine PIoO_cv (cQoO.c154 hc _ _ _ ?_) (fun _ _ => ?_)) | (refine PIoO_cv (cQoO.c157 hc _ _ _ ?_) (fun _ _ => ?_)) | (refine PIoO_cv (cQoO.c158 hc _ _ _ ?_) (fun _ _ => ?_)) | (refine PIoO_cv (cQoO.c159 hc _ _ _ ?_) (fun _ _ => ?_)) | (refine PIoO_in (cQoO.c146 hc _ _ _ ?_) (fun _ _ _ => ?_)) | (refine PIoO_in (cQoO.c148 hc _ _ ?_) (fun _ _ _ => ?_)) | (refine PIoO_in (cQoO.c149 hc _ _ _ _ ?_) (fun _ _ _ => ?_)) | (refine PIoO_in (cQoO.c155 hc _ _ _ ?_) (fun _ _ _ => ?_)) | (refine PIoO_in (cQoO.c156 hc _ _ _ ?_) (fun _ _ _ => ?_)) | (refine PIoO_rn (cQoO.c234 hc _ _ _ ?_) (fun _ _ _ => ?_)) | (refine pioO_oj_X10_infer_351 hP hc  ?_)))
theorem pioO_ol_X10_inferCall_120  (hP : iKptO P) (hc : cQoO P call)  : ∀ (t : Nat) (x0 : Option Nat) (x1 : Option Nat) (x2 : Int32) (x3 : Int32) (σ : oSt), P σ → PIo P (ol_X10_inferCall_120 n call κ  t x0 x1 x2 x3 σ) := by
  intro t
  induction t with
  | zero => intros; exact PIoO_none
  | succ t ih =>
    intro x0 x1 x2 x3 σ h
    rw [ol_X10_inferCall_120]
    repeat' (with_reducible (first | assumption | (refine PIoO_gd ?_) | (refine PIoO_pf hP ?_ (by decide) (by with_unfolding_all rfl) (fun _ _ => ?_)) | (refine PIoO_si hP ?_ (fun _ _ => ?_)) | (refine PIoO_sj hP ?_ (fun _ _ => ?_)) | (refine PIoO_sr hP ?_ (fun _ _ => ?_)) | (refine PIoO_cy hP ?_ (fun _ _ => ?_)) | (refine PIoO_bn (fun _ => ?_)) | (refine PIoO_na hP ?_ (fun _ _ => ?_)) | (refine PIoO_no hP ?_ (fun _ _ => ?_)) | (refine PIoO_ite ?_ ?_) | (refine PIoO_some ?_) | (exact PIoO_none) | (refine PIoO_cv (cQoO.c152 hc _ _ _ _ _ ?_) (fun _ _ => ?_)) | (refine PIoO_in (cQoO.c156 hc _ _ _ ?_) (fun _ _ _ => ?_)) | (refine PIoO_in (cQoO.c236 hc _ _ ?_) (fun _ _ _ => ?_)) | (refine PIoO_rn (cQoO.c234 hc _ _ _ ?_) (fun _ _ _ => ?_)) | (refine ih _ _ _ _ _ ?_)))
theorem pioO_oj_X10_inferCall_60 {k14 : Option Nat → Option Nat → Int32 → Int32 → oSt → oRs} {x0 : Option Nat} {x1 : Option Nat} {x2 : Int32} {x3 : Int32} {σ : oSt} (hP : iKptO P) (hc : cQoO P call) (hk14 : ∀ (a0 : Option Nat) (a1 : Option Nat) (a2 : Int32) (a3 : Int32), ∀ σ, P σ → PIo P (k14 a0 a1 a2 a3 σ)) (h : P σ) : PIo P (oj_X10_inferCall_60 n call κ k14 x0 x1 x2 x3 σ) := by
  unfold oj_X10_inferCall_60
  repeat' (with_reducible (first | assumption | (refine PIoO_gd ?_) | (refine PIoO_pf hP ?_ (by decide) (by with_unfolding_all rfl) (fun _ _ => ?_)) | (refine PIoO_si hP ?_ (fun _ _ => ?_)) | (refine PIoO_sj hP ?_ (fun _ _ => ?_)) | (refine PIoO_sr hP ?_ (fun _ _ => ?_)) | (refine PIoO_cy hP ?_ (fun _ _ => ?_)) | (refine PIoO_bn (fun _ => ?_)) | (refine PIoO_na hP ?_ (fun _ _ => ?_)) | (refine PIoO_no hP ?_ (fun _ _ => ?_)) | (refine PIoO_ite ?_ ?_) | (refine PIoO_some ?_) | (exact PIoO_none) | (refine PIoO_in (cQoO.c21 hc _ _ _ ?_) (fun _ _ _ => ?_)) | (refine PIoO_rn (cQoO.c234 hc _ _ _ ?_) (fun _ _ _ => ?_)) | (refine hk14 _ _ _ _ _ ?_)))
theorem pioO_ol_X10_inferCall_14  (hP : iKptO P) (hc : cQoO P call)  : ∀ (t : Nat) (x0 : Option Nat) (x1 : Option Nat) (x2 : Int32) (x3 : Int32) (σ : oSt), P σ → PIo P (ol_X10_inferCall_14 n call κ  t x0 x1 x2 x3 σ) := by
  intro t
  induction t with
  | zero => intros; exact PIoO_none
  | succ t ih =>
    intro x0 x1 x2 x3 σ h
    rw [ol_X10_inferCall_14]
    repeat' (with_reducible (first | assumption | (refine PIoO_gd ?_) | (refine PIoO_pf hP ?_ (by decide) (by with_unfolding_all rfl) (fun _ _ => ?_)) | (refine PIoO_si hP ?_ (fun _ _ => ?_)) | (refine PIoO_sj hP ?_ (fun _ _ => ?_)) | (refine PIoO_sr hP ?_ (fun _ _ => ?_)) | (refine PIoO_cy hP ?_ (fun _ _ => ?_)) | (refine PIoO_bn (fun _ => ?_)) | (refine PIoO_na hP ?_ (fun _ _ => ?_)) | (refine PIoO_no hP ?_ (fun _ _ => ?_)) | (refine PIoO_ite ?_ ?_) | (refine PIoO_some ?_) | (exact PIoO_none) | (refine PIoO_in (cQoO.c21 hc _ _ _ ?_) (fun _ _ _ => ?_)) | (refine PIoO_in (cQoO.c146 hc _ _ _ ?_) (fun _ _ _ => ?_)) | (refine PIoO_in (cQoO.c149 hc _ _ _ _ ?_) (fun _ _ _ => ?_)) | (refine PIoO_in (cQoO.c236 hc _ _ ?_) (fun _ _ _ => ?_)) | (refine pioO_ol_X10_inferCall_120 hP hc  _ _ _ _ _ _ ?_) | (refine pioO_oj_X10_inferCall_60 hP hc ih ?_)))
theorem pioO_ob_X10_inferCall  {x0 : Option Nat} {x1 : Option Nat} {σ : oSt} (hP : iKptO P) (hc : cQoO P call)  (h : P σ) : PIo P (ob_X10_inferCall n call κ  x0 x1 σ) := by
  unfold ob_X10_inferCall
  repeat' (with_reducible (first | assumption | (refine PIoO_gd ?_) | (refine PIoO_pf hP ?_ (by decide) (by with_unfolding_all rfl) (fun _ _ => ?_)) | (refine PIoO_si hP ?_ (fun _ _ => ?_)) | (refine PIoO_sj hP ?_ (fun _ _ => ?_)) | (refine PIoO_sr hP ?_ (fun _ _ => ?_)) | (refine PIoO_cy hP ?_ (fun _ _ => ?_)) | (refine PIoO_bn (fun _ => ?_)) | (refine PIoO_na hP ?_ (fun _ _ => ?_)) | (refine PIoO_no hP ?_ (fun _ _ => ?_)) | (refine PIoO_ite ?_ ?_) | (refine PIoO_some ?_) | (exact PIoO_none) | (refine PIoO_in (cQoO.c21 hc _ _ _ ?_) (fun _ _ _ => ?_)) | (refine pioO_ol_X10_inferCall_14 hP hc  _ _ _ _ _ _ ?_)))
theorem pioO_ob_X10_inferMatch  {x0 : Option Nat} {x1 : Option Nat} {σ : oSt} (hP : iKptO P) (hc : cQoO P call)  (h : P σ) : PIo P (ob_X10_inferMatch n call κ  x0 x1 σ) := by
  unfold ob_X10_inferMatch
  repeat' (with_reducible (first | assumption | (refine PIoO_gd ?_) | (refine PIoO_pf hP ?_ (by decide) (by with_unfolding_all rfl) (fun _ _ => ?_)) | (refine PIoO_si hP ?_ (fun _ _ => ?_)) | (refine PIoO_sj hP ?_ (fun _ _ => ?_)) | (refine PIoO_sr hP ?_ (fun _ _ => ?_)) | (refine PIoO_cy hP ?_ (fun _ _ => ?_)) | (refine PIoO_bn (fun _ => ?_)) | (refine PIoO_na hP ?_ (fun _ _ => ?_)) | (refine PIoO_no hP ?_ (fun _ _ => ?_)) | (refine PIoO_ite ?_ ?_) | (refine PIoO_some ?_) | (exact PIoO_none) | (refine PIoO_cv (cQoO.c152 hc _ _ _ _ _ ?_) (fun _ _ => ?_)) | (refine PIoO_in (cQoO.c148 hc _ _ ?_) (fun _ _ _ => ?_)) | (refine PIoO_in (cQoO.c156 hc _ _ _ ?_) (fun _ _ _ => ?_)) | (refine PIoO_rn (cQoO.c234 hc _ _ _ ?_) (fun _ _ _ => ?_))))
theorem pioO_ol_X10_inferRec_62  (hP : iKptO P) (hc : cQoO P call)  : ∀ (t : Nat) (x0 : Option Nat) (x1 : Option Nat) (x2 : Int32) (x3 : Int32) (σ : oSt), P σ → PIo P (ol_X10_inferRec_62 n call κ  t x0 x1 x2 x3 σ) := by
  intro t
  induction t with
  | zero => intros; exact PIoO_none
  | succ t ih =>
    intro x0 x1 x2 x3 σ h
    rw [ol_X10_inferRec_62]
    repeat' (with_reducible (first | assumption | (refine PIoO_gd ?_) | (refine PIoO_pf hP ?_ (by decide) (by with_unfolding_all rfl) (fun _ _ => ?_)) | (refine PIoO_si hP ?_ (fun _ _ => ?_)) | (refine PIoO_sj hP ?_ (fun _ _ => ?_)) | (refine PIoO_sr hP ?_ (fun _ _ => ?_)) | (refine PIoO_cy hP ?_ (fun _ _ => ?_)) | (refine PIoO_bn (fun _ => ?_)) | (refine PIoO_na hP ?_ (fun _ _ => ?_)) | (refine PIoO_no hP ?_ (fun _ _ => ?_)) | (refine PIoO_ite ?_ ?_) | (refine PIoO_some ?_) | (exact PIoO_none) | (refine PIoO_cv (cQoO.c152 hc _ _ _ _ _ ?_) (fun _ _ => ?_)) | (refine PIoO_in (cQoO.c149 hc _ _ _ _ ?_) (fun _ _ _ => ?_)) | (refine PIoO_in (cQoO.c156 hc _ _ _ ?_) (fun _ _ _ => ?_)) | (refine PIoO_rn (cQoO.c234 hc _ _ _ ?_) (fun _ _ _ => ?_)) | (refine ih _ _ _ _ _ ?_)))
theorem pioO_ol_X10_inferRec_2  (hP : iKptO P) (hc : cQoO P call)  : ∀ (t : Nat) (x0 : Option Nat) (x1 : Option Nat) (x2 : Int32) (σ : oSt), P σ → PIo P (ol_X10_inferRec_2 n call κ  t x0 x1 x2 σ) := by
  intro t
  induction t with
  | zero => intros; exact PIoO_none
  | succ t ih =>
    intro x0 x1 x2 σ h
    rw [ol_X10_inferRec_2]
    repeat' (with_reducible (first | assumption | (refine PIoO_gd ?_) | (refine PIoO_pf hP ?_ (by decide) (by with_unfolding_all rfl) (fun _ _ => ?_)) | (refine PIoO_si hP ?_ (fun _ _ => ?_)) | (refine PIoO_sj hP ?_ (fun _ _ => ?_)) | (refine PIoO_sr hP ?_ (fun _ _ => ?_)) | (refine PIoO_cy hP ?_ (fun _ _ => ?_)) | (refine PIoO_bn (fun _ => ?_)) | (refine PIoO_na hP ?_ (fun _ _ => ?_)) | (refine PIoO_no hP ?_ (fun _ _ => ?_)) | (refine PIoO_ite ?_ ?_) | (refine PIoO_some ?_) | (exact PIoO_none) | (refine PIoO_in (cQoO.c146 hc _ _ _ ?_) (fun _ _ _ => ?_)) | (refine PIoO_in (cQoO.c236 hc _ _ ?_) (fun _ _ _ => ?_)) | (refine PIoO_rn (cQoO.c234 hc _ _ _ ?_) (fun _ _ _ => ?_)) | (refine pioO_ol_X10_inferRec_62 hP hc  _ _ _ _ _ _ ?_) | (refine ih _ _ _ _ ?_)))
theorem pioO_ob_X10_inferRec  {x0 : Option Nat} {x1 : Option Nat} {σ : oSt} (hP : iKptO P) (hc : cQoO P call)  (h : P σ) : PIo P (ob_X10_inferRec n call κ  x0 x1 σ) := by
  unfold ob_X10_inferRec
  repeat' (with_reducible (first | assumption | (refine PIoO_gd ?_) | (refine PIoO_pf hP ?_ (by decide) (by with_unfolding_all rfl) (fun _ _ => ?_)) | (refine PIoO_si hP ?_ (fun _ _ => ?_)) | (refine PIoO_sj hP ?_ (fun _ _ => ?_)) | (refine PIoO_sr hP ?_ (fun _ _ => ?_)) | (refine PIoO_cy hP ?_ (fun _ _ => ?_)) | (refine PIoO_bn (fun _ => ?_)) | (refine PIoO_na hP ?_ (fun _ _ => ?_)) | (refine PIoO_no hP ?_ (fun _ _ => ?_)) | (refine PIoO_ite ?_ ?_) | (refine PIoO_some ?_) | (exact PIoO_none) | (refine pioO_ol_X10_inferRec_2 hP hc  _ _ _ _ _ ?_)))
theorem pioO_oj_X10_leavesOf_100 {k17 : Option Nat → Int32 → Int32 → Int32 → oSt → oRs} {x0 : Option Nat} {x2 : Int32} {x3 : Int32} {x4 : Int32} {σ : oSt} (hP : iKptO P) (hc : cQoO P call) (hk17 : ∀ (a0 : Option Nat) (a1 : Int32) (a2 : Int32) (a3 : Int32), ∀ σ, P σ → PIo P (k17 a0 a1 a2 a3 σ)) (h : P σ) : PIo P (oj_X10_leavesOf_100 n call κ k17 x0 x2 x3 x4 σ) := by
  unfold oj_X10_leavesOf_100
  repeat' (with_reducible (first | assumption | (refine PIoO_gd ?_) | (refine PIoO_pf hP ?_ (by decide) (by with_unfolding_all rfl) (fun _ _ => ?_)) | (refine PIoO_si hP ?_ (fun _ _ => ?_)) | (refine PIoO_sj hP ?_ (fun _ _ => ?_)) | (refine PIoO_sr hP ?_ (fun _ _ => ?_)) | (refine PIoO_cy hP ?_ (fun _ _ => ?_)) | (refine PIoO_bn (fun _ => ?_)) | (refine PIoO_na hP ?_ (fun _ _ => ?_)) | (refine PIoO_no hP ?_ (fun _ _ => ?_)) | (refine PIoO_ite ?_ ?_) | (refine PIoO_some ?_) | (exact PIoO_none) | (refine hk17 _ _ _ _ _ ?_)))
theorem pioO_ol_X10_leavesOf_17  (hP : iKptO P) (hc : cQoO P call)  : ∀ (t : Nat) (x0 : Option Nat) (x1 : Int32) (x2 : Int32) (x3 : Int32) (σ : oSt), P σ → PIo P (ol_X10_leavesOf_17 n call κ  t x0 x1 x2 x3 σ) := by
  intro t
  induction t with
  | zero => intros; exact PIoO_none
  | succ t ih =>
    intro x0 x1 x2 x3 σ h
    rw [ol_X10_leavesOf_17]
    repeat' (with_reducible (first | assumption | (refine PIoO_gd ?_) | (refine PIoO_pf hP ?_ (by decide) (by with_unfolding_all rfl) (fun _ _ => ?_)) | (refine PIoO_si hP ?_ (fun _ _ => ?_)) | (refine PIoO_sj hP ?_ (fun _ _ => ?_)) | (refine PIoO_sr hP ?_ (fun _ _ => ?_)) | (refine PIoO_cy hP ?_ (fun _ _ => ?_)) | (refine PIoO_bn (fun _ => ?_)) | (refine PIoO_na hP ?_ (fun _ _ => ?_)) | (refine PIoO_no hP ?_ (fun _ _ => ?_)) | (refine PIoO_ite ?_ ?_) | (refine PIoO_some ?_) | (exact PIoO_none) | (refine PIoO_in (cQoO.c21 hc _ _ _ ?_) (fun _ _ _ => ?_)) | (refine pioO_oj_X10_leavesOf_100 hP hc ih ?_)))
theorem pioO_ob_X10_leavesOf  {x0 : Option Nat} {x1 : Int32} {σ : oSt} (hP : iKptO P) (hc : cQoO P call)  (h : P σ) : PIo P (ob_X10_leavesOf n call κ  x0 x1 σ) := by
  unfold ob_X10_leavesOf
  repeat' (with_reducible (first | assumption | (refine PIoO_gd ?_) | (refine PIoO_pf hP ?_ (by decide) (by with_unfolding_all rfl) (fun _ _ => ?_)) | (refine PIoO_si hP ?_ (fun _ _ => ?_)) | (refine PIoO_sj hP ?_ (fun _ _ => ?_)) | (refine PIoO_sr hP ?_ (fun _ _ => ?_)) | (refine PIoO_cy hP ?_ (fun _ _ => ?_)) | (refine PIoO_bn (fun _ => ?_)) | (refine PIoO_na hP ?_ (fun _ _ => ?_)) | (refine PIoO_no hP ?_ (fun _ _ => ?_)) | (refine PIoO_ite ?_ ?_) | (refine PIoO_some ?_) | (exact PIoO_none) | (refine pioO_ol_X10_leavesOf_17 hP hc  _ _ _ _ _ _ ?_)))
theorem pioO_ol_X10_countTemplates_161  (hP : iKptO P) (hc : cQoO P call)  : ∀ (t : Nat) (x0 : Option Nat) (x1 : Option Nat) (x2 : Int32) (σ : oSt), P σ → PIo P (ol_X10_countTemplates_161 n call κ  t x0 x1 x2 σ) := by
  intro t
  induction t with
  | zero => intros; exact PIoO_none
  | succ t ih =>
    intro x0 x1 x2 σ h
    rw [ol_X10_countTemplates_161]
    repeat' (with_reducible (first | assumption | (refine PIoO_gd ?_) | (refine PIoO_pf hP ?_ (by decide) (by with_unfolding_all rfl) (fun _ _ => ?_)) | (refine PIoO_si hP ?_ (fun _ _ => ?_)) | (refine PIoO_sj hP ?_ (fun _ _ => ?_)) | (refine PIoO_sr hP ?_ (fun _ _ => ?_)) | (refine PIoO_cy hP ?_ (fun _ _ => ?_)) | (refine PIoO_bn (fun _ => ?_)) | (refine PIoO_na hP ?_ (fun _ _ => ?_)) | (refine PIoO_no hP ?_ (fun _ _ => ?_)) | (refine PIoO_ite ?_ ?_) | (refine PIoO_some ?_) | (exact PIoO_none) | (refine PIoO_cv (cQoO.c161 hc _ _ _ ?_) (fun _ _ => ?_)) | (refine PIoO_in (cQoO.c236 hc _ _ ?_) (fun _ _ _ => ?_)) | (refine PIoO_rn (cQoO.c234 hc _ _ _ ?_) (fun _ _ _ => ?_)) | (refine ih _ _ _ _ ?_)))
theorem pioO_oj_X10_countTemplates_159  {x0 : Option Nat} {x1 : Option Nat} {σ : oSt} (hP : iKptO P) (hc : cQoO P call)  (h : P σ) : PIo P (oj_X10_countTemplates_159 n call κ  x0 x1 σ) := by
  unfold oj_X10_countTemplates_159
  repeat' (with_reducible (first | assumption | (refine PIoO_gd ?_) | (refine PIoO_pf hP ?_ (by decide) (by with_unfolding_all rfl) (fun _ _ => ?_)) | (refine PIoO_si hP ?_ (fun _ _ => ?_)) | (refine PIoO_sj hP ?_ (fun _ _ => ?_)) | (refine PIoO_sr hP ?_ (fun _ _ => ?_)) | (refine PIoO_cy hP ?_ (fun _ _ => ?_)) | (refine PIoO_bn (fun _ => ?_)) | (refine PIoO_na hP ?_ (fun _ _ => ?_)) | (refine PIoO_no hP ?_ (fun _ _ => ?_)) | (refine PIoO_ite ?_ ?_) | (refine PIoO_some ?_) | (exact PIoO_none) | (refine pioO_ol_X10_countTemplates_161 hP hc  _ _ _ _ _ ?_)))
theorem pioO_oj_X10_countTemplates_144  {x0 : Option Nat} {x1 : Option Nat} {σ : oSt} (hP : iKptO P) (hc : cQoO P call)  (h : P σ) : PIo P (oj_X10_countTemplates_144 n call κ  x0 x1 σ) := by
  unfold oj_X10_countTemplates_144
  repeat' (with_reducible (first | assumption | (refine PIoO_gd ?_) | (refine PIoO_pf hP ?_ (by decide) (by with_unfolding_all rfl) (fun _ _ => ?_)) | (refine PIoO_si hP ?_ (fun _ _ => ?_)) | (refine PIoO_sj hP ?_ (fun _ _ => ?_)) | (refine PIoO_sr hP ?_ (fun _ _ => ?_)) | (refine PIoO_cy hP ?_ (fun _ _ => ?_)) | (refine PIoO_bn (fun _ => ?_)) | (refine PIoO_na hP ?_ (fun _ _ => ?_)) | (refine PIoO_no hP ?_ (fun _ _ => ?_)) | (refine PIoO_ite ?_ ?_) | (refine PIoO_some ?_) | (exact PIoO_none) | (refine PIoO_cv (cQoO.c161 hc _ _ _ ?_) (fun _ _ => ?_)) | (refine pioO_oj_X10_countTemplates_159 hP hc  ?_)))
theorem pioO_oj_X10_countTemplates_97  {x0 : Option Nat} {x1 : Option Nat} {σ : oSt} (hP : iKptO P) (hc : cQoO P call)  (h : P σ) : PIo P (oj_X10_countTemplates_97 n call κ  x0 x1 σ) := by
  unfold oj_X10_countTemplates_97
  repeat' (with_reducible (first | assumption | (refine PIoO_gd ?_) | (refine PIoO_pf hP ?_ (by decide) (by with_unfolding_all rfl) (fun _ _ => ?_)) | (refine PIoO_si hP ?_ (fun _ _ => ?_)) | (refine PIoO_sj hP ?_ (fun _ _ => ?_)) | (refine PIoO_sr hP ?_ (fun _ _ => ?_)) | (refine PIoO_cy hP ?_ (fun _ _ => ?_)) | (refine PIoO_bn (fun _ => ?_)) | (refine PIoO_na hP ?_ (fun _ _ => ?_)) | (refine PIoO_no hP ?_ (fun _ _ => ?_)) | (refine PIoO_ite ?_ ?_) | (refine PIoO_some ?_) | (exact PIoO_none) | (refine PIoO_cv (cQoO.c161 hc _ _ _ ?_) (fun _ _ => ?_)) | (refine pioO_oj_X10_countTemplates_144 hP hc  ?_)))
theorem pioO_oj_X10_countTemplates_80  {x0 : Option Nat} {x1 : Option Nat} {σ : oSt} (hP : iKptO P) (hc : cQoO P call)  (h : P σ) : PIo P (oj_X10_countTemplates_80 n call κ  x0 x1 σ) := by
  unfold oj_X10_countTemplates_80
  repeat' (with_reducible (first | assumption | (refine PIoO_gd ?_) | (refine PIoO_pf hP ?_ (by decide) (by with_unfolding_all rfl) (fun _ _ => ?_)) | (refine PIoO_si hP ?_ (fun _ _ => ?_)) | (refine PIoO_sj hP ?_ (fun _ _ => ?_)) | (refine PIoO_sr hP ?_ (fun _ _ => ?_)) | (refine PIoO_cy hP ?_ (fun _ _ => ?_)) | (refine PIoO_bn (fun _ => ?_)) | (refine PIoO_na hP ?_ (fun _ _ => ?_)) | (refine PIoO_no hP ?_ (fun _ _ => ?_)) | (refine PIoO_ite ?_ ?_) | (refine PIoO_some ?_) | (exact PIoO_none) | (refine PIoO_in (cQoO.c160 hc _ _ _ ?_) (fun _ _ _ => ?_)) | (refine pioO_oj_X10_countTemplates_97 hP hc  ?_)))
theorem pioO_oj_X10_countTemplates_30  {x0 : Option Nat} {x1 : Option Nat} {σ : oSt} (hP : iKptO P) (hc : cQoO P call)  (h : P σ) : PIo P (oj_X10_countTemplates_30 n call κ  x0 x1 σ) := by
  unfold oj_X10_countTemplates_30
  repeat' (with_reducible (first | assumption | (refine PIoO_gd ?_) | (refine PIoO_pf hP ?_ (by decide) (by with_unfolding_all rfl) (fun _ _ => ?_)) | (refine PIoO_si hP ?_ (fun _ _ => ?_)) | (refine PIoO_sj hP ?_ (fun _ _ => ?_)) | (refine PIoO_sr hP ?_ (fun _ _ => ?_)) | (refine PIoO_cy hP ?_ (fun _ _ => ?_)) | (refine PIoO_bn (fun _ => ?_)) | (refine PIoO_na hP ?_ (fun _ _ => ?_)) | (refine PIoO_no hP ?_ (fun _ _ => ?_)) | (refine PIoO_ite ?_ ?_) | (refine PIoO_some ?_) | (exact PIoO_none) | (refine pioO_oj_X10_countTemplates_80 hP hc  ?_) | (refine pioO_oj_X10_countTemplates_97 hP hc  ?_)))
theorem pioO_ob_X10_countTemplates  {x0 : Option Nat} {x1 : Option Nat} {σ : oSt} (hP : iKptO P) (hc : cQoO P call)  (h : P σ) : PIo P (ob_X10_countTemplates n call κ  x0 x1 σ) := by
  unfold ob_X10_countTemplates
  repeat' (with_reducible (first | assumption | (refine PIoO_gd ?_) | (refine PIoO_pf hP ?_ (by decide) (by with_unfolding_all rfl) (fun _ _ => ?_)) | (refine PIoO_si hP ?_ (fun _ _ => ?_)) | (refine PIoO_sj hP ?_ (fun _ _ => ?_)) | (refine PIoO_sr hP ?_ (fun _ _ => ?_)) | (refine PIoO_cy hP ?_ (fun _ _ => ?_)) | (refine PIoO_bn (fun _ => ?_)) | (refine PIoO_na hP ?_ (fun _ _ => ?_)) | (refine PIoO_no hP ?_ (fun _ _ => ?_)) | (refine PIoO_ite ?_ ?_) | (refine PIoO_some ?_) | (exact PIoO_none) | (refine PIoO_in (cQoO.c160 hc _ _ _ ?_) (fun _ _ _ => ?_)) | (refine pioO_oj_X10_countTemplates_30 hP hc  ?_)))
theorem pioO_ol_X10_findAll_77  (hP : iKptO P) (hc : cQoO P call)  : ∀ (t : Nat) (x0 : Option Nat) (x1 : Option Nat) (x2 : Int32) (σ : oSt), P σ → PIo P (ol_X10_findAll_77 n call κ  t x0 x1 x2 σ) := by
  intro t
  induction t with
  | zero => intros; exact PIoO_none
  | succ t ih =>
    intro x0 x1 x2 σ h
    rw [ol_X10_findAll_77]
    repeat' (with_reducible (first | assumption | (refine PIoO_gd ?_) | (refine PIoO_pf hP ?_ (by decide) (by with_unfolding_all rfl) (fun _ _ => ?_)) | (refine PIoO_si hP ?_ (fun _ _ => ?_)) | (refine PIoO_sj hP ?_ (fun _ _ => ?_)) | (refine PIoO_sr hP ?_ (fun _ _ => ?_)) | (refine PIoO_cy hP ?_ (fun _ _ => ?_)) | (refine PIoO_bn (fun _ => ?_)) | (refine PIoO_na hP ?_ (fun _ _ => ?_)) | (refine PIoO_no hP ?_ (fun _ _ => ?_)) | (refine PIoO_ite ?_ ?_) | (refine PIoO_some ?_) | (exact PIoO_none) | (refine PIoO_cv (cQoO.c161 hc _ _ _ ?_) (fun _ _ => ?_)) | (refine PIoO_in (cQoO.c22 hc _ _ _ ?_) (fun _ _ _ => ?_)) | (refine PIoO_in (cQoO.c236 hc _ _ ?_) (fun _ _ _ => ?_)) | (refine PIoO_rn (cQoO.c234 hc _ _ _ ?_) (fun _ _ _ => ?_)) | (refine ih _ _ _ _ ?_)))
theorem pioO_oj_X10_findAll_58  {x0 : Option Nat} {x1 : Option Nat} {σ : oSt} (hP : iKptO P) (hc : cQoO P call)  (h : P σ) : PIo P (oj_X10_findAll_58 n call κ  x0 x1 σ) := by
  unfold oj_X10_findAll_58
  repeat' (with_reducible (first | assumption | (refine PIoO_gd ?_) | (refine PIoO_pf hP ?_ (by decide) (by with_unfolding_all rfl) (fun _ _ => ?_)) | (refine PIoO_si hP ?_ (fun _ _ => ?_)) | (refine PIoO_sj hP ?_ (fun _ _ => ?_)) | (refine PIoO_sr hP ?_ (fun _ _ => ?_)) | (refine PIoO_cy hP ?_ (fun _ _ => ?_)) | (refine PIoO_bn (fun _ => ?_)) | (refine PIoO_na hP ?_ (fun _ _ => ?_)) | (refine PIoO_no hP ?_ (fun _ _ => ?_)) | (refine PIoO_ite ?_ ?_) | (refine PIoO_some ?_) | (exact PIoO_none) | (refine PIoO_in (cQoO.c156 hc _ _ _ ?_) (fun _ _ _ => ?_)) | (refine pioO_ol_X10_findAll_77 hP hc  _ _ _ _ _ ?_)))
theorem pioO_ol_X10_findAll_2  (hP : iKptO P) (hc : cQoO P call)  : ∀ (t : Nat) (x0 : Option Nat) (x1 : Option Nat) (x2 : Int32) (σ : oSt), P σ → PIo P (ol_X10_findAll_2 n call κ  t x0 x1 x2 σ) := by
  intro t
  induction t with
  | zero => intros; exact PIoO_none
  | succ t ih =>
    intro x0 x1 x2 σ h
    rw [ol_X10_findAll_2]
    repeat' (with_reducible (first | assumption | (refine PIoO_gd ?_) | (refine PIoO_pf hP ?_ (by decide) (by with_unfolding_all rfl) (fun _ _ => ?_)) | (refine PIoO_si hP ?_ (fun _ _ => ?_)) | (refine PIoO_sj hP ?_ (fun _ _ => ?_)) | (refine PIoO_sr hP ?_ (fun _ _ => ?_)) | (refine PIoO_cy hP ?_ (fun _ _ => ?_)) | (refine PIoO_bn (fun _ => ?_)) | (refine PIoO_na hP ?_ (fun _ _ => ?_)) | (refine PIoO_no hP ?_ (fun _ _ => ?_)) | (refine PIoO_ite ?_ ?_) | (refine PIoO_some ?_) | (exact PIoO_none) | (refine PIoO_in (cQoO.c148 hc _ _ ?_) (fun _ _ _ => ?_)) | (refine PIoO_in (cQoO.c236 hc _ _ ?_) (fun _ _ _ => ?_)) | (refine PIoO_rn (cQoO.c234 hc _ _ _ ?_) (fun _ _ _ => ?_)) | (refine pioO_oj_X10_findAll_58 hP hc  ?_) | (refine ih _ _ _ _ ?_)))
theorem pioO_ob_X10_findAll  {x0 : Option Nat} {x1 : Option Nat} {σ : oSt} (hP : iKptO P) (hc : cQoO P call)  (h : P σ) : PIo P (ob_X10_findAll n call κ  x0 x1 σ) := by
  unfold ob_X10_findAll
  repeat' (with_reducible (first | assumption | (refine PIoO_gd ?_) | (refine PIoO_pf hP ?_ (by decide) (by with_unfolding_all rfl) (fun _ _ => ?_)) | (refine PIoO_si hP ?_ (fun _ _ => ?_)) | (refine PIoO_sj hP ?_ (fun _ _ => ?_)) | (refine PIoO_sr hP ?_ (fun _ _ => ?_)) | (refine PIoO_cy hP ?_ (fun _ _ => ?_)) | (refine PIoO_bn (fun _ => ?_)) | (refine PIoO_na hP ?_ (fun _ _ => ?_)) | (refine PIoO_no hP ?_ (fun _ _ => ?_)) | (refine PIoO_ite ?_ ?_) | (refine PIoO_some ?_) | (exact PIoO_none) | (refine pioO_ol_X10_findAll_2 hP hc  _ _ _ _ _ ?_)))
theorem pioO_ob_X11_isLetter  {x0 : Int32} {σ : oSt} (hP : iKptO P) (hc : cQoO P call)  (h : P σ) : PIo P (ob_X11_isLetter n call κ  x0 σ) := by
  unfold ob_X11_isLetter
  repeat' (with_reducible (first | assumption | (refine PIoO_gd ?_) | (refine PIoO_pf hP ?_ (by decide) (by with_unfolding_all rfl) (fun _ _ => ?_)) | (refine PIoO_si hP ?_ (fun _ _ => ?_)) | (refine PIoO_sj hP ?_ (fun _ _ => ?_)) | (refine PIoO_sr hP ?_ (fun _ _ => ?_)) | (refine PIoO_cy hP ?_ (fun _ _ => ?_)) | (refine PIoO_bn (fun _ => ?_)) | (refine PIoO_na hP ?_ (fun _ _ => ?_)) | (refine PIoO_no hP ?_ (fun _ _ => ?_)) | (refine PIoO_ite ?_ ?_) | (refine PIoO_some ?_) | (exact PIoO_none)))
theorem pioO_ob_X11_isDigit  {x0 : Int32} {σ : oSt} (hP : iKptO P) (hc : cQoO P call)  (h : P σ) : PIo P (ob_X11_isDigit n call κ  x0 σ) := by
  unfold ob_X11_isDigit
  repeat' (with_reducible (first | assumption | (refine PIoO_gd ?_) | (refine PIoO_pf hP ?_ (by decide) (by with_unfolding_all rfl) (fun _ _ => ?_)) | (refine PIoO_si hP ?_ (fun _ _ => ?_)) | (refine PIoO_sj hP ?_ (fun _ _ => ?_)) | (refine PIoO_sr hP ?_ (fun _ _ => ?_)) | (refine PIoO_cy hP ?_ (fun _ _ => ?_)) | (refine PIoO_bn (fun _ => ?_)) | (refine PIoO_na hP ?_ (fun _ _ => ?_)) | (refine PIoO_no hP ?_ (fun _ _ => ?_)) | (refine PIoO_ite ?_ ?_) | (refine PIoO_some ?_) | (exact PIoO_none)))
theorem pioO_oj_X11_continues_24   {σ : oSt} (hP : iKptO P) (hc : cQoO P call)  (h : P σ) : PIo P (oj_X11_continues_24 n call κ   σ) := by
  unfold oj_X11_continues_24
  repeat' (with_reducible (first | assumption | (refine PIoO_gd ?_) | (refine PIoO_pf hP ?_ (by decide) (by with_unfolding_all rfl) (fun _ _ => ?_)) | (refine PIoO_si hP ?_ (fun _ _ => ?_)) | (refine PIoO_sj hP ?_ (fun _ _ => ?_)) | (refine PIoO_sr hP ?_ (fun _ _ => ?_)) | (refine PIoO_cy hP ?_ (fun _ _ => ?_)) | (refine PIoO_bn (fun _ => ?_)) | (refine PIoO_na hP ?_ (fun _ _ => ?_)) | (refine PIoO_no hP ?_ (fun _ _ => ?_)) | (refine PIoO_ite ?_ ?_) | (refine PIoO_some ?_) | (exact PIoO_none)))
theorem pioO_ob_X11_continues  {x0 : Int32} {x1 : Int32} {σ : oSt} (hP : iKptO P) (hc : cQoO P call)  (h : P σ) : PIo P (ob_X11_continues n call κ  x0 x1 σ) := by
  unfold ob_X11_continues
  repeat' (with_reducible (first | assumption | (refine PIoO_gd ?_) | (refine PIoO_pf hP ?_ (by decide) (by with_unfolding_all rfl) (fun _ _ => ?_)) | (refine PIoO_si hP ?_ (fun _ _ => ?_)) | (refine PIoO_sj hP ?_ (fun _ _ => ?_)) | (refine PIoO_sr hP ?_ (fun _ _ => ?_)) | (refine PIoO_cy hP ?_ (fun _ _ => ?_)) | (refine PIoO_bn (fun _ => ?_)) | (refine PIoO_na hP ?_ (fun _ _ => ?_)) | (refine PIoO_no hP ?_ (fun _ _ => ?_)) | (refine PIoO_ite ?_ ?_) | (refine PIoO_some ?_) | (exact PIoO_none) | (refine PIoO_in (cQoO.c163 hc _ _ ?_) (fun _ _ _ => ?_)) | (refine PIoO_in (cQoO.c164 hc _ _ ?_) (fun _ _ _ => ?_)) | (refine pioO_oj_X11_continues_24 hP hc  ?_)))
theorem pioO_ob_X11_doubleSign  {x0 : Option Nat} {x1 : Int32} {σ : oSt} (hP : iKptO P) (hc : cQoO P call)  (h : P σ) : PIo P (ob_X11_doubleSign n call κ  x0 x1 σ) := by
  unfold ob_X11_doubleSign
  repeat' (with_reducible (first | assumption | (refine PIoO_gd ?_) | (refine PIoO_pf hP ?_ (by decide) (by with_unfolding_all rfl) (fun _ _ => ?_)) | (refine PIoO_si hP ?_ (fun _ _ => ?_)) | (refine PIoO_sj hP ?_ (fun _ _ => ?_)) | (refine PIoO_sr hP ?_ (fun _ _ => ?_)) | (refine PIoO_cy hP ?_ (fun _ _ => ?_)) | (refine PIoO_bn (fun _ => ?_)) | (refine PIoO_na hP ?_ (fun _ _ => ?_)) | (refine PIoO_no hP ?_ (fun _ _ => ?_)) | (refine PIoO_ite ?_ ?_) | (refine PIoO_some ?_) | (exact PIoO_none) | (refine PIoO_in (cQoO.c201 hc _ _ _ ?_) (fun _ _ _ => ?_)) | (refine PIoO_in (cQoO.c207 hc _ _ ?_) (fun _ _ _ => ?_))))
theorem pioO_oj_X11_endOfWord_78  {x1 : Int32} {x4 : Int32} {t0 : Int32} {t1 : Int32} {σ : oSt} (hP : iKptO P) (hc : cQoO P call)  (h : P σ) : PIo P (oj_X11_endOfWord_78 n call κ  x1 x4 t0 t1 σ) := by
  unfold oj_X11_endOfWord_78
  repeat' (with_reducible (first | assumption | (refine PIoO_gd ?_) | (refine PIoO_pf hP ?_ (by decide) (by with_unfolding_all rfl) (fun _ _ => ?_)) | (refine PIoO_si hP ?_ (fun _ _ => ?_)) | (refine PIoO_sj hP ?_ (fun _ _ => ?_)) | (refine PIoO_sr hP ?_ (fun _ _ => ?_)) | (refine PIoO_cy hP ?_ (fun _ _ => ?_)) | (refine PIoO_bn (fun _ => ?_)) | (refine PIoO_na hP ?_ (fun _ _ => ?_)) | (refine PIoO_no hP ?_ (fun _ _ => ?_)) | (refine PIoO_ite ?_ ?_) | (refine PIoO_some ?_) | (exact PIoO_none)))
theorem pioO_oj_X11_endOfWord_64  {x1 : Int32} {x3 : Int32} {x4 : Int32} {σ : oSt} (hP : iKptO P) (hc : cQoO P call)  (h : P σ) : PIo P (oj_X11_endOfWord_64 n call κ  x1 x3 x4 σ) := by
  unfold oj_X11_endOfWord_64
  repeat' (with_reducible (first | assumption | (refine PIoO_gd ?_) | (refine PIoO_pf hP ?_ (by decide) (by with_unfolding_all rfl) (fun _ _ => ?_)) | (refine PIoO_si hP ?_ (fun _ _ => ?_)) | (refine PIoO_sj hP ?_ (fun _ _ => ?_)) | (refine PIoO_sr hP ?_ (fun _ _ => ?_)) | (refine PIoO_cy hP ?_ (fun _ _ => ?_)) | (refine PIoO_bn (fun _ => ?_)) | (refine PIoO_na hP ?_ (fun _ _ => ?_)) | (refine PIoO_no hP ?_ (fun _ _ => ?_)) | (refine PIoO_ite ?_ ?_) | (refine PIoO_some ?_) | (exact PIoO_none) | (refine pioO_oj_X11_endOfWord_78 hP hc  ?_)))
theorem pioO_ol_X11_endOfWord_30  (hP : iKptO P) (hc : cQoO P call)  : ∀ (t : Nat) (x0 : Option Nat) (x1 : Int32) (x2 : Int32) (x3 : Int32) (σ : oSt), P σ → PIo P (ol_X11_endOfWord_30 n call κ  t x0 x1 x2 x3 σ) := by
  intro t
  induction t with
  | zero => intros; exact PIoO_none
  | succ t ih =>
    intro x0 x1 x2 x3 σ h
    rw [ol_X11_endOfWord_30]
    repeat' (with_reducible (first | assumption | (refine PIoO_gd ?_) | (refine PIoO_pf hP ?_ (by decide) (by with_unfolding_all rfl) (fun _ _ => ?_)) | (refine PIoO_si hP ?_ (fun _ _ => ?_)) | (refine PIoO_sj hP ?_ (fun _ _ => ?_)) | (refine PIoO_sr hP ?_ (fun _ _ => ?_)) | (refine PIoO_cy hP ?_ (fun _ _ => ?_)) | (refine PIoO_bn (fun _ => ?_)) | (refine PIoO_na hP ?_ (fun _ _ => ?_)) | (refine PIoO_no hP ?_ (fun _ _ => ?_)) | (refine PIoO_ite ?_ ?_) | (refine PIoO_some ?_) | (exact PIoO_none) | (refine PIoO_in (cQoO.c165 hc _ _ _ ?_) (fun _ _ _ => ?_)) | (refine PIoO_in (cQoO.c201 hc _ _ _ ?_) (fun _ _ _ => ?_)) | (refine PIoO_in (cQoO.c207 hc _ _ ?_) (fun _ _ _ => ?_)) | (refine pioO_oj_X11_endOfWord_64 hP hc  ?_) | (refine ih _ _ _ _ _ ?_)))
theorem pioO_oj_X11_endOfWord_25  {x0 : Option Nat} {x1 : Int32} {x3 : Int32} {σ : oSt} (hP : iKptO P) (hc : cQoO P call)  (h : P σ) : PIo P (oj_X11_endOfWord_25 n call κ  x0 x1 x3 σ) := by
  unfold oj_X11_endOfWord_25
  repeat' (with_reducible (first | assumption | (refine PIoO_gd ?_) | (refine PIoO_pf hP ?_ (by decide) (by with_unfolding_all rfl) (fun _ _ => ?_)) | (refine PIoO_si hP ?_ (fun _ _ => ?_)) | (refine PIoO_sj hP ?_ (fun _ _ => ?_)) | (refine PIoO_sr hP ?_ (fun _ _ => ?_)) | (refine PIoO_cy hP ?_ (fun _ _ => ?_)) | (refine PIoO_bn (fun _ => ?_)) | (refine PIoO_na hP ?_ (fun _ _ => ?_)) | (refine PIoO_no hP ?_ (fun _ _ => ?_)) | (refine PIoO_ite ?_ ?_) | (refine PIoO_some ?_) | (exact PIoO_none) | (refine pioO_ol_X11_endOfWord_30 hP hc  _ _ _ _ _ _ ?_)))
theorem pioO_ob_X11_endOfWord  {x0 : Option Nat} {x1 : Int32} {σ : oSt} (hP : iKptO P) (hc : cQoO P call)  (h : P σ) : PIo P (ob_X11_endOfWord n call κ  x0 x1 σ) := by
  unfold ob_X11_endOfWord
  repeat' (with_reducible (first | assumption | (refine PIoO_gd ?_) | (refine PIoO_pf hP ?_ (by decide) (by with_unfolding_all rfl) (fun _ _ => ?_)) | (refine PIoO_si hP ?_ (fun _ _ => ?_)) | (refine PIoO_sj hP ?_ (fun _ _ => ?_)) | (refine PIoO_sr hP ?_ (fun _ _ => ?_)) | (refine PIoO_cy hP ?_ (fun _ _ => ?_)) | (refine PIoO_bn (fun _ => ?_)) | (refine PIoO_na hP ?_ (fun _ _ => ?_)) | (refine PIoO_no hP ?_ (fun _ _ => ?_)) | (refine PIoO_ite ?_ ?_) | (refine PIoO_some ?_) | (exact PIoO_none) | (refine PIoO_in (cQoO.c163 hc _ _ ?_) (fun _ _ _ => ?_)) | (refine PIoO_in (cQoO.c164 hc _ _ ?_) (fun _ _ _ => ?_)) | (refine PIoO_in (cQoO.c166 hc _ _ _ ?_) (fun _ _ _ => ?_)) | (refine PIoO_in (cQoO.c201 hc _ _ _ ?_) (fun _ _ _ => ?_)) | (refine PIoO_in (cQoO.c219 hc _ _ _ ?_) (fun _ _ _ => ?_)) | (refine pioO_oj_X11_endOfWord_25 hP hc  ?_)))
theorem pioO_ol_X11_sameLetters_3  (hP : iKptO P) (hc : cQoO P call)  : ∀ (t : Nat) (x0 : Option Nat) (x1 : Int32) (x2 : Int32) (x3 : Int32) (x4 : Int32) (σ : oSt), P σ → PIo P (ol_X11_sameLetters_3 n call κ  t x0 x1 x2 x3 x4 σ) := by
  intro t
  induction t with
  | zero => intros; exact PIoO_none
  | succ t ih =>
    intro x0 x1 x2 x3 x4 σ h
    rw [ol_X11_sameLetters_3]
    repeat' (with_reducible (first | assumption | (refine PIoO_gd ?_) | (refine PIoO_pf hP ?_ (by decide) (by with_unfolding_all rfl) (fun _ _ => ?_)) | (refine PIoO_si hP ?_ (fun _ _ => ?_)) | (refine PIoO_sj hP ?_ (fun _ _ => ?_)) | (refine PIoO_sr hP ?_ (fun _ _ => ?_)) | (refine PIoO_cy hP ?_ (fun _ _ => ?_)) | (refine PIoO_bn (fun _ => ?_)) | (refine PIoO_na hP ?_ (fun _ _ => ?_)) | (refine PIoO_no hP ?_ (fun _ _ => ?_)) | (refine PIoO_ite ?_ ?_) | (refine PIoO_some ?_) | (exact PIoO_none) | (refine PIoO_in (cQoO.c201 hc _ _ _ ?_) (fun _ _ _ => ?_)) | (refine ih _ _ _ _ _ _ ?_)))
theorem pioO_ob_X11_sameLetters  {x0 : Option Nat} {x1 : Int32} {x2 : Int32} {x3 : Int32} {σ : oSt} (hP : iKptO P) (hc : cQoO P call)  (h : P σ) : PIo P (ob_X11_sameLetters n call κ  x0 x1 x2 x3 σ) := by
  unfold ob_X11_sameLetters
  repeat' (with_reducible (first | assumption | (refine PIoO_gd ?_) | (refine PIoO_pf hP ?_ (by decide) (by with_unfolding_all rfl) (fun _ _ => ?_)) | (refine PIoO_si hP ?_ (fun _ _ => ?_)) | (refine PIoO_sj hP ?_ (fun _ _ => ?_)) | (refine PIoO_sr hP ?_ (fun _ _ => ?_)) | (refine PIoO_cy hP ?_ (fun _ _ => ?_)) | (refine PIoO_bn (fun _ => ?_)) | (refine PIoO_na hP ?_ (fun _ _ => ?_)) | (refine PIoO_no hP ?_ (fun _ _ => ?_)) | (refine PIoO_ite ?_ ?_) | (refine PIoO_some ?_) | (exact PIoO_none) | (refine pioO_ol_X11_sameLetters_3 hP hc  _ _ _ _ _ _ _ ?_)))
theorem pioO_oj_X11_keyword_67 {k10 : Option Nat → Int32 → Int32 → Int32 → Int32 → Int32 → oSt → oRs} {x0 : Option Nat} {x1 : Int32} {x2 : Int32} {x3 : Int32} {x4 : Int32} {x5 : Int32} {σ : oSt} (hP : iKptO P) (hc : cQoO P call) (hk10 : ∀ (a0 : Option Nat) (a1 : Int32) (a2 : Int32) (a3 : Int32) (a4 : Int32) (a5 : Int32), ∀ σ, P σ → PIo P (k10 a0 a1 a2 a3 a4 a5 σ)) (h : P σ) : PIo P (oj_X11_keyword_67 n call κ k10 x0 x1 x2 x3 x4 x5 σ) := by
  unfold oj_X11_keyword_67
  repeat' (with_reducible (first | assumption | (refine PIoO_gd ?_) | (refine PIoO_pf hP ?_ (by decide) (by with_unfolding_all rfl) (fun _ _ => ?_)) | (refine PIoO_si hP ?_ (fun _ _ => ?_)) | (refine PIoO_sj hP ?_ (fun _ _ => ?_)) | (refine PIoO_sr hP ?_ (fun _ _ => ?_)) | (refine PIoO_cy hP ?_ (fun _ _ => ?_)) | (refine PIoO_bn (fun _ => ?_)) | (refine PIoO_na hP ?_ (fun _ _ => ?_)) | (refine PIoO_no hP ?_ (fun _ _ => ?_)) | (refine PIoO_ite ?_ ?_) | (refine PIoO_some ?_) | (exact PIoO_none) | (refine hk10 _ _ _ _ _ _ _ ?_)))
theorem pioO_oj_X11_keyword_58 {k10 : Option Nat → Int32 → Int32 → Int32 → Int32 → Int32 → oSt → oRs} {x0 : Option Nat} {x1 : Int32} {x2 : Int32} {x3 : Int32} {x5 : Int32} {σ : oSt} (hP : iKptO P) (hc : cQoO P call) (hk10 : ∀ (a0 : Option Nat) (a1 : Int32) (a2 : Int32) (a3 : Int32) (a4 : Int32) (a5 : Int32), ∀ σ, P σ → PIo P (k10 a0 a1 a2 a3 a4 a5 σ)) (h : P σ) : PIo P (oj_X11_keyword_58 n call κ k10 x0 x1 x2 x3 x5 σ) := by
  unfold oj_X11_keyword_58
  repeat' (with_reducible (first | assumption | (refine PIoO_gd ?_) | (refine PIoO_pf hP ?_ (by decide) (by with_unfolding_all rfl) (fun _ _ => ?_)) | (refine PIoO_si hP ?_ (fun _ _ => ?_)) | (refine PIoO_sj hP ?_ (fun _ _ => ?_)) | (refine PIoO_sr hP ?_ (fun _ _ => ?_)) | (refine PIoO_cy hP ?_ (fun _ _ => ?_)) | (refine PIoO_bn (fun _ => ?_)) | (refine PIoO_na hP ?_ (fun _ _ => ?_)) | (refine PIoO_no hP ?_ (fun _ _ => ?_)) | (refine PIoO_ite ?_ ?_) | (refine PIoO_some ?_) | (exact PIoO_none) | (refine pioO_oj_X11_keyword_67 hP hc hk10 ?_) | (refine hk10 _ _ _ _ _ _ _ ?_)))
theorem pioO_ol_X11_keyword_10  (hP : iKptO P) (hc : cQoO P call)  : ∀ (t : Nat) (x0 : Option Nat) (x1 : Int32) (x2 : Int32) (x3 : Int32) (x4 : Int32) (x5 : Int32) (σ : oSt), P σ → PIo P (ol_X11_keyword_10 n call κ  t x0 x1 x2 x3 x4 x5 σ) := by
  intro t
  induction t with
  | zero => intros; exact PIoO_none
  | succ t ih =>
    intro x0 x1 x2 x3 x4 x5 σ h
    rw [ol_X11_keyword_10]
    repeat' (with_reducible (first | assumption | (refine PIoO_gd ?_) | (refine PIoO_pf hP ?_ (by decide) (by with_unfolding_all rfl) (fun _ _ => ?_)) | (refine PIoO_si hP ?_ (fun _ _ => ?_)) | (refine PIoO_sj hP ?_ (fun _ _ => ?_)) | (refine PIoO_sr hP ?_ (fun _ _ => ?_)) | (refine PIoO_cy hP ?_ (fun _ _ => ?_)) | (refine PIoO_bn (fun _ => ?_)) | (refine PIoO_na hP ?_ (fun _ _ => ?_)) | (refine PIoO_no hP ?_ (fun _ _ => ?_)) | (refine PIoO_ite ?_ ?_) | (refine PIoO_some ?_) | (exact PIoO_none) | (refine PIoO_in (cQoO.c168 hc _ _ _ _ _ ?_) (fun _ _ _ => ?_)) | (refine PIoO_in (cQoO.c201 hc _ _ _ ?_) (fun _ _ _ => ?_)) | (refine PIoO_in (cQoO.c207 hc _ _ ?_) (fun _ _ _ => ?_)) | (refine pioO_oj_X11_keyword_58 hP hc ih ?_) | (refine pioO_oj_X11_keyword_67 hP hc ih ?_)))
theorem pioO_ob_X11_keyword  {x0 : Option Nat} {x1 : Int32} {x2 : Int32} {σ : oSt} (hP : iKptO P) (hc : cQoO P call)  (h : P σ) : PIo P (ob_X11_keyword n call κ  x0 x1 x2 σ) := by
  unfold ob_X11_keyword
  repeat' (with_reducible (first | assumption | (refine PIoO_gd ?_) | (refine PIoO_pf hP ?_ (by decide) (by with_unfolding_all rfl) (fun _ _ => ?_)) | (refine PIoO_si hP ?_ (fun _ _ => ?_)) | (refine PIoO_sj hP ?_ (fun _ _ => ?_)) | (refine PIoO_sr hP ?_ (fun _ _ => ?_)) | (refine PIoO_cy hP ?_ (fun _ _ => ?_)) | (refine PIoO_bn (fun _ => ?_)) | (refine PIoO_na hP ?_ (fun _ _ => ?_)) | (refine PIoO_no hP ?_ (fun _ _ => ?_)) | (refine PIoO_ite ?_ ?_) | (refine PIoO_some ?_) | (exact PIoO_none) | (refine pioO_ol_X11_keyword_10 hP hc  _ _ _ _ _ _ _ _ ?_)))
theorem pioO_oj_X11_add_99  {x0 : Option Nat} {σ : oSt} (hP : iKptO P) (hc : cQoO P call)  (h : P σ) : PIo P (oj_X11_add_99 n call κ  x0 σ) := by
  unfold oj_X11_add_99
  repeat' (with_reducible (first | assumption | (refine PIoO_gd ?_) | (refine PIoO_pf hP ?_ (by decide) (by with_unfolding_all rfl) (fun _ _ => ?_)) | (refine PIoO_si hP ?_ (fun _ _ => ?_)) | (refine PIoO_sj hP ?_ (fun _ _ => ?_)) | (refine PIoO_sr hP ?_ (fun _ _ => ?_)) | (refine PIoO_cy hP ?_ (fun _ _ => ?_)) | (refine PIoO_bn (fun _ => ?_)) | (refine PIoO_na hP ?_ (fun _ _ => ?_)) | (refine PIoO_no hP ?_ (fun _ _ => ?_)) | (refine PIoO_ite ?_ ?_) | (refine PIoO_some ?_) | (exact PIoO_none)))
theorem pioO_oj_X11_add_98  {x0 : Option Nat} {t0 : Option Nat} {t1 : Int32} {t2 : Int32} {σ : oSt} (hP : iKptO P) (hc : cQoO P call)  (h : P σ) : PIo P (oj_X11_add_98 n call κ  x0 t0 t1 t2 σ) := by
  unfold oj_X11_add_98
  repeat' (with_reducible (first | assumption | (refine PIoO_gd ?_) | (refine PIoO_pf hP ?_ (by decide) (by with_unfolding_all rfl) (fun _ _ => ?_)) | (refine PIoO_si hP ?_ (fun _ _ => ?_)) | (refine PIoO_sj hP ?_ (fun _ _ => ?_)) | (refine PIoO_sr hP ?_ (fun _ _ => ?_)) | (refine PIoO_cy hP ?_ (fun _ _ => ?_)) | (refine PIoO_bn (fun _ => ?_)) | (refine PIoO_na hP ?_ (fun _ _ => ?_)) | (refine PIoO_no hP ?_ (fun _ _ => ?_)) | (refine PIoO_ite ?_ ?_) | (refine PIoO_some ?_) | (exact PIoO_none) | (refine pioO_oj_X11_add_99 hP hc  ?_)))
theorem pioO_ob_X11_add  {x0 : Option Nat} {x1 : Int32} {x2 : Int32} {σ : oSt} (hP : iKptO P) (hc : cQoO P call)  (h : P σ) : PIo P (ob_X11_add n call κ  x0 x1 x2 σ) := by
  unfold ob_X11_add
  repeat' (with_reducible (first | assumption | (refine PIoO_gd ?_) | (refine PIoO_pf hP ?_ (by decide) (by with_unfolding_all rfl) (fun _ _ => ?_)) | (refine PIoO_si hP ?_ (fun _ _ => ?_)) | (refine PIoO_sj hP ?_ (fun _ _ => ?_)) | (refine PIoO_sr hP ?_ (fun _ _ => ?_)) | (refine PIoO_cy hP ?_ (fun _ _ => ?_)) | (refine PIoO_bn (fun _ => ?_)) | (refine PIoO_na hP ?_ (fun _ _ => ?_)) | (refine PIoO_no hP ?_ (fun _ _ => ?_)) | (refine PIoO_ite ?_ ?_) | (refine PIoO_some ?_) | (exact PIoO_none) | (refine PIoO_in (cQoO.c163 hc _ _ ?_) (fun _ _ _ => ?_)) | (refine PIoO_in (cQoO.c164 hc _ _ ?_) (fun _ _ _ => ?_)) | (refine PIoO_in (cQoO.c166 hc _ _ _ ?_) (fun _ _ _ => ?_)) | (refine PIoO_in (cQoO.c169 hc _ _ _ _ ?_) (fun _ _ _ => ?_)) | (refine PIoO_in (cQoO.c201 hc _ _ _ ?_) (fun _ _ _ => ?_)) | (refine pioO_oj_X11_add_98 hP hc  ?_) | (refine pioO_oj_X11_add_99 hP hc  ?_)))
theorem pioO_oj_X11_split_76  {x0 : Option Nat} {σ : oSt} (hP : iKptO P) (hc : cQoO P call)  (h : P σ) : PIo P (oj_X11_split_76 n call κ  x0 σ) := by
  unfold oj_X11_split_76
  repeat' (with_reducible (first | assumption | (refine PIoO_gd ?_) | (refine PIoO_pf hP ?_ (by decide) (by with_unfolding_all rfl) (fun _ _ => ?_)) | (refine PIoO_si hP ?_ (fun _ _ => ?_)) | (refine PIoO_sj hP ?_ (fun _ _ => ?_)) | (refine PIoO_sr hP ?_ (fun _ _ => ?_)) | (refine PIoO_cy hP ?_ (fun _ _ => ?_)) | (refine PIoO_bn (fun _ => ?_)) | (refine PIoO_na hP ?_ (fun _ _ => ?_)) | (refine PIoO_no hP ?_ (fun _ _ => ?_)) | (refine PIoO_ite ?_ ?_) | (refine PIoO_some ?_) | (exact PIoO_none) | (refine PIoO_in (cQoO.c207 hc _ _ ?_) (fun _ _ _ => ?_))))
theorem pioO_oj_X11_split_70 {k2 : Option Nat → Int32 → oSt → oRs} {x0 : Option Nat} {x1 : Int32} {σ : oSt} (hP : iKptO P) (hc : cQoO P call) (hk2 : ∀ (a0 : Option Nat) (a1 : Int32), ∀ σ, P σ → PIo P (k2 a0 a1 σ)) (h : P σ) : PIo P (oj_X11_split_70 n call κ k2 x0 x1 σ) := by
  unfold oj_X11_split_70
  repeat' (with_reducible (first | assumption | (refine PIoO_gd ?_) | (refine PIoO_pf hP ?_ (by decide) (by with_unfolding_all rfl) (fun _ _ => ?_)) | (refine PIoO_si hP ?_ (fun _ _ => ?_)) | (refine PIoO_sj hP ?_ (fun _ _ => ?_)) | (refine PIoO_sr hP ?_ (fun _ _ => ?_)) | (refine PIoO_cy hP ?_ (fun _ _ => ?_)) | (refine PIoO_bn (fun _ => ?_)) | (refine PIoO_na hP ?_ (fun _ _ => ?_)) | (refine PIoO_no hP ?_ (fun _ _ => ?_)) | (refine PIoO_ite ?_ ?_) | (refine PIoO_some ?_) | (exact PIoO_none) | (refine hk2 _ _ _ ?_)))
theorem pioO_ol_X11_split_2  (hP : iKptO P) (hc : cQoO P call)  : ∀ (t : Nat) (x0 : Option Nat) (x1 : Int32) (σ : oSt), P σ → PIo P (ol_X11_split_2 n call κ  t x0 x1 σ) := by
  intro t
  induction t with
  | zero => intros; exact PIoO_none
  | succ t ih =>
    intro x0 x1 σ h
    rw [ol_X11_split_2]
    repeat' (with_reducible (first | assumption | (refine PIoO_gd ?_) | (refine PIoO_pf hP ?_ (by decide) (by with_unfolding_all rfl) (fun _ _ => ?_)) | (refine PIoO_si hP ?_ (fun _ _ => ?_)) | (refine PIoO_sj hP ?_ (fun _ _ => ?_)) | (refine PIoO_sr hP ?_ (fun _ _ => ?_)) | (refine PIoO_cy hP ?_ (fun _ _ => ?_)) | (refine PIoO_bn (fun _ => ?_)) | (refine PIoO_na hP ?_ (fun _ _ => ?_)) | (refine PIoO_no hP ?_ (fun _ _ => ?_)) | (refine PIoO_ite ?_ ?_) | (refine PIoO_some ?_) | (exact PIoO_none) | (refine PIoO_cv (cQoO.c170 hc _ _ _ _ ?_) (fun _ _ => ?_)) | (refine PIoO_in (cQoO.c167 hc _ _ _ ?_) (fun _ _ _ => ?_)) | (refine PIoO_in (cQoO.c201 hc _ _ _ ?_) (fun _ _ _ => ?_)) | (refine PIoO_in (cQoO.c207 hc _ _ ?_) (fun _ _ _ => ?_)) | (refine pioO_oj_X11_split_76 hP hc  ?_) | (refine pioO_oj_X11_split_70 hP hc ih ?_)))
theorem pioO_ob_X11_split  {x0 : Option Nat} {σ : oSt} (hP : iKptO P) (hc : cQoO P call)  (h : P σ) : PIo P (ob_X11_split n call κ  x0 σ) := by
  unfold ob_X11_split
  repeat' (with_reducible (first | assumption | (refine PIoO_gd ?_) | (refine PIoO_pf hP ?_ (by decide) (by with_unfolding_all rfl) (fun _ _ => ?_)) | (refine PIoO_si hP ?_ (fun _ _ => ?_)) | (refine PIoO_sj hP ?_ (fun _ _ => ?_)) | (refine PIoO_sr hP ?_ (fun _ _ => ?_)) | (refine PIoO_cy hP ?_ (fun _ _ => ?_)) | (refine PIoO_bn (fun _ => ?_)) | (refine PIoO_na hP ?_ (fun _ _ => ?_)) | (refine PIoO_no hP ?_ (fun _ _ => ?_)) | (refine PIoO_ite ?_ ?_) | (refine PIoO_some ?_) | (exact PIoO_none) | (refine pioO_ol_X11_split_2 hP hc  _ _ _ _ ?_)))
theorem pioO_ob_X11_init  {x0 : Option Nat} {x1 : Option Nat} {σ : oSt} (hP : iKptO P) (hc : cQoO P call)  (h : P σ) : PIo P (ob_X11_init n call κ  x0 x1 σ) := by
  unfold ob_X11_init
  repeat' (with_reducible (first | assumption | (refine PIoO_gd ?_) | (refine PIoO_pf hP ?_ (by decide) (by with_unfolding_all rfl) (fun _ _ => ?_)) | (refine PIoO_si hP ?_ (fun _ _ => ?_)) | (refine PIoO_sj hP ?_ (fun _ _ => ?_)) | (refine PIoO_sr hP ?_ (fun _ _ => ?_)) | (refine PIoO_cy hP ?_ (fun _ _ => ?_)) | (refine PIoO_bn (fun _ => ?_)) | (refine PIoO_na hP ?_ (fun _ _ => ?_)) | (refine PIoO_no hP ?_ (fun _ _ => ?_)) | (refine PIoO_ite ?_ ?_) | (refine PIoO_some ?_) | (exact PIoO_none) | (refine PIoO_cv (cQoO.c171 hc _ _ ?_) (fun _ _ => ?_)) | (refine PIoO_in (cQoO.c207 hc _ _ ?_) (fun _ _ _ => ?_))))
theorem pioO_ol_X12_lay_3  (hP : iKptO P) (hc : cQoO P call)  : ∀ (t : Nat) (x0 : Option Nat) (x1 : Int32) (x2 : Int32) (σ : oSt), P σ → PIo P (ol_X12_lay_3 n call κ  t x0 x1 x2 σ) := by
  intro t
  induction t with
  | zero => intros; exact PIoO_none
  | succ t ih =>
    intro x0 x1 x2 σ h
    rw [ol_X12_lay_3]
    repeat' (with_reducible (first | assumption | (refine PIoO_gd ?_) | (refine PIoO_pf hP ?_ (by decide) (by with_unfolding_all rfl) (fun _ _ => ?_)) | (refine PIoO_si hP ?_ (fun _ _ => ?_)) | (refine PIoO_sj hP ?_ (fun _ _ => ?_)) | (refine PIoO_sr hP ?_ (fun _ _ => ?_)) | (refine PIoO_cy hP ?_ (fun _ _ => ?_)) | (refine PIoO_bn (fun _ => ?_)) | (refine PIoO_na hP ?_ (fun _ _ => ?_)) | (refine PIoO_no hP ?_ (fun _ _ => ?_)) | (refine PIoO_ite ?_ ?_) | (refine PIoO_some ?_) | (exact PIoO_none) | (refine ih _ _ _ _ ?_)))
theorem pioO_ob_X12_lay  {x0 : Option Nat} {x1 : Int32} {σ : oSt} (hP : iKptO P) (hc : cQoO P call)  (h : P σ) : PIo P (ob_X12_lay n call κ  x0 x1 σ) := by
  unfold ob_X12_lay
  repeat' (with_reducible (first | assumption | (refine PIoO_gd ?_) | (refine PIoO_pf hP ?_ (by decide) (by with_unfolding_all rfl) (fun _ _ => ?_)) | (refine PIoO_si hP ?_ (fun _ _ => ?_)) | (refine PIoO_sj hP ?_ (fun _ _ => ?_)) | (refine PIoO_sr hP ?_ (fun _ _ => ?_)) | (refine PIoO_cy hP ?_ (fun _ _ => ?_)) | (refine PIoO_bn (fun _ => ?_)) | (refine PIoO_na hP ?_ (fun _ _ => ?_)) | (refine PIoO_no hP ?_ (fun _ _ => ?_)) | (refine PIoO_ite ?_ ?_) | (refine PIoO_some ?_) | (exact PIoO_none) | (refine pioO_ol_X12_lay_3 hP hc  _ _ _ _ _ ?_)))
theorem pioO_ob_X12_feed  {x0 : Option Nat} {x1 : Int32} {x2 : Int32} {x3 : Int32} {x4 : Int32} {x5 : Int32} {σ : oSt} (hP : iKptO P) (hc : cQoO P call)  (h : P σ) : PIo P (ob_X12_feed n call κ  x0 x1 x2 x3 x4 x5 σ) := by
  unfold ob_X12_feed
  repeat' (with_reducible (first | assumption | (refine PIoO_gd ?_) | (refine PIoO_pf hP ?_ (by decide) (by with_unfolding_all rfl) (fun _ _ => ?_)) | (refine PIoO_si hP ?_ (fun _ _ => ?_)) | (refine PIoO_sj hP ?_ (fun _ _ => ?_)) | (refine PIoO_sr hP ?_ (fun _ _ => ?_)) | (refine PIoO_cy hP ?_ (fun _ _ => ?_)) | (refine PIoO_bn (fun _ => ?_)) | (refine PIoO_na hP ?_ (fun _ _ => ?_)) | (refine PIoO_no hP ?_ (fun _ _ => ?_)) | (refine PIoO_ite ?_ ?_) | (refine PIoO_some ?_) | (exact PIoO_none) | (refine PIoO_cv (cQoO.c174 hc _ _ _ ?_) (fun _ _ => ?_))))
theorem pioO_ob_X12_end  {x0 : Option Nat} {x1 : Int32} {σ : oSt} (hP : iKptO P) (hc : cQoO P call)  (h : P σ) : PIo P (ob_X12_end n call κ  x0 x1 σ) := by
  unfold ob_X12_end
  repeat' (with_reducible (first | assumption | (refine PIoO_gd ?_) | (refine PIoO_pf hP ?_ (by decide) (by with_unfolding_all rfl) (fun _ _ => ?_)) | (refine PIoO_si hP ?_ (fun _ _ => ?_)) | (refine PIoO_sj hP ?_ (fun _ _ => ?_)) | (refine PIoO_sr hP ?_ (fun _ _ => ?_)) | (refine PIoO_cy hP ?_ (fun _ _ => ?_)) | (refine PIoO_bn (fun _ => ?_)) | (refine PIoO_na hP ?_ (fun _ _ => ?_)) | (refine PIoO_no hP ?_ (fun _ _ => ?_)) | (refine PIoO_ite ?_ ?_) | (refine PIoO_some ?_) | (exact PIoO_none)))
theorem pioO_ob_X12_fault  {x0 : Option Nat} {x1 : Int32} {x2 : Int32} {σ : oSt} (hP : iKptO P) (hc : cQoO P call)  (h : P σ) : PIo P (ob_X12_fault n call κ  x0 x1 x2 σ) := by
  unfold ob_X12_fault
  repeat' (with_reducible (first | assumption | (refine PIoO_gd ?_) | (refine PIoO_pf hP ?_ (by decide) (by with_unfolding_all rfl) (fun _ _ => ?_)) | (refine PIoO_si hP ?_ (fun _ _ => ?_)) | (refine PIoO_sj hP ?_ (fun _ _ => ?_)) | (refine PIoO_sr hP ?_ (fun _ _ => ?_)) | (refine PIoO_cy hP ?_ (fun _ _ => ?_)) | (refine PIoO_bn (fun _ => ?_)) | (refine PIoO_na hP ?_ (fun _ _ => ?_)) | (refine PIoO_no hP ?_ (fun _ _ => ?_)) | (refine PIoO_ite ?_ ?_) | (refine PIoO_some ?_) | (exact PIoO_none)))
theorem pioO_ol_X12_compile_9  (hP : iKptO P) (hc : cQoO P call)  : ∀ (t : Nat) (x0 : Option Nat) (x1 : Option Nat) (x2 : Int32) (σ : oSt), P σ → PIo P (ol_X12_compile_9 n call κ  t x0 x1 x2 σ) := by
  intro t
  induction t with
  | zero => intros; exact PIoO_none
  | succ t ih =>
    intro x0 x1 x2 σ h
    rw [ol_X12_compile_9]
    repeat' (with_reducible (first | assumption | (refine PIoO_gd ?_) | (refine PIoO_pf hP ?_ (by decide) (by with_unfolding_all rfl) (fun _ _ => ?_)) | (refine PIoO_si hP ?_ (fun _ _ => ?_)) | (refine PIoO_sj hP ?_ (fun _ _ => ?_)) | (refine PIoO_sr hP ?_ (fun _ _ => ?_)) | (refine PIoO_cy hP ?_ (fun _ _ => ?_)) | (refine PIoO_bn (fun _ => ?_)) | (refine PIoO_na hP ?_ (fun _ _ => ?_)) | (refine PIoO_no hP ?_ (fun _ _ => ?_)) | (refine PIoO_ite ?_ ?_) | (refine PIoO_some ?_) | (exact PIoO_none) | (refine PIoO_cv (cQoO.c72 hc _ _ ?_) (fun _ _ => ?_)) | (refine PIoO_cv (cQoO.c73 hc _ _ _ _ ?_) (fun _ _ => ?_)) | (refine PIoO_cv (cQoO.c103 hc _ _ _ ?_) (fun _ _ => ?_)) | (refine PIoO_cv (cQoO.c122 hc _ _ _ ?_) (fun _ _ => ?_)) | (refine PIoO_cv (cQoO.c145 hc _ _ ?_) (fun _ _ => ?_)) | (refine PIoO_cv (cQoO.c147 hc _ _ _ ?_) (fun _ _ => ?_)) | (refine PIoO_cv (cQoO.c162 hc _ _ _ ?_) (fun _ _ => ?_)) | (refine PIoO_cv (cQoO.c172 hc _ _ _ ?_) (fun _ _ => ?_)) | (refine PIoO_cv (cQoO.c196 hc _ _ _ ?_) (fun _ _ => ?_)) | (refine PIoO_in (cQoO.c22 hc _ _ _ ?_) (fun _ _ _ => ?_)) | (refine PIoO_in (cQoO.c177 hc _ _ _ _ ?_) (fun _ _ _ => ?_)) | (refine ih _ _ _ _ ?_)))
theorem pioO_ob_X12_compile  {x0 : Option Nat} {σ : oSt} (hP : iKptO P) (hc : cQoO P call)  (h : P σ) : PIo P (ob_X12_compile n call κ  x0 σ) := by
  unfold ob_X12_compile
  repeat' (with_reducible (first | assumption | (refine PIoO_gd ?_) | (refine PIoO_pf hP ?_ (by decide) (by with_unfolding_all rfl) (fun _ _ => ?_)) | (refine PIoO_si hP ?_ (fun _ _ => ?_)) | (refine PIoO_sj hP ?_ (fun _ _ => ?_)) | (refine PIoO_sr hP ?_ (fun _ _ => ?_)) | (refine PIoO_cy hP ?_ (fun _ _ => ?_)) | (refine PIoO_bn (fun _ => ?_)) | (refine PIoO_na hP ?_ (fun _ _ => ?_)) | (refine PIoO_no hP ?_ (fun _ _ => ?_)) | (refine PIoO_ite ?_ ?_) | (refine PIoO_some ?_) | (exact PIoO_none) | (refine pioO_ol_X12_compile_9 hP hc  _ _ _ _ _ ?_)))
theorem pioO_oj_X12_accepted_60  {x0 : Option Nat} {σ : oSt} (hP : iKptO P) (hc : cQoO P call)  (h : P σ) : PIo P (oj_X12_accepted_60 n call κ  x0 σ) := by
  unfold oj_X12_accepted_60
  repeat' (with_reducible (first | assumption | (refine PIoO_gd ?_) | (refine PIoO_pf hP ?_ (by decide) (by with_unfolding_all rfl) (fun _ _ => ?_)) | (refine PIoO_si hP ?_ (fun _ _ => ?_)) | (refine PIoO_sj hP ?_ (fun _ _ => ?_)) | (refine PIoO_sr hP ?_ (fun _ _ => ?_)) | (refine PIoO_cy hP ?_ (fun _ _ => ?_)) | (refine PIoO_bn (fun _ => ?_)) | (refine PIoO_na hP ?_ (fun _ _ => ?_)) | (refine PIoO_no hP ?_ (fun _ _ => ?_)) | (refine PIoO_ite ?_ ?_) | (refine PIoO_some ?_) | (exact PIoO_none)))
theorem pioO_ob_X12_accepted  {x0 : Option Nat} {σ : oSt} (hP : iKptO P) (hc : cQoO P call)  (h : P σ) : PIo P (ob_X12_accepted n call κ  x0 σ) := by
  unfold ob_X12_accepted
  repeat' (with_reducible (first | assumption | (refine PIoO_gd ?_) | (refine PIoO_pf hP ?_ (by decide) (by with_unfolding_all rfl) (fun _ _ => ?_)) | (refine PIoO_si hP ?_ (fun _ _ => ?_)) | (refine PIoO_sj hP ?_ (fun _ _ => ?_)) | (refine PIoO_sr hP ?_ (fun _ _ => ?_)) | (refine PIoO_cy hP ?_ (fun _ _ => ?_)) | (refine PIoO_bn (fun _ => ?_)) | (refine PIoO_na hP ?_ (fun _ _ => ?_)) | (refine PIoO_no hP ?_ (fun _ _ => ?_)) | (refine PIoO_ite ?_ ?_) | (refine PIoO_some ?_) | (exact PIoO_none) | (refine PIoO_cv (cQoO.c0 hc _ _ _ _ _ ?_) (fun _ _ => ?_)) | (refine PIoO_cv (cQoO.c37 hc _ _ ?_) (fun _ _ => ?_)) | (refine PIoO_cv (cQoO.c65 hc _ _ ?_) (fun _ _ => ?_)) | (refine PIoO_cv (cQoO.c68 hc _ _ ?_) (fun _ _ => ?_)) | (refine pioO_oj_X12_accepted_60 hP hc  ?_)))
theorem pioO_ob_X12_place  {x0 : Option Nat} {σ : oSt} (hP : iKptO P) (hc : cQoO P call)  (h : P σ) : PIo P (ob_X12_place n call κ  x0 σ) := by
  unfold ob_X12_place
  repeat' (with_reducible (first | assumption | (refine PIoO_gd ?_) | (refine PIoO_pf hP ?_ (by decide) (by with_unfolding_all rfl) (fun _ _ => ?_)) | (refine PIoO_si hP ?_ (fun _ _ => ?_)) | (refine PIoO_sj hP ?_ (fun _ _ => ?_)) | (refine PIoO_sr hP ?_ (fun _ _ => ?_)) | (refine PIoO_cy hP ?_ (fun _ _ => ?_)) | (refine PIoO_bn (fun _ => ?_)) | (refine PIoO_na hP ?_ (fun _ _ => ?_)) | (refine PIoO_no hP ?_ (fun _ _ => ?_)) | (refine PIoO_ite ?_ ?_) | (refine PIoO_some ?_) | (exact PIoO_none)))
theorem pioO_oj_X12_put__68  {x0 : Option Nat} {σ : oSt} (hP : iKptO P) (hc : cQoO P call)  (h : P σ) : PIo P (oj_X12_put__68 n call κ  x0 σ) := by
  unfold oj_X12_put__68
  repeat' (with_reducible (first | assumption | (refine PIoO_gd ?_) | (refine PIoO_pf hP ?_ (by decide) (by with_unfolding_all rfl) (fun _ _ => ?_)) | (refine PIoO_si hP ?_ (fun _ _ => ?_)) | (refine PIoO_sj hP ?_ (fun _ _ => ?_)) | (refine PIoO_sr hP ?_ (fun _ _ => ?_)) | (refine PIoO_cy hP ?_ (fun _ _ => ?_)) | (refine PIoO_bn (fun _ => ?_)) | (refine PIoO_na hP ?_ (fun _ _ => ?_)) | (refine PIoO_no hP ?_ (fun _ _ => ?_)) | (refine PIoO_ite ?_ ?_) | (refine PIoO_some ?_) | (exact PIoO_none)))
theorem pioO_oj_X12_put__45  {x0 : Option Nat} {x1 : Int32} {σ : oSt} (hP : iKptO P) (hc : cQoO P call)  (h : P σ) : PIo P (oj_X12_put__45 n call κ  x0 x1 σ) := by
  unfold oj_X12_put__45
  repeat' (with_reducible (first | assumption | (refine PIoO_gd ?_) | (refine PIoO_pf hP ?_ (by decide) (by with_unfolding_all rfl) (fun _ _ => ?_)) | (refine PIoO_si hP ?_ (fun _ _ => ?_)) | (refine PIoO_sj hP ?_ (fun _ _ => ?_)) | (refine PIoO_sr hP ?_ (fun _ _ => ?_)) | (refine PIoO_cy hP ?_ (fun _ _ => ?_)) | (refine PIoO_bn (fun _ => ?_)) | (refine PIoO_na hP ?_ (fun _ _ => ?_)) | (refine PIoO_no hP ?_ (fun _ _ => ?_)) | (refine PIoO_ite ?_ ?_) | (refine PIoO_some ?_) | (exact PIoO_none) | (refine pioO_oj_X12_put__68 hP hc  ?_)))
theorem pioO_ob_X12_put_  {x0 : Option Nat} {x1 : Int32} {σ : oSt} (hP : iKptO P) (hc : cQoO P call)  (h : P σ) : PIo P (ob_X12_put_ n call κ  x0 x1 σ) := by
  unfold ob_X12_put_
  repeat' (with_reducible (first | assumption | (refine PIoO_gd ?_) | (refine PIoO_pf hP ?_ (by decide) (by with_unfolding_all rfl) (fun _ _ => ?_)) | (refine PIoO_si hP ?_ (fun _ _ => ?_)) | (refine PIoO_sj hP ?_ (fun _ _ => ?_)) | (refine PIoO_sr hP ?_ (fun _ _ => ?_)) | (refine PIoO_cy hP ?_ (fun _ _ => ?_)) | (refine PIoO_bn (fun _ => ?_)) | (refine PIoO_na hP ?_ (fun _ _ => ?_)) | (refine PIoO_no hP ?_ (fun _ _ => ?_)) | (refine PIoO_ite ?_ ?_) | (refine PIoO_some ?_) | (exact PIoO_none) | (refine PIoO_rn (cQoO.c240 hc _ _ _ ?_) (fun _ _ _ => ?_)) | (refine pioO_oj_X12_put__45 hP hc  ?_)))
theorem pioO_ol_X12_put_2  (hP : iKptO P) (hc : cQoO P call)  : ∀ (t : Nat) (x0 : Option Nat) (x1 : Option Nat) (x2 : Int32) (σ : oSt), P σ → PIo P (ol_X12_put_2 n call κ  t x0 x1 x2 σ) := by
  intro t
  induction t with
  | zero => intros; exact PIoO_none
  | succ t ih =>
    intro x0 x1 x2 σ h
    rw [ol_X12_put_2]
    repeat' (with_reducible (first | assumption | (refine PIoO_gd ?_) | (refine PIoO_pf hP ?_ (by decide) (by with_unfolding_all rfl) (fun _ _ => ?_)) | (refine PIoO_si hP ?_ (fun _ _ => ?_)) | (refine PIoO_sj hP ?_ (fun _ _ => ?_)) | (refine PIoO_sr hP ?_ (fun _ _ => ?_)) | (refine PIoO_cy hP ?_ (fun _ _ => ?_)) | (refine PIoO_bn (fun _ => ?_)) | (refine PIoO_na hP ?_ (fun _ _ => ?_)) | (refine PIoO_no hP ?_ (fun _ _ => ?_)) | (refine PIoO_ite ?_ ?_) | (refine PIoO_some ?_) | (exact PIoO_none) | (refine PIoO_cv (cQoO.c181 hc _ _ _ ?_) (fun _ _ => ?_)) | (refine PIoO_in (cQoO.c201 hc _ _ _ ?_) (fun _ _ _ => ?_)) | (refine PIoO_in (cQoO.c207 hc _ _ ?_) (fun _ _ _ => ?_)) | (refine ih _ _ _ _ ?_)))
theorem pioO_ob_X12_put  {x0 : Option Nat} {x1 : Option Nat} {σ : oSt} (hP : iKptO P) (hc : cQoO P call)  (h : P σ) : PIo P (ob_X12_put n call κ  x0 x1 σ) := by
  unfold ob_X12_put
  repeat' (with_reducible (first | assumption | (refine PIoO_gd ?_) | (refine PIoO_pf hP ?_ (by decide) (by with_unfolding_all rfl) (fun _ _ => ?_)) | (refine PIoO_si hP ?_ (fun _ _ => ?_)) | (refine PIoO_sj hP ?_ (fun _ _ => ?_)) | (refine PIoO_sr hP ?_ (fun _ _ => ?_)) | (refine PIoO_cy hP ?_ (fun _ _ => ?_)) | (refine PIoO_bn (fun _ => ?_)) | (refine PIoO_na hP ?_ (fun _ _ => ?_)) | (refine PIoO_no hP ?_ (fun _ _ => ?_)) | (refine PIoO_ite ?_ ?_) | (refine PIoO_some ?_) | (exact PIoO_none) | (refine pioO_ol_X12_put_2 hP hc  _ _ _ _ _ ?_)))
theorem pioO_ol_X12_tellNumber_55  (hP : iKptO P) (hc : cQoO P call)  : ∀ (t : Nat) (x0 : Option Nat) (x1 : Int64) (x2 : Int64) (σ : oSt), P σ → PIo P (ol_X12_tellNumber_55 n call κ  t x0 x1 x2 σ) := by
  intro t
  induction t with
  | zero => intros; exact PIoO_none
  | succ t ih =>
    intro x0 x1 x2 σ h
    rw [ol_X12_tellNumber_55]
    repeat' (with_reducible (first | assumption | (refine PIoO_gd ?_) | (refine PIoO_pf hP ?_ (by decide) (by with_unfolding_all rfl) (fun _ _ => ?_)) | (refine PIoO_si hP ?_ (fun _ _ => ?_)) | (refine PIoO_sj hP ?_ (fun _ _ => ?_)) | (refine PIoO_sr hP ?_ (fun _ _ => ?_)) | (refine PIoO_cy hP ?_ (fun _ _ => ?_)) | (refine PIoO_bn (fun _ => ?_)) | (refine PIoO_na hP ?_ (fun _ _ => ?_)) | (refine PIoO_no hP ?_ (fun _ _ => ?_)) | (refine PIoO_ite ?_ ?_) | (refine PIoO_some ?_) | (exact PIoO_none) | (refine PIoO_cv (cQoO.c181 hc _ _ _ ?_) (fun _ _ => ?_)) | (refine ih _ _ _ _ ?_)))
theorem pioO_ol_X12_tellNumber_23  (hP : iKptO P) (hc : cQoO P call)  : ∀ (t : Nat) (x0 : Option Nat) (x1 : Int64) (x2 : Int64) (x3 : Int32) (σ : oSt), P σ → PIo P (ol_X12_tellNumber_23 n call κ  t x0 x1 x2 x3 σ) := by
  intro t
  induction t with
  | zero => intros; exact PIoO_none
  | succ t ih =>
    intro x0 x1 x2 x3 σ h
    rw [ol_X12_tellNumber_23]
    repeat' (with_reducible (first | assumption | (refine PIoO_gd ?_) | (refine PIoO_pf hP ?_ (by decide) (by with_unfolding_all rfl) (fun _ _ => ?_)) | (refine PIoO_si hP ?_ (fun _ _ => ?_)) | (refine PIoO_sj hP ?_ (fun _ _ => ?_)) | (refine PIoO_sr hP ?_ (fun _ _ => ?_)) | (refine PIoO_cy hP ?_ (fun _ _ => ?_)) | (refine PIoO_bn (fun _ => ?_)) | (refine PIoO_na hP ?_ (fun _ _ => ?_)) | (refine PIoO_no hP ?_ (fun _ _ => ?_)) | (refine PIoO_ite ?_ ?_) | (refine PIoO_some ?_) | (exact PIoO_none) | (refine pioO_ol_X12_tellNumber_55 hP hc  _ _ _ _ _ ?_) | (refine ih _ _ _ _ _ ?_)))
theorem pioO_oj_X12_tellNumber_12  {x0 : Option Nat} {x1 : Int64} {σ : oSt} (hP : iKptO P) (hc : cQoO P call)  (h : P σ) : PIo P (oj_X12_tellNumber_12 n call κ  x0 x1 σ) := by
  unfold oj_X12_tellNumber_12
  repeat' (with_reducible (first | assumption | (refine PIoO_gd ?_) | (refine PIoO_pf hP ?_ (by decide) (by with_unfolding_all rfl) (fun _ _ => ?_)) | (refine PIoO_si hP ?_ (fun _ _ => ?_)) | (refine PIoO_sj hP ?_ (fun _ _ => ?_)) | (refine PIoO_sr hP ?_ (fun _ _ => ?_)) | (refine PIoO_cy hP ?_ (fun _ _ => ?_)) | (refine PIoO_bn (fun _ => ?_)) | (refine PIoO_na hP ?_ (fun _ _ => ?_)) | (refine PIoO_no hP ?_ (fun _ _ => ?_)) | (refine PIoO_ite ?_ ?_) | (refine PIoO_some ?_) | (exact PIoO_none) | (refine pioO_ol_X12_tellNumber_23 hP hc  _ _ _ _ _ _ ?_)))
theorem pioO_ob_X12_tellNumber  {x0 : Option Nat} {x1 : Int64} {σ : oSt} (hP : iKptO P) (hc : cQoO P call)  (h : P σ) : PIo P (ob_X12_tellNumber n call κ  x0 x1 σ) := by
  unfold ob_X12_tellNumber
  repeat' (with_reducible (first | assumption | (refine PIoO_gd ?_) | (refine PIoO_pf hP ?_ (by decide) (by with_unfolding_all rfl) (fun _ _ => ?_)) | (refine PIoO_si hP ?_ (fun _ _ => ?_)) | (refine PIoO_sj hP ?_ (fun _ _ => ?_)) | (refine PIoO_sr hP ?_ (fun _ _ => ?_)) | (refine PIoO_cy hP ?_ (fun _ _ => ?_)) | (refine PIoO_bn (fun _ => ?_)) | (refine PIoO_na hP ?_ (fun _ _ => ?_)) | (refine PIoO_no hP ?_ (fun _ _ => ?_)) | (refine PIoO_ite ?_ ?_) | (refine PIoO_some ?_) | (exact PIoO_none) | (refine PIoO_cv (cQoO.c181 hc _ _ _ ?_) (fun _ _ => ?_)) | (refine pioO_oj_X12_tellNumber_12 hP hc  ?_)))
theorem pioO_oj_X12_tellName_67  {x0 : Option Nat} {x2 : Int32} {σ : oSt} (hP : iKptO P) (hc : cQoO P call)  (h : P σ) : PIo P (oj_X12_tellName_67 n call κ  x0 x2 σ) := by
  unfold oj_X12_tellName_67
  repeat' (with_reducible (first | assumption | (refine PIoO_gd ?_) | (refine PIoO_pf hP ?_ (by decide) (by with_unfolding_all rfl) (fun _ _ => ?_)) | (refine PIoO_si hP ?_ (fun _ _ => ?_)) | (refine PIoO_sj hP ?_ (fun _ _ => ?_)) | (refine PIoO_sr hP ?_ (fun _ _ => ?_)) | (refine PIoO_cy hP ?_ (fun _ _ => ?_)) | (refine PIoO_bn (fun _ => ?_)) | (refine PIoO_na hP ?_ (fun _ _ => ?_)) | (refine PIoO_no hP ?_ (fun _ _ => ?_)) | (refine PIoO_ite ?_ ?_) | (refine PIoO_some ?_) | (exact PIoO_none) | (refine PIoO_cv (cQoO.c181 hc _ _ _ ?_) (fun _ _ => ?_)) | (refine PIoO_cv (cQoO.c183 hc _ _ _ ?_) (fun _ _ => ?_))))
theorem pioO_oj_X12_tellName_47  {x0 : Option Nat} {x1 : Option Nat} {x2 : Int32} {σ : oSt} (hP : iKptO P) (hc : cQoO P call)  (h : P σ) : PIo P (oj_X12_tellName_47 n call κ  x0 x1 x2 σ) := by
  unfold oj_X12_tellName_47
  repeat' (with_reducible (first | assumption | (refine PIoO_gd ?_) | (refine PIoO_pf hP ?_ (by decide) (by with_unfolding_all rfl) (fun _ _ => ?_)) | (refine PIoO_si hP ?_ (fun _ _ => ?_)) | (refine PIoO_sj hP ?_ (fun _ _ => ?_)) | (refine PIoO_sr hP ?_ (fun _ _ => ?_)) | (refine PIoO_cy hP ?_ (fun _ _ => ?_)) | (refine PIoO_bn (fun _ => ?_)) | (refine PIoO_na hP ?_ (fun _ _ => ?_)) | (refine PIoO_no hP ?_ (fun _ _ => ?_)) | (refine PIoO_ite ?_ ?_) | (refine PIoO_some ?_) | (exact PIoO_none) | (refine PIoO_in (cQoO.c227 hc _ _ _ ?_) (fun _ _ _ => ?_)) | (refine PIoO_in (cQoO.c236 hc _ _ ?_) (fun _ _ _ => ?_)) | (refine pioO_oj_X12_tellName_67 hP hc  ?_)))
theorem pioO_ol_X12_tellName_18  (hP : iKptO P) (hc : cQoO P call)  : ∀ (t : Nat) (x0 : Option Nat) (x1 : Option Nat) (x2 : Int32) (σ : oSt), P σ → PIo P (ol_X12_tellName_18 n call κ  t x0 x1 x2 σ) := by
  intro t
  induction t with
  | zero => intros; exact PIoO_none
  | succ t ih =>
    intro x0 x1 x2 σ h
    rw [ol_X12_tellName_18]
    repeat' (with_reducible (first | assumption | (refine PIoO_gd ?_) | (refine PIoO_pf hP ?_ (by decide) (by with_unfolding_all rfl) (fun _ _ => ?_)) | (refine PIoO_si hP ?_ (fun _ _ => ?_)) | (refine PIoO_sj hP ?_ (fun _ _ => ?_)) | (refine PIoO_sr hP ?_ (fun _ _ => ?_)) | (refine PIoO_cy hP ?_ (fun _ _ => ?_)) | (refine PIoO_bn (fun _ => ?_)) | (refine PIoO_na hP ?_ (fun _ _ => ?_)) | (refine PIoO_no hP ?_ (fun _ _ => ?_)) | (refine PIoO_ite ?_ ?_) | (refine PIoO_some ?_) | (exact PIoO_none) | (refine PIoO_in (cQoO.c236 hc _ _ ?_) (fun _ _ _ => ?_)) | (refine PIoO_rn (cQoO.c234 hc _ _ _ ?_) (fun _ _ _ => ?_)) | (refine pioO_oj_X12_tellName_47 hP hc  ?_) | (refine ih _ _ _ _ ?_)))
theorem pioO_ob_X12_tellName  {x0 : Option Nat} {x1 : Option Nat} {σ : oSt} (hP : iKptO P) (hc : cQoO P call)  (h : P σ) : PIo P (ob_X12_tellName n call κ  x0 x1 σ) := by
  unfold ob_X12_tellName
  repeat' (with_reducible (first | assumption | (refine PIoO_gd ?_) | (refine PIoO_pf hP ?_ (by decide) (by with_unfolding_all rfl) (fun _ _ => ?_)) | (refine PIoO_si hP ?_ (fun _ _ => ?_)) | (refine PIoO_sj hP ?_ (fun _ _ => ?_)) | (refine PIoO_sr hP ?_ (fun _ _ => ?_)) | (refine PIoO_cy hP ?_ (fun _ _ => ?_)) | (refine PIoO_bn (fun _ => ?_)) | (refine PIoO_na hP ?_ (fun _ _ => ?_)) | (refine PIoO_no hP ?_ (fun _ _ => ?_)) | (refine PIoO_ite ?_ ?_) | (refine PIoO_some ?_) | (exact PIoO_none) | (refine PIoO_cv (cQoO.c182 hc _ _ _ ?_) (fun _ _ => ?_)) | (refine pioO_ol_X12_tellName_18 hP hc  _ _ _ _ _ ?_)))
theorem pioO_oj_X12_tellRelation_29  {t0 : Option Nat} {t1 : Option Nat} {σ : oSt} (hP : iKptO P) (hc : cQoO P call)  (h : P σ) : PIo P (oj_X12_tellRelation_29 n call κ  t0 t1 σ) := by
  unfold oj_X12_tellRelation_29
  repeat' (with_reducible (first | assumption | (refine PIoO_gd ?_) | (refine PIoO_pf hP ?_ (by decide) (by with_unfolding_all rfl) (fun _ _ => ?_)) | (refine PIoO_si hP ?_ (fun _ _ => ?_)) | (refine PIoO_sj hP ?_ (fun _ _ => ?_)) | (refine PIoO_sr hP ?_ (fun _ _ => ?_)) | (refine PIoO_cy hP ?_ (fun _ _ => ?_)) | (refine PIoO_bn (fun _ => ?_)) | (refine PIoO_na hP ?_ (fun _ _ => ?_)) | (refine PIoO_no hP ?_ (fun _ _ => ?_)) | (refine PIoO_ite ?_ ?_) | (refine PIoO_some ?_) | (exact PIoO_none) | (refine PIoO_cv (cQoO.c182 hc _ _ _ ?_) (fun _ _ => ?_))))
theorem pioO_oj_X12_tellRelation_14  {x0 : Option Nat} {x1 : Int32} {σ : oSt} (hP : iKptO P) (hc : cQoO P call)  (h : P σ) : PIo P (oj_X12_tellRelation_14 n call κ  x0 x1 σ) := by
  unfold oj_X12_tellRelation_14
  repeat' (with_reducible (first | assumption | (refine PIoO_gd ?_) | (refine PIoO_pf hP ?_ (by decide) (by with_unfolding_all rfl) (fun _ _ => ?_)) | (refine PIoO_si hP ?_ (fun _ _ => ?_)) | (refine PIoO_sj hP ?_ (fun _ _ => ?_)) | (refine PIoO_sr hP ?_ (fun _ _ => ?_)) | (refine PIoO_cy hP ?_ (fun _ _ => ?_)) | (refine PIoO_bn (fun _ => ?_)) | (refine PIoO_na hP ?_ (fun _ _ => ?_)) | (refine PIoO_no hP ?_ (fun _ _ => ?_)) | (refine PIoO_ite ?_ ?_) | (refine PIoO_some ?_) | (exact PIoO_none) | (refine pioO_oj_X12_tellRelation_29 hP hc  ?_)))
theorem pioO_ob_X12_tellRelation  {x0 : Option Nat} {x1 : Int32} {σ : oSt} (hP : iKptO P) (hc : cQoO P call)  (h : P σ) : PIo P (ob_X12_tellRelation n call κ  x0 x1 σ) := by
  unfold ob_X12_tellRelation
  repeat' (with_reducible (first | assumption | (refine PIoO_gd ?_) | (refine PIoO_pf hP ?_ (by decide) (by with_unfolding_all rfl) (fun _ _ => ?_)) | (refine PIoO_si hP ?_ (fun _ _ => ?_)) | (refine PIoO_sj hP ?_ (fun _ _ => ?_)) | (refine PIoO_sr hP ?_ (fun _ _ => ?_)) | (refine PIoO_cy hP ?_ (fun _ _ => ?_)) | (refine PIoO_bn (fun _ => ?_)) | (refine PIoO_na hP ?_ (fun _ _ => ?_)) | (refine PIoO_no hP ?_ (fun _ _ => ?_)) | (refine PIoO_ite ?_ ?_) | (refine PIoO_some ?_) | (exact PIoO_none) | (refine PIoO_cv (cQoO.c181 hc _ _ _ ?_) (fun _ _ => ?_)) | (refine pioO_oj_X12_tellRelation_14 hP hc  ?_)))
theorem pioO_oj_X12_tellTerm_97  {x0 : Option Nat} {x1 : Option Nat} {σ : oSt} (hP : iKptO P) (hc : cQoO P call)  (h : P σ) : PIo P (oj_X12_tellTerm_97 n call κ  x0 x1 σ) := by
  unfold oj_X12_tellTerm_97
  repeat' (with_reducible (first | assumption | (refine PIoO_gd ?_) | (refine PIoO_pf hP ?_ (by decide) (by with_unfolding_all rfl) (fun _ _ => ?_)) | (refine PIoO_si hP ?_ (fun _ _ => ?_)) | (refine PIoO_sj hP ?_ (fun _ _ => ?_)) | (refine PIoO_sr hP ?_ (fun _ _ => ?_)) | (refine PIoO_cy hP ?_ (fun _ _ => ?_)) | (refine PIoO_bn (fun _ => ?_)) | (refine PIoO_na hP ?_ (fun _ _ => ?_)) | (refine PIoO_no hP ?_ (fun _ _ => ?_)) | (refine PIoO_ite ?_ ?_) | (refine PIoO_some ?_) | (exact PIoO_none) | (refine PIoO_cv (cQoO.c183 hc _ _ _ ?_) (fun _ _ => ?_))))
theorem pioO_oj_X12_tellTerm_71  {x0 : Option Nat} {x1 : Option Nat} {t0 : Option Nat} {t1 : Option Nat} {σ : oSt} (hP : iKptO P) (hc : cQoO P call)  (h : P σ) : PIo P (oj_X12_tellTerm_71 n call κ  x0 x1 t0 t1 σ) := by
  unfold oj_X12_tellTerm_71
  repeat' (with_reducible (first | assumption | (refine PIoO_gd ?_) | (refine PIoO_pf hP ?_ (by decide) (by with_unfolding_all rfl) (fun _ _ => ?_)) | (refine PIoO_si hP ?_ (fun _ _ => ?_)) | (refine PIoO_sj hP ?_ (fun _ _ => ?_)) | (refine PIoO_sr hP ?_ (fun _ _ => ?_)) | (refine PIoO_cy hP ?_ (fun _ _ => ?_)) | (refine PIoO_bn (fun _ => ?_)) | (refine PIoO_na hP ?_ (fun _ _ => ?_)) | (refine PIoO_no hP ?_ (fun _ _ => ?_)) | (refine PIoO_ite ?_ ?_) | (refine PIoO_some ?_) | (exact PIoO_none) | (refine PIoO_cv (cQoO.c181 hc _ _ _ ?_) (fun _ _ => ?_)) | (refine PIoO_cv (cQoO.c182 hc _ _ _ ?_) (fun _ _ => ?_)) | (refine PIoO_cv (cQoO.c184 hc _ _ _ ?_) (fun _ _ => ?_)) | (refine pioO_oj_X12_tellTerm_97 hP hc  ?_)))
theorem pioO_oj_X12_tellTerm_29  {x0 : Option Nat} {x1 : Option Nat} {σ : oSt} (hP : iKptO P) (hc : cQoO P call)  (h : P σ) : PIo P (oj_X12_tellTerm_29 n call κ  x0 x1 σ) := by
  unfold oj_X12_tellTerm_29
  repeat' (with_reducible (first | assumption | (refine PIoO_gd ?_) | (refine PIoO_pf hP ?_ (by decide) (by with_unfolding_all rfl) (fun _ _ => ?_)) | (refine PIoO_si hP ?_ (fun _ _ => ?_)) | (refine PIoO_sj hP ?_ (fun _ _ => ?_)) | (refine PIoO_sr hP ?_ (fun _ _ => ?_)) | (refine PIoO_cy hP ?_ (fun _ _ => ?_)) | (refine PIoO_bn (fun _ => ?_)) | (refine PIoO_na hP ?_ (fun _ _ => ?_)) | (refine PIoO_no hP ?_ (fun _ _ => ?_)) | (refine PIoO_ite ?_ ?_) | (refine PIoO_some ?_) | (exact PIoO_none) | (refine pioO_oj_X12_tellTerm_71 hP hc  ?_)))
theorem pioO_ob_X12_tellTerm  {x0 : Option Nat} {x1 : Option Nat} {σ : oSt} (hP : iKptO P) (hc : cQoO P call)  (h : P σ) : PIo P (ob_X12_tellTerm n call κ  x0 x1 σ) := by
  unfold ob_X12_tellTerm
  repeat' (with_reducible (first | assumption | (refine PIoO_gd ?_) | (refine PIoO_pf hP ?_ (by decide) (by with_unfolding_all rfl) (fun _ _ => ?_)) | (refine PIoO_si hP ?_ (fun _ _ => ?_)) | (refine PIoO_sj hP ?_ (fun _ _ => ?_)) | (refine PIoO_sr hP ?_ (fun _ _ => ?_)) | (refine PIoO_cy hP ?_ (fun _ _ => ?_)) | (refine PIoO_bn (fun _ => ?_)) | (refine PIoO_na hP ?_ (fun _ _ => ?_)) | (refine PIoO_no hP ?_ (fun _ _ => ?_)) | (refine PIoO_ite ?_ ?_) | (refine PIoO_some ?_) | (exact PIoO_none) | (refine PIoO_cv (cQoO.c181 hc _ _ _ ?_) (fun _ _ => ?_)) | (refine PIoO_cv (cQoO.c183 hc _ _ _ ?_) (fun _ _ => ?_)) | (refine pioO_oj_X12_tellTerm_29 hP hc  ?_)))
theorem pioO_oj_X12_tellLeaf_68  {x0 : Option Nat} {x1 : Option Nat} {σ : oSt} (hP : iKptO P) (hc : cQoO P call)  (h : P σ) : PIo P (oj_X12_tellLeaf_68 n call κ  x0 x1 σ) := by
  unfold oj_X12_tellLeaf_68
  repeat' (with_reducible (first | assumption | (refine PIoO_gd ?_) | (refine PIoO_pf hP ?_ (by decide) (by with_unfolding_all rfl) (fun _ _ => ?_)) | (refine PIoO_si hP ?_ (fun _ _ => ?_)) | (refine PIoO_sj hP ?_ (fun _ _ => ?_)) | (refine PIoO_sr hP ?_ (fun _ _ => ?_)) | (refine PIoO_cy hP ?_ (fun _ _ => ?_)) | (refine PIoO_bn (fun _ => ?_)) | (refine PIoO_na hP ?_ (fun _ _ => ?_)) | (refine PIoO_no hP ?_ (fun _ _ => ?_)) | (refine PIoO_ite ?_ ?_) | (refine PIoO_some ?_) | (exact PIoO_none) | (refine PIoO_cv (cQoO.c182 hc _ _ _ ?_) (fun _ _ => ?_))))
theorem pioO_oj_X12_tellLeaf_30 {k2 : Option Nat → Option Nat → Int32 → oSt → oRs} {x0 : Option Nat} {x1 : Option Nat} {x2 : Int32} {t0 : Option Nat} {t1 : Option Nat} {σ : oSt} (hP : iKptO P) (hc : cQoO P call) (hk2 : ∀ (a0 : Option Nat) (a1 : Option Nat) (a2 : Int32), ∀ σ, P σ → PIo P (k2 a0 a1 a2 σ)) (h : P σ) : PIo P (oj_X12_tellLeaf_30 n call κ k2 x0 x1 x2 t0 t1 σ) := by
  unfold oj_X12_tellLeaf_30
  repeat' (with_reducible (first | assumption | (refine PIoO_gd ?_) | (refine PIoO_pf hP ?_ (by decide) (by with_unfolding_all rfl) (fun _ _ => ?_)) | (refine PIoO_si hP ?_ (fun _ _ => ?_)) | (refine PIoO_sj hP ?_ (fun _ _ => ?_)) | (refine PIoO_sr hP ?_ (fun _ _ => ?_)) | (refine PIoO_cy hP ?_ (fun _ _ => ?_)) | (refine PIoO_bn (fun _ => ?_)) | (refine PIoO_na hP ?_ (fun _ _ => ?_)) | (refine PIoO_no hP ?_ (fun _ _ => ?_)) | (refine PIoO_ite ?_ ?_) | (refine PIoO_some ?_) | (exact PIoO_none) | (refine PIoO_cv (cQoO.c182 hc _ _ _ ?_) (fun _ _ => ?_)) | (refine PIoO_cv (cQoO.c185 hc _ _ _ ?_) (fun _ _ => ?_)) | (refine PIoO_cv (cQoO.c186 hc _ _ _ ?_) (fun _ _ => ?_)) | (refine hk2 _ _ _ _ ?_)))
theorem pioO_ol_X12_tellLeaf_2  (hP : iKptO P) (hc : cQoO P call)  : ∀ (t : Nat) (x0 : Option Nat) (x1 : Option Nat) (x2 : Int32) (σ : oSt), P σ → PIo P (ol_X12_tellLeaf_2 n call κ  t x0 x1 x2 σ) := by
  intro t
  induction t with
  | zero => intros; exact PIoO_none
  | succ t ih =>
    intro x0 x1 x2 σ h
    rw [ol_X12_tellLeaf_2]
    repeat' (with_reducible (first | assumption | (refine PIoO_gd ?_) | (refine PIoO_pf hP ?_ (by decide) (by with_unfolding_all rfl) (fun _ _ => ?_)) | (refine PIoO_si hP ?_ (fun _ _ => ?_)) | (refine PIoO_sj hP ?_ (fun _ _ => ?_)) | (refine PIoO_sr hP ?_ (fun _ _ => ?_)) | (refine PIoO_cy hP ?_ (fun _ _ => ?_)) | (refine PIoO_bn (fun _ => ?_)) | (refine PIoO_na hP ?_ (fun _ _ => ?_)) | (refine PIoO_no hP ?_ (fun _ _ => ?_)) | (refine PIoO_ite ?_ ?_) | (refine PIoO_some ?_) | (exact PIoO_none) | (refine PIoO_cv (cQoO.c46 hc _ _ _ ?_) (fun _ _ => ?_)) | (refine PIoO_cv (cQoO.c181 hc _ _ _ ?_) (fun _ _ => ?_)) | (refine pioO_oj_X12_tellLeaf_68 hP hc  ?_) | (refine pioO_oj_X12_tellLeaf_30 hP hc ih ?_)))
theorem pioO_ob_X12_tellLeaf  {x0 : Option Nat} {x1 : Option Nat} {σ : oSt} (hP : iKptO P) (hc : cQoO P call)  (h : P σ) : PIo P (ob_X12_tellLeaf n call κ  x0 x1 σ) := by
  unfold ob_X12_tellLeaf
  repeat' (with_reducible (first | assumption | (refine PIoO_gd ?_) | (refine PIoO_pf hP ?_ (by decide) (by with_unfolding_all rfl) (fun _ _ => ?_)) | (refine PIoO_si hP ?_ (fun _ _ => ?_)) | (refine PIoO_sj hP ?_ (fun _ _ => ?_)) | (refine PIoO_sr hP ?_ (fun _ _ => ?_)) | (refine PIoO_cy hP ?_ (fun _ _ => ?_)) | (refine PIoO_bn (fun _ => ?_)) | (refine PIoO_na hP ?_ (fun _ _ => ?_)) | (refine PIoO_no hP ?_ (fun _ _ => ?_)) | (refine PIoO_ite ?_ ?_) | (refine PIoO_some ?_) | (exact PIoO_none) | (refine pioO_ol_X12_tellLeaf_2 hP hc  _ _ _ _ _ ?_)))
theorem pioO_oj_X12_tell_114  {x0 : Option Nat} {x3 : Option Nat} {σ : oSt} (hP : iKptO P) (hc : cQoO P call)  (h : P σ) : PIo P (oj_X12_tell_114 n call κ  x0 x3 σ) := by
  unfold oj_X12_tell_114
  repeat' (with_reducible (first | assumption | (refine PIoO_gd ?_) | (refine PIoO_pf hP ?_ (by decide) (by with_unfolding_all rfl) (fun _ _ => ?_)) | (refine PIoO_si hP ?_ (fun _ _ => ?_)) | (refine PIoO_sj hP ?_ (fun _ _ => ?_)) | (refine PIoO_sr hP ?_ (fun _ _ => ?_)) | (refine PIoO_cy hP ?_ (fun _ _ => ?_)) | (refine PIoO_bn (fun _ => ?_)) | (refine PIoO_na hP ?_ (fun _ _ => ?_)) | (refine PIoO_no hP ?_ (fun _ _ => ?_)) | (refine PIoO_ite ?_ ?_) | (refine PIoO_some ?_) | (exact PIoO_none) | (refine PIoO_cv (cQoO.c187 hc _ _ _ ?_) (fun _ _ => ?_))))
theorem pioO_oj_X12_tell_96 {k5 : Option Nat → Int32 → Option Nat → Int32 → oSt → oRs} {x0 : Option Nat} {x2 : Int32} {x3 : Option Nat} {x4 : Int32} {σ : oSt} (hP : iKptO P) (hc : cQoO P call) (hk5 : ∀ (a0 : Option Nat) (a1 : Int32) (a2 : Option Nat) (a3 : Int32), ∀ σ, P σ → PIo P (k5 a0 a1 a2 a3 σ)) (h : P σ) : PIo P (oj_X12_tell_96 n call κ k5 x0 x2 x3 x4 σ) := by
  unfold oj_X12_tell_96
  repeat' (with_reducible (first | assumption | (refine PIoO_gd ?_) | (refine PIoO_pf hP ?_ (by decide) (by with_unfolding_all rfl) (fun _ _ => ?_)) | (refine PIoO_si hP ?_ (fun _ _ => ?_)) | (refine PIoO_sj hP ?_ (fun _ _ => ?_)) | (refine PIoO_sr hP ?_ (fun _ _ => ?_)) | (refine PIoO_cy hP ?_ (fun _ _ => ?_)) | (refine PIoO_bn (fun _ => ?_)) | (refine PIoO_na hP ?_ (fun _ _ => ?_)) | (refine PIoO_no hP ?_ (fun _ _ => ?_)) | (refine PIoO_ite ?_ ?_) | (refine PIoO_some ?_) | (exact PIoO_none) | (refine PIoO_cv (cQoO.c182 hc _ _ _ ?_) (fun _ _ => ?_)) | (refine PIoO_rn (cQoO.c4 hc _ _ _ ?_) (fun _ _ _ => ?_)) | (refine hk5 _ _ _ _ _ ?_)))
theorem pioO_oj_X12_tell_90 {k5 : Option Nat → Int32 → Option Nat → Int32 → oSt → oRs} {x0 : Option Nat} {x2 : Int32} {x3 : Option Nat} {x4 : Int32} {x5 : Option Nat} {σ : oSt} (hP : iKptO P) (hc : cQoO P call) (hk5 : ∀ (a0 : Option Nat) (a1 : Int32) (a2 : Option Nat) (a3 : Int32), ∀ σ, P σ → PIo P (k5 a0 a1 a2 a3 σ)) (h : P σ) : PIo P (oj_X12_tell_90 n call κ k5 x0 x2 x3 x4 x5 σ) := by
  unfold oj_X12_tell_90
  repeat' (with_reducible (first | assumption | (refine PIoO_gd ?_) | (refine PIoO_pf hP ?_ (by decide) (by with_unfolding_all rfl) (fun _ _ => ?_)) | (refine PIoO_si hP ?_ (fun _ _ => ?_)) | (refine PIoO_sj hP ?_ (fun _ _ => ?_)) | (refine PIoO_sr hP ?_ (fun _ _ => ?_)) | (refine PIoO_cy hP ?_ (fun _ _ => ?_)) | (refine PIoO_bn (fun _ => ?_)) | (refine PIoO_na hP ?_ (fun _ _ => ?_)) | (refine PIoO_no hP ?_ (fun _ _ => ?_)) | (refine PIoO_ite ?_ ?_) | (refine PIoO_some ?_) | (exact PIoO_none) | (refine PIoO_cv (cQoO.c187 hc _ _ _ ?_) (fun _ _ => ?_)) | (refine pioO_oj_X12_tell_96 hP hc hk5 ?_) | (refine hk5 _ _ _ _ _ ?_)))
theorem pioO_ol_X12_tell_5  (hP : iKptO P) (hc : cQoO P call)  : ∀ (t : Nat) (x0 : Option Nat) (x1 : Int32) (x2 : Option Nat) (x3 : Int32) (σ : oSt), P σ → PIo P (ol_X12_tell_5 n call κ  t x0 x1 x2 x3 σ) := by
  intro t
  induction t with
  | zero => intros; exact PIoO_none
  | succ t ih =>
    intro x0 x1 x2 x3 σ h
    rw [ol_X12_tell_5]
    repeat' (with_reducible (first | assumption | (refine PIoO_gd ?_) | (refine PIoO_pf hP ?_ (by decide) (by with_unfolding_all rfl) (fun _ _ => ?_)) | (refine PIoO_si hP ?_ (fun _ _ => ?_)) | (refine PIoO_sj hP ?_ (fun _ _ => ?_)) | (refine PIoO_sr hP ?_ (fun _ _ => ?_)) | (refine PIoO_cy hP ?_ (fun _ _ => ?_)) | (refine PIoO_bn (fun _ => ?_)) | (refine PIoO_na hP ?_ (fun _ _ => ?_)) | (refine PIoO_no hP ?_ (fun _ _ => ?_)) | (refine PIoO_ite ?_ ?_) | (refine PIoO_some ?_) | (exact PIoO_none) | (refine PIoO_cv (cQoO.c181 hc _ _ _ ?_) (fun _ _ => ?_)) | (refine PIoO_cv (cQoO.c184 hc _ _ _ ?_) (fun _ _ => ?_)) | (refine PIoO_cv (cQoO.c188 hc _ _ _ _ ?_) (fun _ _ => ?_)) | (refine PIoO_rn (cQoO.c5 hc _ _ ?_) (fun _ _ _ => ?_)) | (refine pioO_oj_X12_tell_114 hP hc  ?_) | (refine pioO_oj_X12_tell_90 hP hc ih ?_) | (refine pioO_oj_X12_tell_96 hP hc ih ?_)))
theorem pioO_ob_X12_tell  {x0 : Option Nat} {x1 : Option Nat} {x2 : Int32} {σ : oSt} (hP : iKptO P) (hc : cQoO P call)  (h : P σ) : PIo P (ob_X12_tell n call κ  x0 x1 x2 σ) := by
  unfold ob_X12_tell
  repeat' (with_reducible (first | assumption | (refine PIoO_gd ?_) | (refine PIoO_pf hP ?_ (by decide) (by with_unfolding_all rfl) (fun _ _ => ?_)) | (refine PIoO_si hP ?_ (fun _ _ => ?_)) | (refine PIoO_sj hP ?_ (fun _ _ => ?_)) | (refine PIoO_sr hP ?_ (fun _ _ => ?_)) | (refine PIoO_cy hP ?_ (fun _ _ => ?_)) | (refine PIoO_bn (fun _ => ?_)) | (refine PIoO_na hP ?_ (fun _ _ => ?_)) | (refine PIoO_no hP ?_ (fun _ _ => ?_)) | (refine PIoO_ite ?_ ?_) | (refine PIoO_some ?_) | (exact PIoO_none) | (refine pioO_ol_X12_tell_5 hP hc  _ _ _ _ _ _ ?_)))
theorem pioO_ob_X12_type  {x0 : Option Nat} {x1 : Int32} {σ : oSt} (hP : iKptO P) (hc : cQoO P call)  (h : P σ) : PIo P (ob_X12_type n call κ  x0 x1 σ) := by
  unfold ob_X12_type
  repeat' (with_reducible (first | assumption | (refine PIoO_gd ?_) | (refine PIoO_pf hP ?_ (by decide) (by with_unfolding_all rfl) (fun _ _ => ?_)) | (refine PIoO_si hP ?_ (fun _ _ => ?_)) | (refine PIoO_sj hP ?_ (fun _ _ => ?_)) | (refine PIoO_sr hP ?_ (fun _ _ => ?_)) | (refine PIoO_cy hP ?_ (fun _ _ => ?_)) | (refine PIoO_bn (fun _ => ?_)) | (refine PIoO_na hP ?_ (fun _ _ => ?_)) | (refine PIoO_no hP ?_ (fun _ _ => ?_)) | (refine PIoO_ite ?_ ?_) | (refine PIoO_some ?_) | (exact PIoO_none) | (refine PIoO_cv (cQoO.c188 hc _ _ _ _ ?_) (fun _ _ => ?_)) | (refine PIoO_cv (cQoO.c237 hc _ _ ?_) (fun _ _ => ?_)) | (refine PIoO_in (cQoO.c236 hc _ _ ?_) (fun _ _ _ => ?_)) | (refine PIoO_rn (cQoO.c234 hc _ _ _ ?_) (fun _ _ _ => ?_))))
theorem pioO_ob_X12_out  {x0 : Option Nat} {x1 : Int32} {σ : oSt} (hP : iKptO P) (hc : cQoO P call)  (h : P σ) : PIo P (ob_X12_out n call κ  x0 x1 σ) := by
  unfold ob_X12_out
  repeat' (with_reducible (first | assumption | (refine PIoO_gd ?_) | (refine PIoO_pf hP ?_ (by decide) (by with_unfolding_all rfl) (fun _ _ => ?_)) | (refine PIoO_si hP ?_ (fun _ _ => ?_)) | (refine PIoO_sj hP ?_ (fun _ _ => ?_)) | (refine PIoO_sr hP ?_ (fun _ _ => ?_)) | (refine PIoO_cy hP ?_ (fun _ _ => ?_)) | (refine PIoO_bn (fun _ => ?_)) | (refine PIoO_na hP ?_ (fun _ _ => ?_)) | (refine PIoO_no hP ?_ (fun _ _ => ?_)) | (refine PIoO_ite ?_ ?_) | (refine PIoO_some ?_) | (exact PIoO_none)))
theorem pioO_ob_X12_give  {x0 : Option Nat} {x1 : Int32} {x2 : Int32} {σ : oSt} (hP : iKptO P) (hc : cQoO P call)  (h : P σ) : PIo P (ob_X12_give n call κ  x0 x1 x2 σ) := by
  unfold ob_X12_give
  repeat' (with_reducible (first | assumption | (refine PIoO_gd ?_) | (refine PIoO_pf hP ?_ (by decide) (by with_unfolding_all rfl) (fun _ _ => ?_)) | (refine PIoO_si hP ?_ (fun _ _ => ?_)) | (refine PIoO_sj hP ?_ (fun _ _ => ?_)) | (refine PIoO_sr hP ?_ (fun _ _ => ?_)) | (refine PIoO_cy hP ?_ (fun _ _ => ?_)) | (refine PIoO_bn (fun _ => ?_)) | (refine PIoO_na hP ?_ (fun _ _ => ?_)) | (refine PIoO_no hP ?_ (fun _ _ => ?_)) | (refine PIoO_ite ?_ ?_) | (refine PIoO_some ?_) | (exact PIoO_none) | (refine PIoO_in (cQoO.c74 hc _ _ _ _ _ ?_) (fun _ _ _ => ?_)) | (refine PIoO_rn (cQoO.c234 hc _ _ _ ?_) (fun _ _ _ => ?_))))
theorem pioO_ob_X12_element  {x0 : Option Nat} {x1 : Int32} {x2 : Int32} {x3 : Int32} {σ : oSt} (hP : iKptO P) (hc : cQoO P call)  (h : P σ) : PIo P (ob_X12_element n call κ  x0 x1 x2 x3 σ) := by
  unfold ob_X12_element
  repeat' (with_reducible (first | assumption | (refine PIoO_gd ?_) | (refine PIoO_pf hP ?_ (by decide) (by with_unfolding_all rfl) (fun _ _ => ?_)) | (refine PIoO_si hP ?_ (fun _ _ => ?_)) | (refine PIoO_sj hP ?_ (fun _ _ => ?_)) | (refine PIoO_sr hP ?_ (fun _ _ => ?_)) | (refine PIoO_cy hP ?_ (fun _ _ => ?_)) | (refine PIoO_bn (fun _ => ?_)) | (refine PIoO_na hP ?_ (fun _ _ => ?_)) | (refine PIoO_no hP ?_ (fun _ _ => ?_)) | (refine PIoO_ite ?_ ?_) | (refine PIoO_some ?_) | (exact PIoO_none) | (refine PIoO_in (cQoO.c75 hc _ _ _ _ _ ?_) (fun _ _ _ => ?_)) | (refine PIoO_rn (cQoO.c234 hc _ _ _ ?_) (fun _ _ _ => ?_))))
theorem pioO_ob_X12_run  {x0 : Option Nat} {x1 : Int32} {σ : oSt} (hP : iKptO P) (hc : cQoO P call)  (h : P σ) : PIo P (ob_X12_run n call κ  x0 x1 σ) := by
  unfold ob_X12_run
  repeat' (with_reducible (first | assumption | (refine PIoO_gd ?_) | (refine PIoO_pf hP ?_ (by decide) (by with_unfolding_all rfl) (fun _ _ => ?_)) | (refine PIoO_si hP ?_ (fun _ _ => ?_)) | (refine PIoO_sj hP ?_ (fun _ _ => ?_)) | (refine PIoO_sr hP ?_ (fun _ _ => ?_)) | (refine PIoO_cy hP ?_ (fun _ _ => ?_)) | (refine PIoO_bn (fun _ => ?_)) | (refine PIoO_na hP ?_ (fun _ _ => ?_)) | (refine PIoO_no hP ?_ (fun _ _ => ?_)) | (refine PIoO_ite ?_ ?_) | (refine PIoO_some ?_) | (exact PIoO_none) | (refine PIoO_in (cQoO.c101 hc _ _ _ ?_) (fun _ _ _ => ?_))))
theorem pioO_ob_X12_value  {x0 : Option Nat} {σ : oSt} (hP : iKptO P) (hc : cQoO P call)  (h : P σ) : PIo P (ob_X12_value n call κ  x0 σ) := by
  unfold ob_X12_value
  repeat' (with_reducible (first | assumption | (refine PIoO_gd ?_) | (refine PIoO_pf hP ?_ (by decide) (by with_unfolding_all rfl) (fun _ _ => ?_)) | (refine PIoO_si hP ?_ (fun _ _ => ?_)) | (refine PIoO_sj hP ?_ (fun _ _ => ?_)) | (refine PIoO_sr hP ?_ (fun _ _ => ?_)) | (refine PIoO_cy hP ?_ (fun _ _ => ?_)) | (refine PIoO_bn (fun _ => ?_)) | (refine PIoO_na hP ?_ (fun _ _ => ?_)) | (refine PIoO_no hP ?_ (fun _ _ => ?_)) | (refine PIoO_ite ?_ ?_) | (refine PIoO_some ?_) | (exact PIoO_none)))
theorem pioO_ob_X12_fuel  {x0 : Option Nat} {σ : oSt} (hP : iKptO P) (hc : cQoO P call)  (h : P σ) : PIo P (ob_X12_fuel n call κ  x0 σ) := by
  unfold ob_X12_fuel
  repeat' (with_reducible (first | assumption | (refine PIoO_gd ?_) | (refine PIoO_pf hP ?_ (by decide) (by with_unfolding_all rfl) (fun _ _ => ?_)) | (refine PIoO_si hP ?_ (fun _ _ => ?_)) | (refine PIoO_sj hP ?_ (fun _ _ => ?_)) | (refine PIoO_sr hP ?_ (fun _ _ => ?_)) | (refine PIoO_cy hP ?_ (fun _ _ => ?_)) | (refine PIoO_bn (fun _ => ?_)) | (refine PIoO_na hP ?_ (fun _ _ => ?_)) | (refine PIoO_no hP ?_ (fun _ _ => ?_)) | (refine PIoO_ite ?_ ?_) | (refine PIoO_some ?_) | (exact PIoO_none)))
theorem pioO_ob_J0_init_905df  {x0 : Option Nat} {x1 : Option Nat} {σ : oSt} (hP : iKptO P) (hc : cQoO P call)  (h : P σ) : PIo P (ob_J0_init_905df n call κ  x0 x1 σ) := by
  unfold ob_J0_init_905df
  repeat' (with_reducible (first | assumption | (refine PIoO_gd ?_) | (refine PIoO_pf hP ?_ (by decide) (by with_unfolding_all rfl) (fun _ _ => ?_)) | (refine PIoO_si hP ?_ (fun _ _ => ?_)) | (refine PIoO_sj hP ?_ (fun _ _ => ?_)) | (refine PIoO_sr hP ?_ (fun _ _ => ?_)) | (refine PIoO_cy hP ?_ (fun _ _ => ?_)) | (refine PIoO_bn (fun _ => ?_)) | (refine PIoO_na hP ?_ (fun _ _ => ?_)) | (refine PIoO_no hP ?_ (fun _ _ => ?_)) | (refine PIoO_ite ?_ ?_) | (refine PIoO_some ?_) | (exact PIoO_none) | (refine PIoO_cv (cQoO.c197 hc _ _ _ _ _ _ ?_) (fun _ _ => ?_))))
theorem pioO_ob_J0_init_bb550  {x0 : Option Nat} {x1 : Option Nat} {x2 : Int32} {x3 : Int32} {x4 : Option Nat} {σ : oSt} (hP : iKptO P) (hc : cQoO P call)  (h : P σ) : PIo P (ob_J0_init_bb550 n call κ  x0 x1 x2 x3 x4 σ) := by
  unfold ob_J0_init_bb550
  repeat' (with_reducible (first | assumption | (refine PIoO_gd ?_) | (refine PIoO_pf hP ?_ (by decide) (by with_unfolding_all rfl) (fun _ _ => ?_)) | (refine PIoO_si hP ?_ (fun _ _ => ?_)) | (refine PIoO_sj hP ?_ (fun _ _ => ?_)) | (refine PIoO_sr hP ?_ (fun _ _ => ?_)) | (refine PIoO_cy hP ?_ (fun _ _ => ?_)) | (refine PIoO_bn (fun _ => ?_)) | (refine PIoO_na hP ?_ (fun _ _ => ?_)) | (refine PIoO_no hP ?_ (fun _ _ => ?_)) | (refine PIoO_ite ?_ ?_) | (refine PIoO_some ?_) | (exact PIoO_none) | (refine PIoO_in (cQoO.c200 hc _ _ _ ?_) (fun _ _ _ => ?_)) | (refine PIoO_rn (cQoO.c198 hc _ _ _ _ ?_) (fun _ _ _ => ?_))))
theorem pioO_ob_J2_compress_dfd3c  {x0 : Option Nat} {x1 : Int32} {x2 : Int32} {σ : oSt} (hP : iKptO P) (hc : cQoO P call)  (h : P σ) : PIo P (ob_J2_compress_dfd3c n call κ  x0 x1 x2 σ) := by
  unfold ob_J2_compress_dfd3c
  repeat' (with_reducible (first | assumption | (refine PIoO_gd ?_) | (refine PIoO_pf hP ?_ (by decide) (by with_unfolding_all rfl) (fun _ _ => ?_)) | (refine PIoO_si hP ?_ (fun _ _ => ?_)) | (refine PIoO_sj hP ?_ (fun _ _ => ?_)) | (refine PIoO_sr hP ?_ (fun _ _ => ?_)) | (refine PIoO_cy hP ?_ (fun _ _ => ?_)) | (refine PIoO_bn (fun _ => ?_)) | (refine PIoO_na hP ?_ (fun _ _ => ?_)) | (refine PIoO_no hP ?_ (fun _ _ => ?_)) | (refine PIoO_ite ?_ ?_) | (refine PIoO_some ?_) | (exact PIoO_none) | (refine PIoO_in (cQoO.c199 hc _ _ _ _ _ _ ?_) (fun _ _ _ => ?_))))
theorem pioO_ol_J2_compress_fe38e_3  (hP : iKptO P) (hc : cQoO P call)  : ∀ (t : Nat) (x0 : Option Nat) (x1 : Int32) (x2 : Option Nat) (x3 : Int32) (x4 : Int32) (x5 : Int32) (σ : oSt), P σ → PIo P (ol_J2_compress_fe38e_3 n call κ  t x0 x1 x2 x3 x4 x5 σ) := by
  intro t
  induction t with
  | zero => intros; exact PIoO_none
  | succ t ih =>
    intro x0 x1 x2 x3 x4 x5 σ h
    rw [ol_J2_compress_fe38e_3]
    repeat' (with_reducible (first | assumption | (refine PIoO_gd ?_) | (refine PIoO_pf hP ?_ (by decide) (by with_unfolding_all rfl) (fun _ _ => ?_)) | (refine PIoO_si hP ?_ (fun _ _ => ?_)) | (refine PIoO_sj hP ?_ (fun _ _ => ?_)) | (refine PIoO_sr hP ?_ (fun _ _ => ?_)) | (refine PIoO_cy hP ?_ (fun _ _ => ?_)) | (refine PIoO_bn (fun _ => ?_)) | (refine PIoO_na hP ?_ (fun _ _ => ?_)) | (refine PIoO_no hP ?_ (fun _ _ => ?_)) | (refine PIoO_ite ?_ ?_) | (refine PIoO_some ?_) | (exact PIoO_none) | (refine ih _ _ _ _ _ _ _ ?_)))
theorem pioO_ob_J2_compress_fe38e  {x0 : Option Nat} {x1 : Int32} {x2 : Option Nat} {x3 : Int32} {x4 : Int32} {σ : oSt} (hP : iKptO P) (hc : cQoO P call)  (h : P σ) : PIo P (ob_J2_compress_fe38e n call κ  x0 x1 x2 x3 x4 σ) := by
  unfold ob_J2_compress_fe38e
  repeat' (with_reducible (first | assumption | (refine PIoO_gd ?_) | (refine PIoO_pf hP ?_ (by decide) (by with_unfolding_all rfl) (fun _ _ => ?_)) | (refine PIoO_si hP ?_ (fun _ _ => ?_)) | (refine PIoO_sj hP ?_ (fun _ _ => ?_)) | (refine PIoO_sr hP ?_ (fun _ _ => ?_)) | (refine PIoO_cy hP ?_ (fun _ _ => ?_)) | (refine PIoO_bn (fun _ => ?_)) | (refine PIoO_na hP ?_ (fun _ _ => ?_)) | (refine PIoO_no hP ?_ (fun _ _ => ?_)) | (refine PIoO_ite ?_ ?_) | (refine PIoO_some ?_) | (exact PIoO_none) | (refine pioO_ol_J2_compress_fe38e_3 hP hc  _ _ _ _ _ _ _ _ ?_)))
theorem pioO_ob_J2_coderFromArrayLen_85cad  {x0 : Option Nat} {x1 : Int32} {σ : oSt} (hP : iKptO P) (hc : cQoO P call)  (h : P σ) : PIo P (ob_J2_coderFromArrayLen_85cad n call κ  x0 x1 σ) := by
  unfold ob_J2_coderFromArrayLen_85cad
  repeat' (with_reducible (first | assumption | (refine PIoO_gd ?_) | (refine PIoO_pf hP ?_ (by decide) (by with_unfolding_all rfl) (fun _ _ => ?_)) | (refine PIoO_si hP ?_ (fun _ _ => ?_)) | (refine PIoO_sj hP ?_ (fun _ _ => ?_)) | (refine PIoO_sr hP ?_ (fun _ _ => ?_)) | (refine PIoO_cy hP ?_ (fun _ _ => ?_)) | (refine PIoO_bn (fun _ => ?_)) | (refine PIoO_na hP ?_ (fun _ _ => ?_)) | (refine PIoO_no hP ?_ (fun _ _ => ?_)) | (refine PIoO_ite ?_ ?_) | (refine PIoO_some ?_) | (exact PIoO_none)))
theorem pioO_ob_J0_charAt_5068e  {x0 : Option Nat} {x1 : Int32} {σ : oSt} (hP : iKptO P) (hc : cQoO P call)  (h : P σ) : PIo P (ob_J0_charAt_5068e n call κ  x0 x1 σ) := by
  unfold ob_J0_charAt_5068e
  repeat' (with_reducible (first | assumption | (refine PIoO_gd ?_) | (refine PIoO_pf hP ?_ (by decide) (by with_unfolding_all rfl) (fun _ _ => ?_)) | (refine PIoO_si hP ?_ (fun _ _ => ?_)) | (refine PIoO_sj hP ?_ (fun _ _ => ?_)) | (refine PIoO_sr hP ?_ (fun _ _ => ?_)) | (refine PIoO_cy hP ?_ (fun _ _ => ?_)) | (refine PIoO_bn (fun _ => ?_)) | (refine PIoO_na hP ?_ (fun _ _ => ?_)) | (refine PIoO_no hP ?_ (fun _ _ => ?_)) | (refine PIoO_ite ?_ ?_) | (refine PIoO_some ?_) | (exact PIoO_none) | (refine PIoO_in (cQoO.c202 hc _ _ ?_) (fun _ _ _ => ?_)) | (refine PIoO_in (cQoO.c203 hc _ _ _ ?_) (fun _ _ _ => ?_))))
theorem pioO_ob_J0_isLatin1_aae02  {x0 : Option Nat} {σ : oSt} (hP : iKptO P) (hc : cQoO P call)  (h : P σ) : PIo P (ob_J0_isLatin1_aae02 n call κ  x0 σ) := by
  unfold ob_J0_isLatin1_aae02
  repeat' (with_reducible (first | assumption | (refine PIoO_gd ?_) | (refine PIoO_pf hP ?_ (by decide) (by with_unfolding_all rfl) (fun _ _ => ?_)) | (refine PIoO_si hP ?_ (fun _ _ => ?_)) | (refine PIoO_sj hP ?_ (fun _ _ => ?_)) | (refine PIoO_sr hP ?_ (fun _ _ => ?_)) | (refine PIoO_cy hP ?_ (fun _ _ => ?_)) | (refine PIoO_bn (fun _ => ?_)) | (refine PIoO_na hP ?_ (fun _ _ => ?_)) | (refine PIoO_no hP ?_ (fun _ _ => ?_)) | (refine PIoO_ite ?_ ?_) | (refine PIoO_some ?_) | (exact PIoO_none)))
theorem pioO_ob_J1_charAt_3b067  {x0 : Option Nat} {x1 : Int32} {σ : oSt} (hP : iKptO P) (hc : cQoO P call)  (h : P σ) : PIo P (ob_J1_charAt_3b067 n call κ  x0 x1 σ) := by
  unfold ob_J1_charAt_3b067
  repeat' (with_reducible (first | assumption | (refine PIoO_gd ?_) | (refine PIoO_pf hP ?_ (by decide) (by with_unfolding_all rfl) (fun _ _ => ?_)) | (refine PIoO_si hP ?_ (fun _ _ => ?_)) | (refine PIoO_sj hP ?_ (fun _ _ => ?_)) | (refine PIoO_sr hP ?_ (fun _ _ => ?_)) | (refine PIoO_cy hP ?_ (fun _ _ => ?_)) | (refine PIoO_bn (fun _ => ?_)) | (refine PIoO_na hP ?_ (fun _ _ => ?_)) | (refine PIoO_no hP ?_ (fun _ _ => ?_)) | (refine PIoO_ite ?_ ?_) | (refine PIoO_some ?_) | (exact PIoO_none) | (refine PIoO_cv (cQoO.c204 hc _ _ _ ?_) (fun _ _ => ?_))))
theorem pioO_ob_J0_checkIndex_df160  {x0 : Int32} {x1 : Int32} {σ : oSt} (hP : iKptO P) (hc : cQoO P call)  (h : P σ) : PIo P (ob_J0_checkIndex_df160 n call κ  x0 x1 σ) := by
  unfold ob_J0_checkIndex_df160
  repeat' (with_reducible (first | assumption | (refine PIoO_gd ?_) | (refine PIoO_pf hP ?_ (by decide) (by with_unfolding_all rfl) (fun _ _ => ?_)) | (refine PIoO_si hP ?_ (fun _ _ => ?_)) | (refine PIoO_sj hP ?_ (fun _ _ => ?_)) | (refine PIoO_sr hP ?_ (fun _ _ => ?_)) | (refine PIoO_cy hP ?_ (fun _ _ => ?_)) | (refine PIoO_bn (fun _ => ?_)) | (refine PIoO_na hP ?_ (fun _ _ => ?_)) | (refine PIoO_no hP ?_ (fun _ _ => ?_)) | (refine PIoO_ite ?_ ?_) | (refine PIoO_some ?_) | (exact PIoO_none) | (refine PIoO_in (cQoO.c206 hc _ _ _ _ ?_) (fun _ _ _ => ?_))))
theorem pioO_ob_J15_checkIndex_7cf53  {x0 : Int32} {x1 : Int32} {σ : oSt} (hP : iKptO P) (hc : cQoO P call)  (h : P σ) : PIo P (ob_J15_checkIndex_7cf53 n call κ  x0 x1 σ) := by
  unfold ob_J15_checkIndex_7cf53
  repeat' (with_reducible (first | assumption | (refine PIoO_gd ?_) | (refine PIoO_pf hP ?_ (by decide) (by with_unfolding_all rfl) (fun _ _ => ?_)) | (refine PIoO_si hP ?_ (fun _ _ => ?_)) | (refine PIoO_sj hP ?_ (fun _ _ => ?_)) | (refine PIoO_sr hP ?_ (fun _ _ => ?_)) | (refine PIoO_cy hP ?_ (fun _ _ => ?_)) | (refine PIoO_bn (fun _ => ?_)) | (refine PIoO_na hP ?_ (fun _ _ => ?_)) | (refine PIoO_no hP ?_ (fun _ _ => ?_)) | (refine PIoO_ite ?_ ?_) | (refine PIoO_some ?_) | (exact PIoO_none) | (refine PIoO_in (cQoO.c206 hc _ _ _ _ ?_) (fun _ _ _ => ?_))))
theorem pioO_oj_J3_checkIndex_8e157_9  {x0 : Int32} {x1 : Int32} {x2 : Option Nat} {σ : oSt} (hP : iKptO P) (hc : cQoO P call)  (h : P σ) : PIo P (oj_J3_checkIndex_8e157_9 n call κ  x0 x1 x2 σ) := by
  unfold oj_J3_checkIndex_8e157_9
  repeat' (with_reducible (first | assumption | (refine PIoO_gd ?_) | (refine PIoO_pf hP ?_ (by decide) (by with_unfolding_all rfl) (fun _ _ => ?_)) | (refine PIoO_si hP ?_ (fun _ _ => ?_)) | (refine PIoO_sj hP ?_ (fun _ _ => ?_)) | (refine PIoO_sr hP ?_ (fun _ _ => ?_)) | (refine PIoO_cy hP ?_ (fun _ _ => ?_)) | (refine PIoO_bn (fun _ => ?_)) | (refine PIoO_na hP ?_ (fun _ _ => ?_)) | (refine PIoO_no hP ?_ (fun _ _ => ?_)) | (refine PIoO_ite ?_ ?_) | (refine PIoO_some ?_) | (exact PIoO_none)))
theorem pioO_ob_J3_checkIndex_8e157  {x0 : Int32} {x1 : Int32} {x2 : Option Nat} {σ : oSt} (hP : iKptO P) (hc : cQoO P call)  (h : P σ) : PIo P (ob_J3_checkIndex_8e157 n call κ  x0 x1 x2 σ) := by
  unfold ob_J3_checkIndex_8e157
  repeat' (with_reducible (first | assumption | (refine PIoO_gd ?_) | (refine PIoO_pf hP ?_ (by decide) (by with_unfolding_all rfl) (fun _ _ => ?_)) | (refine PIoO_si hP ?_ (fun _ _ => ?_)) | (refine PIoO_sj hP ?_ (fun _ _ => ?_)) | (refine PIoO_sr hP ?_ (fun _ _ => ?_)) | (refine PIoO_cy hP ?_ (fun _ _ => ?_)) | (refine PIoO_bn (fun _ => ?_)) | (refine PIoO_na hP ?_ (fun _ _ => ?_)) | (refine PIoO_no hP ?_ (fun _ _ => ?_)) | (refine PIoO_ite ?_ ?_) | (refine PIoO_some ?_) | (exact PIoO_none) | (refine pioO_oj_J3_checkIndex_8e157_9 hP hc  ?_)))
theorem pioO_ob_J0_length_8abf5  {x0 : Option Nat} {σ : oSt} (hP : iKptO P) (hc : cQoO P call)  (h : P σ) : PIo P (ob_J0_length_8abf5 n call κ  x0 σ) := by
  unfold ob_J0_length_8abf5
  repeat' (with_reducible (first | assumption | (refine PIoO_gd ?_) | (refine PIoO_pf hP ?_ (by decide) (by with_unfolding_all rfl) (fun _ _ => ?_)) | (refine PIoO_si hP ?_ (fun _ _ => ?_)) | (refine PIoO_sj hP ?_ (fun _ _ => ?_)) | (refine PIoO_sr hP ?_ (fun _ _ => ?_)) | (refine PIoO_cy hP ?_ (fun _ _ => ?_)) | (refine PIoO_bn (fun _ => ?_)) | (refine PIoO_na hP ?_ (fun _ _ => ?_)) | (refine PIoO_no hP ?_ (fun _ _ => ?_)) | (refine PIoO_ite ?_ ?_) | (refine PIoO_some ?_) | (exact PIoO_none) | (refine PIoO_in (cQoO.c208 hc _ _ ?_) (fun _ _ _ => ?_))))
theorem pioO_ob_J0_coder_7d493  {x0 : Option Nat} {σ : oSt} (hP : iKptO P) (hc : cQoO P call)  (h : P σ) : PIo P (ob_J0_coder_7d493 n call κ  x0 σ) := by
  unfold ob_J0_coder_7d493
  repeat' (with_reducible (first | assumption | (refine PIoO_gd ?_) | (refine PIoO_pf hP ?_ (by decide) (by with_unfolding_all rfl) (fun _ _ => ?_)) | (refine PIoO_si hP ?_ (fun _ _ => ?_)) | (refine PIoO_sj hP ?_ (fun _ _ => ?_)) | (refine PIoO_sr hP ?_ (fun _ _ => ?_)) | (refine PIoO_cy hP ?_ (fun _ _ => ?_)) | (refine PIoO_bn (fun _ => ?_)) | (refine PIoO_na hP ?_ (fun _ _ => ?_)) | (refine PIoO_no hP ?_ (fun _ _ => ?_)) | (refine PIoO_ite ?_ ?_) | (refine PIoO_some ?_) | (exact PIoO_none)))
theorem pioO_oj_J0_substring_37a41_22  {x0 : Option Nat} {x1 : Int32} {x2 : Int32} {σ : oSt} (hP : iKptO P) (hc : cQoO P call)  (h : P σ) : PIo P (oj_J0_substring_37a41_22 n call κ  x0 x1 x2 σ) := by
  unfold oj_J0_substring_37a41_22
  repeat' (with_reducible (first | assumption | (refine PIoO_gd ?_) | (refine PIoO_pf hP ?_ (by decide) (by with_unfolding_all rfl) (fun _ _ => ?_)) | (refine PIoO_si hP ?_ (fun _ _ => ?_)) | (refine PIoO_sj hP ?_ (fun _ _ => ?_)) | (refine PIoO_sr hP ?_ (fun _ _ => ?_)) | (refine PIoO_cy hP ?_ (fun _ _ => ?_)) | (refine PIoO_bn (fun _ => ?_)) | (refine PIoO_na hP ?_ (fun _ _ => ?_)) | (refine PIoO_no hP ?_ (fun _ _ => ?_)) | (refine PIoO_ite ?_ ?_) | (refine PIoO_some ?_) | (exact PIoO_none) | (refine PIoO_in (cQoO.c202 hc _ _ ?_) (fun _ _ _ => ?_)) | (refine PIoO_rn (cQoO.c212 hc _ _ _ _ ?_) (fun _ _ _ => ?_))))
theorem pioO_ob_J0_substring_37a41  {x0 : Option Nat} {x1 : Int32} {x2 : Int32} {σ : oSt} (hP : iKptO P) (hc : cQoO P call)  (h : P σ) : PIo P (ob_J0_substring_37a41 n call κ  x0 x1 x2 σ) := by
  unfold ob_J0_substring_37a41
  repeat' (with_reducible (first | assumption | (refine PIoO_gd ?_) | (refine PIoO_pf hP ?_ (by decide) (by with_unfolding_all rfl) (fun _ _ => ?_)) | (refine PIoO_si hP ?_ (fun _ _ => ?_)) | (refine PIoO_sj hP ?_ (fun _ _ => ?_)) | (refine PIoO_sr hP ?_ (fun _ _ => ?_)) | (refine PIoO_cy hP ?_ (fun _ _ => ?_)) | (refine PIoO_bn (fun _ => ?_)) | (refine PIoO_na hP ?_ (fun _ _ => ?_)) | (refine PIoO_no hP ?_ (fun _ _ => ?_)) | (refine PIoO_ite ?_ ?_) | (refine PIoO_some ?_) | (exact PIoO_none) | (refine PIoO_cv (cQoO.c210 hc _ _ _ _ ?_) (fun _ _ => ?_)) | (refine PIoO_in (cQoO.c207 hc _ _ ?_) (fun _ _ _ => ?_)) | (refine pioO_oj_J0_substring_37a41_22 hP hc  ?_)))
theorem pioO_ob_J0_checkBoundsBeginEnd_23922  {x0 : Int32} {x1 : Int32} {x2 : Int32} {σ : oSt} (hP : iKptO P) (hc : cQoO P call)  (h : P σ) : PIo P (ob_J0_checkBoundsBeginEnd_23922 n call κ  x0 x1 x2 σ) := by
  unfold ob_J0_checkBoundsBeginEnd_23922
  repeat' (with_reducible (first | assumption | (refine PIoO_gd ?_) | (refine PIoO_pf hP ?_ (by decide) (by with_unfolding_all rfl) (fun _ _ => ?_)) | (refine PIoO_si hP ?_ (fun _ _ => ?_)) | (refine PIoO_sj hP ?_ (fun _ _ => ?_)) | (refine PIoO_sr hP ?_ (fun _ _ => ?_)) | (refine PIoO_cy hP ?_ (fun _ _ => ?_)) | (refine PIoO_bn (fun _ => ?_)) | (refine PIoO_na hP ?_ (fun _ _ => ?_)) | (refine PIoO_no hP ?_ (fun _ _ => ?_)) | (refine PIoO_ite ?_ ?_) | (refine PIoO_some ?_) | (exact PIoO_none) | (refine PIoO_in (cQoO.c211 hc _ _ _ _ _ ?_) (fun _ _ _ => ?_))))
theorem pioO_oj_J3_checkFromToIndex_8c36e_14  {x0 : Int32} {x1 : Int32} {x2 : Int32} {x3 : Option Nat} {σ : oSt} (hP : iKptO P) (hc : cQoO P call)  (h : P σ) : PIo P (oj_J3_checkFromToIndex_8c36e_14 n call κ  x0 x1 x2 x3 σ) := by
  unfold oj_J3_checkFromToIndex_8c36e_14
  repeat' (with_reducible (first | assumption | (refine PIoO_gd ?_) | (refine PIoO_pf hP ?_ (by decide) (by with_unfolding_all rfl) (fun _ _ => ?_)) | (refine PIoO_si hP ?_ (fun _ _ => ?_)) | (refine PIoO_sj hP ?_ (fun _ _ => ?_)) | (refine PIoO_sr hP ?_ (fun _ _ => ?_)) | (refine PIoO_cy hP ?_ (fun _ _ => ?_)) | (refine PIoO_bn (fun _ => ?_)) | (refine PIoO_na hP ?_ (fun _ _ => ?_)) | (refine PIoO_no hP ?_ (fun _ _ => ?_)) | (refine PIoO_ite ?_ ?_) | (refine PIoO_some ?_) | (exact PIoO_none)))
theorem pioO_ob_J3_checkFromToIndex_8c36e  {x0 : Int32} {x1 : Int32} {x2 : Int32} {x3 : Option Nat} {σ : oSt} (hP : iKptO P) (hc : cQoO P call)  (h : P σ) : PIo P (ob_J3_checkFromToIndex_8c36e n call κ  x0 x1 x2 x3 σ) := by
  unfold ob_J3_checkFromToIndex_8c36e
  repeat' (with_reducible (first | assumption | (refine PIoO_gd ?_) | (refine PIoO_pf hP ?_ (by decide) (by with_unfolding_all rfl) (fun _ _ => ?_)) | (refine PIoO_si hP ?_ (fun _ _ => ?_)) | (refine PIoO_sj hP ?_ (fun _ _ => ?_)) | (refine PIoO_sr hP ?_ (fun _ _ => ?_)) | (refine PIoO_cy hP ?_ (fun _ _ => ?_)) | (refine PIoO_bn (fun _ => ?_)) | (refine PIoO_na hP ?_ (fun _ _ => ?_)) | (refine PIoO_no hP ?_ (fun _ _ => ?_)) | (refine PIoO_ite ?_ ?_) | (refine PIoO_some ?_) | (exact PIoO_none) | (refine pioO_oj_J3_checkFromToIndex_8c36e_14 hP hc  ?_)))
theorem pioO_ob_J1_newString_b4f7a  {x0 : Option Nat} {x1 : Int32} {x2 : Int32} {σ : oSt} (hP : iKptO P) (hc : cQoO P call)  (h : P σ) : PIo P (ob_J1_newString_b4f7a n call κ  x0 x1 x2 σ) := by
  unfold ob_J1_newString_b4f7a
  repeat' (with_reducible (first | assumption | (refine PIoO_gd ?_) | (refine PIoO_pf hP ?_ (by decide) (by with_unfolding_all rfl) (fun _ _ => ?_)) | (refine PIoO_si hP ?_ (fun _ _ => ?_)) | (refine PIoO_sj hP ?_ (fun _ _ => ?_)) | (refine PIoO_sr hP ?_ (fun _ _ => ?_)) | (refine PIoO_cy hP ?_ (fun _ _ => ?_)) | (refine PIoO_bn (fun _ => ?_)) | (refine PIoO_na hP ?_ (fun _ _ => ?_)) | (refine PIoO_no hP ?_ (fun _ _ => ?_)) | (refine PIoO_ite ?_ ?_) | (refine PIoO_some ?_) | (exact PIoO_none) | (refine PIoO_cv (cQoO.c216 hc _ _ _ _ ?_) (fun _ _ => ?_)) | (refine PIoO_rn (cQoO.c213 hc _ _ _ _ ?_) (fun _ _ _ => ?_))))
theorem pioO_oj_J7_copyOfRange_39247_10  {x0 : Option Nat} {x1 : Int32} {x2 : Int32} {σ : oSt} (hP : iKptO P) (hc : cQoO P call)  (h : P σ) : PIo P (oj_J7_copyOfRange_39247_10 n call κ  x0 x1 x2 σ) := by
  unfold oj_J7_copyOfRange_39247_10
  repeat' (with_reducible (first | assumption | (refine PIoO_gd ?_) | (refine PIoO_pf hP ?_ (by decide) (by with_unfolding_all rfl) (fun _ _ => ?_)) | (refine PIoO_si hP ?_ (fun _ _ => ?_)) | (refine PIoO_sj hP ?_ (fun _ _ => ?_)) | (refine PIoO_sr hP ?_ (fun _ _ => ?_)) | (refine PIoO_cy hP ?_ (fun _ _ => ?_)) | (refine PIoO_bn (fun _ => ?_)) | (refine PIoO_na hP ?_ (fun _ _ => ?_)) | (refine PIoO_no hP ?_ (fun _ _ => ?_)) | (refine PIoO_ite ?_ ?_) | (refine PIoO_some ?_) | (exact PIoO_none) | (refine PIoO_rn (cQoO.c214 hc _ _ _ _ ?_) (fun _ _ _ => ?_))))
theorem pioO_ob_J7_copyOfRange_39247  {x0 : Option Nat} {x1 : Int32} {x2 : Int32} {σ : oSt} (hP : iKptO P) (hc : cQoO P call)  (h : P σ) : PIo P (ob_J7_copyOfRange_39247 n call κ  x0 x1 x2 σ) := by
  unfold ob_J7_copyOfRange_39247
  repeat' (with_reducible (first | assumption | (refine PIoO_gd ?_) | (refine PIoO_pf hP ?_ (by decide) (by with_unfolding_all rfl) (fun _ _ => ?_)) | (refine PIoO_si hP ?_ (fun _ _ => ?_)) | (refine PIoO_sj hP ?_ (fun _ _ => ?_)) | (refine PIoO_sr hP ?_ (fun _ _ => ?_)) | (refine PIoO_cy hP ?_ (fun _ _ => ?_)) | (refine PIoO_bn (fun _ => ?_)) | (refine PIoO_na hP ?_ (fun _ _ => ?_)) | (refine PIoO_no hP ?_ (fun _ _ => ?_)) | (refine PIoO_ite ?_ ?_) | (refine PIoO_some ?_) | (exact PIoO_none) | (refine pioO_oj_J7_copyOfRange_39247_10 hP hc  ?_)))
theorem pioO_ob_J7_copyOfRangeByte_39247  {x0 : Option Nat} {x1 : Int32} {x2 : Int32} {σ : oSt} (hP : iKptO P) (hc : cQoO P call)  (h : P σ) : PIo P (ob_J7_copyOfRangeByte_39247 n call κ  x0 x1 x2 σ) := by
  unfold ob_J7_copyOfRangeByte_39247
  repeat' (with_reducible (first | assumption | (refine PIoO_gd ?_) | (refine PIoO_pf hP ?_ (by decide) (by with_unfolding_all rfl) (fun _ _ => ?_)) | (refine PIoO_si hP ?_ (fun _ _ => ?_)) | (refine PIoO_sj hP ?_ (fun _ _ => ?_)) | (refine PIoO_sr hP ?_ (fun _ _ => ?_)) | (refine PIoO_cy hP ?_ (fun _ _ => ?_)) | (refine PIoO_bn (fun _ => ?_)) | (refine PIoO_na hP ?_ (fun _ _ => ?_)) | (refine PIoO_no hP ?_ (fun _ _ => ?_)) | (refine PIoO_ite ?_ ?_) | (refine PIoO_some ?_) | (exact PIoO_none) | (refine PIoO_cv (cQoO.c215 hc _ _ _ ?_) (fun _ _ => ?_))))
theorem pioO_ob_J7_checkLength_df160  {x0 : Int32} {x1 : Int32} {σ : oSt} (hP : iKptO P) (hc : cQoO P call)  (h : P σ) : PIo P (ob_J7_checkLength_df160 n call κ  x0 x1 σ) := by
  unfold ob_J7_checkLength_df160
  repeat' (with_reducible (first | assumption | (refine PIoO_gd ?_) | (refine PIoO_pf hP ?_ (by decide) (by with_unfolding_all rfl) (fun _ _ => ?_)) | (refine PIoO_si hP ?_ (fun _ _ => ?_)) | (refine PIoO_sj hP ?_ (fun _ _ => ?_)) | (refine PIoO_sr hP ?_ (fun _ _ => ?_)) | (refine PIoO_cy hP ?_ (fun _ _ => ?_)) | (refine PIoO_bn (fun _ => ?_)) | (refine PIoO_na hP ?_ (fun _ _ => ?_)) | (refine PIoO_no hP ?_ (fun _ _ => ?_)) | (refine PIoO_ite ?_ ?_) | (refine PIoO_some ?_) | (exact PIoO_none)))
theorem pioO_ob_J0_init_031fb  {x0 : Option Nat} {x1 : Option Nat} {x2 : Int32} {σ : oSt} (hP : iKptO P) (hc : cQoO P call)  (h : P σ) : PIo P (ob_J0_init_031fb n call κ  x0 x1 x2 σ) := by
  unfold ob_J0_init_031fb
  repeat' (with_reducible (first | assumption | (refine PIoO_gd ?_) | (refine PIoO_pf hP ?_ (by decide) (by with_unfolding_all rfl) (fun _ _ => ?_)) | (refine PIoO_si hP ?_ (fun _ _ => ?_)) | (refine PIoO_sj hP ?_ (fun _ _ => ?_)) | (refine PIoO_sr hP ?_ (fun _ _ => ?_)) | (refine PIoO_cy hP ?_ (fun _ _ => ?_)) | (refine PIoO_bn (fun _ => ?_)) | (refine PIoO_na hP ?_ (fun _ _ => ?_)) | (refine PIoO_no hP ?_ (fun _ _ => ?_)) | (refine PIoO_ite ?_ ?_) | (refine PIoO_some ?_) | (exact PIoO_none)))
theorem pioO_oj_J0_equals_9ea2d_36  {x0 : Option Nat} {x2 : Option Nat} {σ : oSt} (hP : iKptO P) (hc : cQoO P call)  (h : P σ) : PIo P (oj_J0_equals_9ea2d_36 n call κ  x0 x2 σ) := by
  unfold oj_J0_equals_9ea2d_36
  repeat' (with_reducible (first | assumption | (refine PIoO_gd ?_) | (refine PIoO_pf hP ?_ (by decide) (by with_unfolding_all rfl) (fun _ _ => ?_)) | (refine PIoO_si hP ?_ (fun _ _ => ?_)) | (refine PIoO_sj hP ?_ (fun _ _ => ?_)) | (refine PIoO_sr hP ?_ (fun _ _ => ?_)) | (refine PIoO_cy hP ?_ (fun _ _ => ?_)) | (refine PIoO_bn (fun _ => ?_)) | (refine PIoO_na hP ?_ (fun _ _ => ?_)) | (refine PIoO_no hP ?_ (fun _ _ => ?_)) | (refine PIoO_ite ?_ ?_) | (refine PIoO_some ?_) | (exact PIoO_none) | (refine PIoO_in (cQoO.c218 hc _ _ _ ?_) (fun _ _ _ => ?_))))
theorem pioO_ob_J0_equals_9ea2d  {x0 : Option Nat} {x1 : Option Nat} {σ : oSt} (hP : iKptO P) (hc : cQoO P call)  (h : P σ) : PIo P (ob_J0_equals_9ea2d n call κ  x0 x1 σ) := by
  unfold ob_J0_equals_9ea2d
  repeat' (with_reducible (first | assumption | (refine PIoO_gd ?_) | (refine PIoO_pf hP ?_ (by decide) (by with_unfolding_all rfl) (fun _ _ => ?_)) | (refine PIoO_si hP ?_ (fun _ _ => ?_)) | (refine PIoO_sj hP ?_ (fun _ _ => ?_)) | (refine PIoO_sr hP ?_ (fun _ _ => ?_)) | (refine PIoO_cy hP ?_ (fun _ _ => ?_)) | (refine PIoO_bn (fun _ => ?_)) | (refine PIoO_na hP ?_ (fun _ _ => ?_)) | (refine PIoO_no hP ?_ (fun _ _ => ?_)) | (refine PIoO_ite ?_ ?_) | (refine PIoO_some ?_) | (exact PIoO_none) | (refine pioO_oj_J0_equals_9ea2d_36 hP hc  ?_)))
theorem pioO_ol_J1_equals_b5fdf_9  (hP : iKptO P) (hc : cQoO P call)  : ∀ (t : Nat) (x0 : Option Nat) (x1 : Option Nat) (x2 : Int32) (σ : oSt), P σ → PIo P (ol_J1_equals_b5fdf_9 n call κ  t x0 x1 x2 σ) := by
  intro t
  induction t with
  | zero => intros; exact PIoO_none
  | succ t ih =>
    intro x0 x1 x2 σ h
    rw [ol_J1_equals_b5fdf_9]
    repeat' (with_reducible (first | assumption | (refine PIoO_gd ?_) | (refine PIoO_pf hP ?_ (by decide) (by with_unfolding_all rfl) (fun _ _ => ?_)) | (refine PIoO_si hP ?_ (fun _ _ => ?_)) | (refine PIoO_sj hP ?_ (fun _ _ => ?_)) | (refine PIoO_sr hP ?_ (fun _ _ => ?_)) | (refine PIoO_cy hP ?_ (fun _ _ => ?_)) | (refine PIoO_bn (fun _ => ?_)) | (refine PIoO_na hP ?_ (fun _ _ => ?_)) | (refine PIoO_no hP ?_ (fun _ _ => ?_)) | (refine PIoO_ite ?_ ?_) | (refine PIoO_some ?_) | (exact PIoO_none) | (refine ih _ _ _ _ ?_)))
theorem pioO_ob_J1_equals_b5fdf  {x0 : Option Nat} {x1 : Option Nat} {σ : oSt} (hP : iKptO P) (hc : cQoO P call)  (h : P σ) : PIo P (ob_J1_equals_b5fdf n call κ  x0 x1 σ) := by
  unfold ob_J1_equals_b5fdf
  repeat' (with_reducible (first | assumption | (refine PIoO_gd ?_) | (refine PIoO_pf hP ?_ (by decide) (by with_unfolding_all rfl) (fun _ _ => ?_)) | (refine PIoO_si hP ?_ (fun _ _ => ?_)) | (refine PIoO_sj hP ?_ (fun _ _ => ?_)) | (refine PIoO_sr hP ?_ (fun _ _ => ?_)) | (refine PIoO_cy hP ?_ (fun _ _ => ?_)) | (refine PIoO_bn (fun _ => ?_)) | (refine PIoO_na hP ?_ (fun _ _ => ?_)) | (refine PIoO_no hP ?_ (fun _ _ => ?_)) | (refine PIoO_ite ?_ ?_) | (refine PIoO_some ?_) | (exact PIoO_none) | (refine pioO_ol_J1_equals_b5fdf_9 hP hc  _ _ _ _ _ ?_)))
theorem pioO_ob_J0_indexOf_0f7a4  {x0 : Option Nat} {x1 : Int32} {σ : oSt} (hP : iKptO P) (hc : cQoO P call)  (h : P σ) : PIo P (ob_J0_indexOf_0f7a4 n call κ  x0 x1 σ) := by
  unfold ob_J0_indexOf_0f7a4
  repeat' (with_reducible (first | assumption | (refine PIoO_gd ?_) | (refine PIoO_pf hP ?_ (by decide) (by with_unfolding_all rfl) (fun _ _ => ?_)) | (refine PIoO_si hP ?_ (fun _ _ => ?_)) | (refine PIoO_sj hP ?_ (fun _ _ => ?_)) | (refine PIoO_sr hP ?_ (fun _ _ => ?_)) | (refine PIoO_cy hP ?_ (fun _ _ => ?_)) | (refine PIoO_bn (fun _ => ?_)) | (refine PIoO_na hP ?_ (fun _ _ => ?_)) | (refine PIoO_no hP ?_ (fun _ _ => ?_)) | (refine PIoO_ite ?_ ?_) | (refine PIoO_some ?_) | (exact PIoO_none) | (refine PIoO_in (cQoO.c220 hc _ _ _ _ ?_) (fun _ _ _ => ?_))))
theorem pioO_ob_J0_indexOf_7cf53  {x0 : Option Nat} {x1 : Int32} {x2 : Int32} {σ : oSt} (hP : iKptO P) (hc : cQoO P call)  (h : P σ) : PIo P (ob_J0_indexOf_7cf53 n call κ  x0 x1 x2 σ) := by
  unfold ob_J0_indexOf_7cf53
  repeat' (with_reducible (first | assumption | (refine PIoO_gd ?_) | (refine PIoO_pf hP ?_ (by decide) (by with_unfolding_all rfl) (fun _ _ => ?_)) | (refine PIoO_si hP ?_ (fun _ _ => ?_)) | (refine PIoO_sj hP ?_ (fun _ _ => ?_)) | (refine PIoO_sr hP ?_ (fun _ _ => ?_)) | (refine PIoO_cy hP ?_ (fun _ _ => ?_)) | (refine PIoO_bn (fun _ => ?_)) | (refine PIoO_na hP ?_ (fun _ _ => ?_)) | (refine PIoO_no hP ?_ (fun _ _ => ?_)) | (refine PIoO_ite ?_ ?_) | (refine PIoO_some ?_) | (exact PIoO_none) | (refine PIoO_in (cQoO.c202 hc _ _ ?_) (fun _ _ _ => ?_)) | (refine PIoO_in (cQoO.c207 hc _ _ ?_) (fun _ _ _ => ?_)) | (refine PIoO_in (cQoO.c221 hc _ _ _ _ _ ?_) (fun _ _ _ => ?_))))
theorem pioO_ob_J1_indexOf_4cfef  {x0 : Option Nat} {x1 : Int32} {x2 : Int32} {x3 : Int32} {σ : oSt} (hP : iKptO P) (hc : cQoO P call)  (h : P σ) : PIo P (ob_J1_indexOf_4cfef n call κ  x0 x1 x2 x3 σ) := by
  unfold ob_J1_indexOf_4cfef
  repeat' (with_reducible (first | assumption | (refine PIoO_gd ?_) | (refine PIoO_pf hP ?_ (by decide) (by with_unfolding_all rfl) (fun _ _ => ?_)) | (refine PIoO_si hP ?_ (fun _ _ => ?_)) | (refine PIoO_sj hP ?_ (fun _ _ => ?_)) | (refine PIoO_sr hP ?_ (fun _ _ => ?_)) | (refine PIoO_cy hP ?_ (fun _ _ => ?_)) | (refine PIoO_bn (fun _ => ?_)) | (refine PIoO_na hP ?_ (fun _ _ => ?_)) | (refine PIoO_no hP ?_ (fun _ _ => ?_)) | (refine PIoO_ite ?_ ?_) | (refine PIoO_some ?_) | (exact PIoO_none) | (refine PIoO_in (cQoO.c222 hc _ _ ?_) (fun _ _ _ => ?_)) | (refine PIoO_in (cQoO.c223 hc _ _ _ _ _ ?_) (fun _ _ _ => ?_))))
theorem pioO_ob_J1_canEncode_9a6ad  {x0 : Int32} {σ : oSt} (hP : iKptO P) (hc : cQoO P call)  (h : P σ) : PIo P (ob_J1_canEncode_9a6ad n call κ  x0 σ) := by
  unfold ob_J1_canEncode_9a6ad
  repeat' (with_reducible (first | assumption | (refine PIoO_gd ?_) | (refine PIoO_pf hP ?_ (by decide) (by with_unfolding_all rfl) (fun _ _ => ?_)) | (refine PIoO_si hP ?_ (fun _ _ => ?_)) | (refine PIoO_sj hP ?_ (fun _ _ => ?_)) | (refine PIoO_sr hP ?_ (fun _ _ => ?_)) | (refine PIoO_cy hP ?_ (fun _ _ => ?_)) | (refine PIoO_bn (fun _ => ?_)) | (refine PIoO_na hP ?_ (fun _ _ => ?_)) | (refine PIoO_no hP ?_ (fun _ _ => ?_)) | (refine PIoO_ite ?_ ?_) | (refine PIoO_some ?_) | (exact PIoO_none)))
theorem pioO_ol_J1_indexOfChar_4cfef_7  (hP : iKptO P) (hc : cQoO P call)  : ∀ (t : Nat) (x0 : Option Nat) (x1 : Int32) (x2 : Int32) (x3 : Int32) (σ : oSt), P σ → PIo P (ol_J1_indexOfChar_4cfef_7 n call κ  t x0 x1 x2 x3 σ) := by
  intro t
  induction t with
  | zero => intros; exact PIoO_none
  | succ t ih =>
    intro x0 x1 x2 x3 σ h
    rw [ol_J1_indexOfChar_4cfef_7]
    repeat' (with_reducible (first | assumption | (refine PIoO_gd ?_) | (refine PIoO_pf hP ?_ (by decide) (by with_unfolding_all rfl) (fun _ _ => ?_)) | (refine PIoO_si hP ?_ (fun _ _ => ?_)) | (refine PIoO_sj hP ?_ (fun _ _ => ?_)) | (refine PIoO_sr hP ?_ (fun _ _ => ?_)) | (refine PIoO_cy hP ?_ (fun _ _ => ?_)) | (refine PIoO_bn (fun _ => ?_)) | (refine PIoO_na hP ?_ (fun _ _ => ?_)) | (refine PIoO_no hP ?_ (fun _ _ => ?_)) | (refine PIoO_ite ?_ ?_) | (refine PIoO_some ?_) | (exact PIoO_none) | (refine ih _ _ _ _ _ ?_)))
theorem pioO_ob_J1_indexOfChar_4cfef  {x0 : Option Nat} {x1 : Int32} {x2 : Int32} {x3 : Int32} {σ : oSt} (hP : iKptO P) (hc : cQoO P call)  (h : P σ) : PIo P (ob_J1_indexOfChar_4cfef n call κ  x0 x1 x2 x3 σ) := by
  unfold ob_J1_indexOfChar_4cfef
  repeat' (with_reducible (first | assumption | (refine PIoO_gd ?_) | (refine PIoO_pf hP ?_ (by decide) (by with_unfolding_all rfl) (fun _ _ => ?_)) | (refine PIoO_si hP ?_ (fun _ _ => ?_)) | (refine PIoO_sj hP ?_ (fun _ _ => ?_)) | (refine PIoO_sr hP ?_ (fun _ _ => ?_)) | (refine PIoO_cy hP ?_ (fun _ _ => ?_)) | (refine PIoO_bn (fun _ => ?_)) | (refine PIoO_na hP ?_ (fun _ _ => ?_)) | (refine PIoO_no hP ?_ (fun _ _ => ?_)) | (refine PIoO_ite ?_ ?_) | (refine PIoO_some ?_) | (exact PIoO_none) | (refine pioO_ol_J1_indexOfChar_4cfef_7 hP hc  _ _ _ _ _ _ ?_)))
theorem pioO_ob_Jx4a65c_init_da8c8  {x0 : Option Nat} {σ : oSt} (hP : iKptO P) (hc : cQoO P call)  (h : P σ) : PIo P (ob_Jx4a65c_init_da8c8 n call κ  x0 σ) := by
  unfold ob_Jx4a65c_init_da8c8
  repeat' (with_reducible (first | assumption | (refine PIoO_gd ?_) | (refine PIoO_pf hP ?_ (by decide) (by with_unfolding_all rfl) (fun _ _ => ?_)) | (refine PIoO_si hP ?_ (fun _ _ => ?_)) | (refine PIoO_sj hP ?_ (fun _ _ => ?_)) | (refine PIoO_sr hP ?_ (fun _ _ => ?_)) | (refine PIoO_cy hP ?_ (fun _ _ => ?_)) | (refine PIoO_bn (fun _ => ?_)) | (refine PIoO_na hP ?_ (fun _ _ => ?_)) | (refine PIoO_no hP ?_ (fun _ _ => ?_)) | (refine PIoO_ite ?_ ?_) | (refine PIoO_some ?_) | (exact PIoO_none) | (refine PIoO_cv (cQoO.c225 hc _ _ ?_) (fun _ _ => ?_))))
theorem pioO_ob_Jxc12de_init_da8c8  {x0 : Option Nat} {σ : oSt} (hP : iKptO P) (hc : cQoO P call)  (h : P σ) : PIo P (ob_Jxc12de_init_da8c8 n call κ  x0 σ) := by
  unfold ob_Jxc12de_init_da8c8
  repeat' (with_reducible (first | assumption | (refine PIoO_gd ?_) | (refine PIoO_pf hP ?_ (by decide) (by with_unfolding_all rfl) (fun _ _ => ?_)) | (refine PIoO_si hP ?_ (fun _ _ => ?_)) | (refine PIoO_sj hP ?_ (fun _ _ => ?_)) | (refine PIoO_sr hP ?_ (fun _ _ => ?_)) | (refine PIoO_cy hP ?_ (fun _ _ => ?_)) | (refine PIoO_bn (fun _ => ?_)) | (refine PIoO_na hP ?_ (fun _ _ => ?_)) | (refine PIoO_no hP ?_ (fun _ _ => ?_)) | (refine PIoO_ite ?_ ?_) | (refine PIoO_some ?_) | (exact PIoO_none) | (refine PIoO_cv (cQoO.c226 hc _ _ ?_) (fun _ _ => ?_))))
theorem pioO_ob_Jxa1e45_init_da8c8  {x0 : Option Nat} {σ : oSt} (hP : iKptO P) (hc : cQoO P call)  (h : P σ) : PIo P (ob_Jxa1e45_init_da8c8 n call κ  x0 σ) := by
  unfold ob_Jxa1e45_init_da8c8
  repeat' (with_reducible (first | assumption | (refine PIoO_gd ?_) | (refine PIoO_pf hP ?_ (by decide) (by with_unfolding_all rfl) (fun _ _ => ?_)) | (refine PIoO_si hP ?_ (fun _ _ => ?_)) | (refine PIoO_sj hP ?_ (fun _ _ => ?_)) | (refine PIoO_sr hP ?_ (fun _ _ => ?_)) | (refine PIoO_cy hP ?_ (fun _ _ => ?_)) | (refine PIoO_bn (fun _ => ?_)) | (refine PIoO_na hP ?_ (fun _ _ => ?_)) | (refine PIoO_no hP ?_ (fun _ _ => ?_)) | (refine PIoO_ite ?_ ?_) | (refine PIoO_some ?_) | (exact PIoO_none)))
theorem pioO_ob_Jx4a65c_add_9ea2d  {x0 : Option Nat} {x1 : Option Nat} {σ : oSt} (hP : iKptO P) (hc : cQoO P call)  (h : P σ) : PIo P (ob_Jx4a65c_add_9ea2d n call κ  x0 x1 σ) := by
  unfold ob_Jx4a65c_add_9ea2d
  repeat' (with_reducible (first | assumption | (refine PIoO_gd ?_) | (refine PIoO_pf hP ?_ (by decide) (by with_unfolding_all rfl) (fun _ _ => ?_)) | (refine PIoO_si hP ?_ (fun _ _ => ?_)) | (refine PIoO_sj hP ?_ (fun _ _ => ?_)) | (refine PIoO_sr hP ?_ (fun _ _ => ?_)) | (refine PIoO_cy hP ?_ (fun _ _ => ?_)) | (refine PIoO_bn (fun _ => ?_)) | (refine PIoO_na hP ?_ (fun _ _ => ?_)) | (refine PIoO_no hP ?_ (fun _ _ => ?_)) | (refine PIoO_ite ?_ ?_) | (refine PIoO_some ?_) | (exact PIoO_none) | (refine PIoO_cv (cQoO.c228 hc _ _ _ _ _ ?_) (fun _ _ => ?_))))
theorem pioO_oj_Jx4a65c_add_72be8_11  {x0 : Option Nat} {x1 : Option Nat} {x2 : Option Nat} {x3 : Int32} {σ : oSt} (hP : iKptO P) (hc : cQoO P call)  (h : P σ) : PIo P (oj_Jx4a65c_add_72be8_11 n call κ  x0 x1 x2 x3 σ) := by
  unfold oj_Jx4a65c_add_72be8_11
  repeat' (with_reducible (first | assumption | (refine PIoO_gd ?_) | (refine PIoO_pf hP ?_ (by decide) (by with_unfolding_all rfl) (fun _ _ => ?_)) | (refine PIoO_si hP ?_ (fun _ _ => ?_)) | (refine PIoO_sj hP ?_ (fun _ _ => ?_)) | (refine PIoO_sr hP ?_ (fun _ _ => ?_)) | (refine PIoO_cy hP ?_ (fun _ _ => ?_)) | (refine PIoO_bn (fun _ => ?_)) | (refine PIoO_na hP ?_ (fun _ _ => ?_)) | (refine PIoO_no hP ?_ (fun _ _ => ?_)) | (refine PIoO_ite ?_ ?_) | (refine PIoO_some ?_) | (exact PIoO_none)))
theorem pioO_ob_Jx4a65c_add_72be8  {x0 : Option Nat} {x1 : Option Nat} {x2 : Option Nat} {x3 : Int32} {σ : oSt} (hP : iKptO P) (hc : cQoO P call)  (h : P σ) : PIo P (ob_Jx4a65c_add_72be8 n call κ  x0 x1 x2 x3 σ) := by
  unfold ob_Jx4a65c_add_72be8
  repeat' (with_reducible (first | assumption | (refine PIoO_gd ?_) | (refine PIoO_pf hP ?_ (by decide) (by with_unfolding_all rfl) (fun _ _ => ?_)) | (refine PIoO_si hP ?_ (fun _ _ => ?_)) | (refine PIoO_sj hP ?_ (fun _ _ => ?_)) | (refine PIoO_sr hP ?_ (fun _ _ => ?_)) | (refine PIoO_cy hP ?_ (fun _ _ => ?_)) | (refine PIoO_bn (fun _ => ?_)) | (refine PIoO_na hP ?_ (fun _ _ => ?_)) | (refine PIoO_no hP ?_ (fun _ _ => ?_)) | (refine PIoO_ite ?_ ?_) | (refine PIoO_some ?_) | (exact PIoO_none) | (refine PIoO_rn (cQoO.c229 hc _ _ ?_) (fun _ _ _ => ?_)) | (refine pioO_oj_Jx4a65c_add_72be8_11 hP hc  ?_)))
theorem pioO_ob_Jx4a65c_grow_d5877  {x0 : Option Nat} {σ : oSt} (hP : iKptO P) (hc : cQoO P call)  (h : P σ) : PIo P (ob_Jx4a65c_grow_d5877 n call κ  x0 σ) := by
  unfold ob_Jx4a65c_grow_d5877
  repeat' (with_reducible (first | assumption | (refine PIoO_gd ?_) | (refine PIoO_pf hP ?_ (by decide) (by with_unfolding_all rfl) (fun _ _ => ?_)) | (refine PIoO_si hP ?_ (fun _ _ => ?_)) | (refine PIoO_sj hP ?_ (fun _ _ => ?_)) | (refine PIoO_sr hP ?_ (fun _ _ => ?_)) | (refine PIoO_cy hP ?_ (fun _ _ => ?_)) | (refine PIoO_bn (fun _ => ?_)) | (refine PIoO_na hP ?_ (fun _ _ => ?_)) | (refine PIoO_no hP ?_ (fun _ _ => ?_)) | (refine PIoO_ite ?_ ?_) | (refine PIoO_some ?_) | (exact PIoO_none) | (refine PIoO_rn (cQoO.c230 hc _ _ _ ?_) (fun _ _ _ => ?_))))
theorem pioO_oj_Jx4a65c_grow_92f84_20  {x0 : Option Nat} {x1 : Int32} {x2 : Int32} {σ : oSt} (hP : iKptO P) (hc : cQoO P call)  (h : P σ) : PIo P (oj_Jx4a65c_grow_92f84_20 n call κ  x0 x1 x2 σ) := by
  unfold oj_Jx4a65c_grow_92f84_20
  repeat' (with_reducible (first | assumption | (refine PIoO_gd ?_) | (refine PIoO_pf hP ?_ (by decide) (by with_unfolding_all rfl) (fun _ _ => ?_)) | (refine PIoO_si hP ?_ (fun _ _ => ?_)) | (refine PIoO_sj hP ?_ (fun _ _ => ?_)) | (refine PIoO_sr hP ?_ (fun _ _ => ?_)) | (refine PIoO_cy hP ?_ (fun _ _ => ?_)) | (refine PIoO_bn (fun _ => ?_)) | (refine PIoO_na hP ?_ (fun _ _ => ?_)) | (refine PIoO_no hP ?_ (fun _ _ => ?_)) | (refine PIoO_ite ?_ ?_) | (refine PIoO_some ?_) | (exact PIoO_none) | (refine PIoO_in (cQoO.c231 hc _ _ _ _ ?_) (fun _ _ _ => ?_)) | (refine PIoO_rn (cQoO.c232 hc _ _ _ ?_) (fun _ _ _ => ?_))))
theorem pioO_ob_Jx4a65c_grow_92f84  {x0 : Option Nat} {x1 : Int32} {σ : oSt} (hP : iKptO P) (hc : cQoO P call)  (h : P σ) : PIo P (ob_Jx4a65c_grow_92f84 n call κ  x0 x1 σ) := by
  unfold ob_Jx4a65c_grow_92f84
  repeat' (with_reducible (first | assumption | (refine PIoO_gd ?_) | (refine PIoO_pf hP ?_ (by decide) (by with_unfolding_all rfl) (fun _ _ => ?_)) | (refine PIoO_si hP ?_ (fun _ _ => ?_)) | (refine PIoO_sj hP ?_ (fun _ _ => ?_)) | (refine PIoO_sr hP ?_ (fun _ _ => ?_)) | (refine PIoO_cy hP ?_ (fun _ _ => ?_)) | (refine PIoO_bn (fun _ => ?_)) | (refine PIoO_na hP ?_ (fun _ _ => ?_)) | (refine PIoO_no hP ?_ (fun _ _ => ?_)) | (refine PIoO_ite ?_ ?_) | (refine PIoO_some ?_) | (exact PIoO_none) | (refine pioO_oj_Jx4a65c_grow_92f84_20 hP hc  ?_)))
theorem pioO_oj_J8_newLength_cabcc_21  {x0 : Int32} {x1 : Int32} {σ : oSt} (hP : iKptO P) (hc : cQoO P call)  (h : P σ) : PIo P (oj_J8_newLength_cabcc_21 n call κ  x0 x1 σ) := by
  unfold oj_J8_newLength_cabcc_21
  repeat' (with_reducible (first | assumption | (refine PIoO_gd ?_) | (refine PIoO_pf hP ?_ (by decide) (by with_unfolding_all rfl) (fun _ _ => ?_)) | (refine PIoO_si hP ?_ (fun _ _ => ?_)) | (refine PIoO_sj hP ?_ (fun _ _ => ?_)) | (refine PIoO_sr hP ?_ (fun _ _ => ?_)) | (refine PIoO_cy hP ?_ (fun _ _ => ?_)) | (refine PIoO_bn (fun _ => ?_)) | (refine PIoO_na hP ?_ (fun _ _ => ?_)) | (refine PIoO_no hP ?_ (fun _ _ => ?_)) | (refine PIoO_ite ?_ ?_) | (refine PIoO_some ?_) | (exact PIoO_none)))
theorem pioO_ob_J8_newLength_cabcc  {x0 : Int32} {x1 : Int32} {x2 : Int32} {σ : oSt} (hP : iKptO P) (hc : cQoO P call)  (h : P σ) : PIo P (ob_J8_newLength_cabcc n call κ  x0 x1 x2 σ) := by
  unfold ob_J8_newLength_cabcc
  repeat' (with_reducible (first | assumption | (refine PIoO_gd ?_) | (refine PIoO_pf hP ?_ (by decide) (by with_unfolding_all rfl) (fun _ _ => ?_)) | (refine PIoO_si hP ?_ (fun _ _ => ?_)) | (refine PIoO_sj hP ?_ (fun _ _ => ?_)) | (refine PIoO_sr hP ?_ (fun _ _ => ?_)) | (refine PIoO_cy hP ?_ (fun _ _ => ?_)) | (refine PIoO_bn (fun _ => ?_)) | (refine PIoO_na hP ?_ (fun _ _ => ?_)) | (refine PIoO_no hP ?_ (fun _ _ => ?_)) | (refine PIoO_ite ?_ ?_) | (refine PIoO_some ?_) | (exact PIoO_none) | (refine pioO_oj_J8_newLength_cabcc_21 hP hc  ?_)))
theorem pioO_ob_J7_copyOf_1904c  {x0 : Option Nat} {x1 : Int32} {σ : oSt} (hP : iKptO P) (hc : cQoO P call)  (h : P σ) : PIo P (ob_J7_copyOf_1904c n call κ  x0 x1 σ) := by
  unfold ob_J7_copyOf_1904c
  repeat' (with_reducible (first | assumption | (refine PIoO_gd ?_) | (refine PIoO_pf hP ?_ (by decide) (by with_unfolding_all rfl) (fun _ _ => ?_)) | (refine PIoO_si hP ?_ (fun _ _ => ?_)) | (refine PIoO_sj hP ?_ (fun _ _ => ?_)) | (refine PIoO_sr hP ?_ (fun _ _ => ?_)) | (refine PIoO_cy hP ?_ (fun _ _ => ?_)) | (refine PIoO_bn (fun _ => ?_)) | (refine PIoO_na hP ?_ (fun _ _ => ?_)) | (refine PIoO_no hP ?_ (fun _ _ => ?_)) | (refine PIoO_ite ?_ ?_) | (refine PIoO_some ?_) | (exact PIoO_none) | (refine PIoO_rn (cQoO.c233 hc _ _ _ _ ?_) (fun _ _ _ => ?_))))
theorem pioO_ob_J7_copyOf_6403c  {x0 : Option Nat} {x1 : Int32} {x2 : Option Nat} {σ : oSt} (hP : iKptO P) (hc : cQoO P call)  (h : P σ) : PIo P (ob_J7_copyOf_6403c n call κ  x0 x1 x2 σ) := by
  unfold ob_J7_copyOf_6403c
  repeat' (with_reducible (first | assumption | (refine PIoO_gd ?_) | (refine PIoO_pf hP ?_ (by decide) (by with_unfolding_all rfl) (fun _ _ => ?_)) | (refine PIoO_si hP ?_ (fun _ _ => ?_)) | (refine PIoO_sj hP ?_ (fun _ _ => ?_)) | (refine PIoO_sr hP ?_ (fun _ _ => ?_)) | (refine PIoO_cy hP ?_ (fun _ _ => ?_)) | (refine PIoO_bn (fun _ => ?_)) | (refine PIoO_na hP ?_ (fun _ _ => ?_)) | (refine PIoO_no hP ?_ (fun _ _ => ?_)) | (refine PIoO_ite ?_ ?_) | (refine PIoO_some ?_) | (exact PIoO_none)))
theorem pioO_ob_Jx4a65c_get_915e3  {x0 : Option Nat} {x1 : Int32} {σ : oSt} (hP : iKptO P) (hc : cQoO P call)  (h : P σ) : PIo P (ob_Jx4a65c_get_915e3 n call κ  x0 x1 σ) := by
  unfold ob_Jx4a65c_get_915e3
  repeat' (with_reducible (first | assumption | (refine PIoO_gd ?_) | (refine PIoO_pf hP ?_ (by decide) (by with_unfolding_all rfl) (fun _ _ => ?_)) | (refine PIoO_si hP ?_ (fun _ _ => ?_)) | (refine PIoO_sj hP ?_ (fun _ _ => ?_)) | (refine PIoO_sr hP ?_ (fun _ _ => ?_)) | (refine PIoO_cy hP ?_ (fun _ _ => ?_)) | (refine PIoO_bn (fun _ => ?_)) | (refine PIoO_na hP ?_ (fun _ _ => ?_)) | (refine PIoO_no hP ?_ (fun _ _ => ?_)) | (refine PIoO_ite ?_ ?_) | (refine PIoO_some ?_) | (exact PIoO_none) | (refine PIoO_in (cQoO.c205 hc _ _ _ ?_) (fun _ _ _ => ?_)) | (refine PIoO_rn (cQoO.c235 hc _ _ _ ?_) (fun _ _ _ => ?_))))
theorem pioO_ob_Jx4a65c_elementData_915e3  {x0 : Option Nat} {x1 : Int32} {σ : oSt} (hP : iKptO P) (hc : cQoO P call)  (h : P σ) : PIo P (ob_Jx4a65c_elementData_915e3 n call κ  x0 x1 σ) := by
  unfold ob_Jx4a65c_elementData_915e3
  repeat' (with_reducible (first | assumption | (refine PIoO_gd ?_) | (refine PIoO_pf hP ?_ (by decide) (by with_unfolding_all rfl) (fun _ _ => ?_)) | (refine PIoO_si hP ?_ (fun _ _ => ?_)) | (refine PIoO_sj hP ?_ (fun _ _ => ?_)) | (refine PIoO_sr hP ?_ (fun _ _ => ?_)) | (refine PIoO_cy hP ?_ (fun _ _ => ?_)) | (refine PIoO_bn (fun _ => ?_)) | (refine PIoO_na hP ?_ (fun _ _ => ?_)) | (refine PIoO_no hP ?_ (fun _ _ => ?_)) | (refine PIoO_ite ?_ ?_) | (refine PIoO_some ?_) | (exact PIoO_none)))
theorem pioO_ob_Jx4a65c_size_8abf5  {x0 : Option Nat} {σ : oSt} (hP : iKptO P) (hc : cQoO P call)  (h : P σ) : PIo P (ob_Jx4a65c_size_8abf5 n call κ  x0 σ) := by
  unfold ob_Jx4a65c_size_8abf5
  repeat' (with_reducible (first | assumption | (refine PIoO_gd ?_) | (refine PIoO_pf hP ?_ (by decide) (by with_unfolding_all rfl) (fun _ _ => ?_)) | (refine PIoO_si hP ?_ (fun _ _ => ?_)) | (refine PIoO_sj hP ?_ (fun _ _ => ?_)) | (refine PIoO_sr hP ?_ (fun _ _ => ?_)) | (refine PIoO_cy hP ?_ (fun _ _ => ?_)) | (refine PIoO_bn (fun _ => ?_)) | (refine PIoO_na hP ?_ (fun _ _ => ?_)) | (refine PIoO_no hP ?_ (fun _ _ => ?_)) | (refine PIoO_ite ?_ ?_) | (refine PIoO_some ?_) | (exact PIoO_none)))
theorem pioO_ol_Jx4a65c_clear_da8c8_27  (hP : iKptO P) (hc : cQoO P call)  : ∀ (t : Nat) (x0 : Option Nat) (x1 : Int32) (x2 : Int32) (σ : oSt), P σ → PIo P (ol_Jx4a65c_clear_da8c8_27 n call κ  t x0 x1 x2 σ) := by
  intro t
  induction t with
  | zero => intros; exact PIoO_none
  | succ t ih =>
    intro x0 x1 x2 σ h
    rw [ol_Jx4a65c_clear_da8c8_27]
    repeat' (with_reducible (first | assumption | (refine PIoO_gd ?_) | (refine PIoO_pf hP ?_ (by decide) (by with_unfolding_all rfl) (fun _ _ => ?_)) | (refine PIoO_si hP ?_ (fun _ _ => ?_)) | (refine PIoO_sj hP ?_ (fun _ _ => ?_)) | (refine PIoO_sr hP ?_ (fun _ _ => ?_)) | (refine PIoO_cy hP ?_ (fun _ _ => ?_)) | (refine PIoO_bn (fun _ => ?_)) | (refine PIoO_na hP ?_ (fun _ _ => ?_)) | (refine PIoO_no hP ?_ (fun _ _ => ?_)) | (refine PIoO_ite ?_ ?_) | (refine PIoO_some ?_) | (exact PIoO_none) | (refine ih _ _ _ _ ?_)))
theorem pioO_ob_Jx4a65c_clear_da8c8  {x0 : Option Nat} {σ : oSt} (hP : iKptO P) (hc : cQoO P call)  (h : P σ) : PIo P (ob_Jx4a65c_clear_da8c8 n call κ  x0 σ) := by
  unfold ob_Jx4a65c_clear_da8c8
  repeat' (with_reducible (first | assumption | (refine PIoO_gd ?_) | (refine PIoO_pf hP ?_ (by decide) (by with_unfolding_all rfl) (fun _ _ => ?_)) | (refine PIoO_si hP ?_ (fun _ _ => ?_)) | (refine PIoO_sj hP ?_ (fun _ _ => ?_)) | (refine PIoO_sr hP ?_ (fun _ _ => ?_)) | (refine PIoO_cy hP ?_ (fun _ _ => ?_)) | (refine PIoO_bn (fun _ => ?_)) | (refine PIoO_na hP ?_ (fun _ _ => ?_)) | (refine PIoO_no hP ?_ (fun _ _ => ?_)) | (refine PIoO_ite ?_ ?_) | (refine PIoO_some ?_) | (exact PIoO_none) | (refine pioO_ol_Jx4a65c_clear_da8c8_27 hP hc  _ _ _ _ _ ?_)))
theorem pioO_ob_J7_copyOf_59c91  {x0 : Option Nat} {x1 : Int32} {σ : oSt} (hP : iKptO P) (hc : cQoO P call)  (h : P σ) : PIo P (ob_J7_copyOf_59c91 n call κ  x0 x1 σ) := by
  unfold ob_J7_copyOf_59c91
  repeat' (with_reducible (first | assumption | (refine PIoO_gd ?_) | (refine PIoO_pf hP ?_ (by decide) (by with_unfolding_all rfl) (fun _ _ => ?_)) | (refine PIoO_si hP ?_ (fun _ _ => ?_)) | (refine PIoO_sj hP ?_ (fun _ _ => ?_)) | (refine PIoO_sr hP ?_ (fun _ _ => ?_)) | (refine PIoO_cy hP ?_ (fun _ _ => ?_)) | (refine PIoO_bn (fun _ => ?_)) | (refine PIoO_na hP ?_ (fun _ _ => ?_)) | (refine PIoO_no hP ?_ (fun _ _ => ?_)) | (refine PIoO_ite ?_ ?_) | (refine PIoO_some ?_) | (exact PIoO_none)))
theorem pioO_ob_J7_copyOf_c38d5  {x0 : Option Nat} {x1 : Int32} {σ : oSt} (hP : iKptO P) (hc : cQoO P call)  (h : P σ) : PIo P (ob_J7_copyOf_c38d5 n call κ  x0 x1 σ) := by
  unfold ob_J7_copyOf_c38d5
  repeat' (with_reducible (first | assumption | (refine PIoO_gd ?_) | (refine PIoO_pf hP ?_ (by decide) (by with_unfolding_all rfl) (fun _ _ => ?_)) | (refine PIoO_si hP ?_ (fun _ _ => ?_)) | (refine PIoO_sj hP ?_ (fun _ _ => ?_)) | (refine PIoO_sr hP ?_ (fun _ _ => ?_)) | (refine PIoO_cy hP ?_ (fun _ _ => ?_)) | (refine PIoO_bn (fun _ => ?_)) | (refine PIoO_na hP ?_ (fun _ _ => ?_)) | (refine PIoO_no hP ?_ (fun _ _ => ?_)) | (refine PIoO_ite ?_ ?_) | (refine PIoO_some ?_) | (exact PIoO_none)))
theorem pioO_ob_J7_copyOf_9075b  {x0 : Option Nat} {x1 : Int32} {σ : oSt} (hP : iKptO P) (hc : cQoO P call)  (h : P σ) : PIo P (ob_J7_copyOf_9075b n call κ  x0 x1 σ) := by
  unfold ob_J7_copyOf_9075b
  repeat' (with_reducible (first | assumption | (refine PIoO_gd ?_) | (refine PIoO_pf hP ?_ (by decide) (by with_unfolding_all rfl) (fun _ _ => ?_)) | (refine PIoO_si hP ?_ (fun _ _ => ?_)) | (refine PIoO_sj hP ?_ (fun _ _ => ?_)) | (refine PIoO_sr hP ?_ (fun _ _ => ?_)) | (refine PIoO_cy hP ?_ (fun _ _ => ?_)) | (refine PIoO_bn (fun _ => ?_)) | (refine PIoO_na hP ?_ (fun _ _ => ?_)) | (refine PIoO_no hP ?_ (fun _ _ => ?_)) | (refine PIoO_ite ?_ ?_) | (refine PIoO_some ?_) | (exact PIoO_none)))
theorem pioO_ol_J7_fill_d0a16_6  (hP : iKptO P) (hc : cQoO P call)  : ∀ (t : Nat) (x0 : Option Nat) (x1 : Int64) (x2 : Int32) (x3 : Int32) (σ : oSt), P σ → PIo P (ol_J7_fill_d0a16_6 n call κ  t x0 x1 x2 x3 σ) := by
  intro t
  induction t with
  | zero => intros; exact PIoO_none
  | succ t ih =>
    intro x0 x1 x2 x3 σ h
    rw [ol_J7_fill_d0a16_6]
    repeat' (with_reducible (first | assumption | (refine PIoO_gd ?_) | (refine PIoO_pf hP ?_ (by decide) (by with_unfolding_all rfl) (fun _ _ => ?_)) | (refine PIoO_si hP ?_ (fun _ _ => ?_)) | (refine PIoO_sj hP ?_ (fun _ _ => ?_)) | (refine PIoO_sr hP ?_ (fun _ _ => ?_)) | (refine PIoO_cy hP ?_ (fun _ _ => ?_)) | (refine PIoO_bn (fun _ => ?_)) | (refine PIoO_na hP ?_ (fun _ _ => ?_)) | (refine PIoO_no hP ?_ (fun _ _ => ?_)) | (refine PIoO_ite ?_ ?_) | (refine PIoO_some ?_) | (exact PIoO_none) | (refine ih _ _ _ _ _ ?_)))
theorem pioO_ob_J7_fill_d0a16  {x0 : Option Nat} {x1 : Int64} {σ : oSt} (hP : iKptO P) (hc : cQoO P call)  (h : P σ) : PIo P (ob_J7_fill_d0a16 n call κ  x0 x1 σ) := by
  unfold ob_J7_fill_d0a16
  repeat' (with_reducible (first | assumption | (refine PIoO_gd ?_) | (refine PIoO_pf hP ?_ (by decide) (by with_unfolding_all rfl) (fun _ _ => ?_)) | (refine PIoO_si hP ?_ (fun _ _ => ?_)) | (refine PIoO_sj hP ?_ (fun _ _ => ?_)) | (refine PIoO_sr hP ?_ (fun _ _ => ?_)) | (refine PIoO_cy hP ?_ (fun _ _ => ?_)) | (refine PIoO_bn (fun _ => ?_)) | (refine PIoO_na hP ?_ (fun _ _ => ?_)) | (refine PIoO_no hP ?_ (fun _ _ => ?_)) | (refine PIoO_ite ?_ ?_) | (refine PIoO_some ?_) | (exact PIoO_none) | (refine pioO_ol_J7_fill_d0a16_6 hP hc  _ _ _ _ _ _ ?_)))
theorem pioO_ol_J7_fill_53178_5  (hP : iKptO P) (hc : cQoO P call)  : ∀ (t : Nat) (x0 : Option Nat) (x1 : Int32) (x2 : Int32) (x3 : Int32) (σ : oSt), P σ → PIo P (ol_J7_fill_53178_5 n call κ  t x0 x1 x2 x3 σ) := by
  intro t
  induction t with
  | zero => intros; exact PIoO_none
  | succ t ih =>
    intro x0 x1 x2 x3 σ h
    rw [ol_J7_fill_53178_5]
    repeat' (with_reducible (first | assumption | (refine PIoO_gd ?_) | (refine PIoO_pf hP ?_ (by decide) (by with_unfolding_all rfl) (fun _ _ => ?_)) | (refine PIoO_si hP ?_ (fun _ _ => ?_)) | (refine PIoO_sj hP ?_ (fun _ _ => ?_)) | (refine PIoO_sr hP ?_ (fun _ _ => ?_)) | (refine PIoO_cy hP ?_ (fun _ _ => ?_)) | (refine PIoO_bn (fun _ => ?_)) | (refine PIoO_na hP ?_ (fun _ _ => ?_)) | (refine PIoO_no hP ?_ (fun _ _ => ?_)) | (refine PIoO_ite ?_ ?_) | (refine PIoO_some ?_) | (exact PIoO_none) | (refine ih _ _ _ _ _ ?_)))
theorem pioO_ob_J7_fill_53178  {x0 : Option Nat} {x1 : Int32} {σ : oSt} (hP : iKptO P) (hc : cQoO P call)  (h : P σ) : PIo P (ob_J7_fill_53178 n call κ  x0 x1 σ) := by
  unfold ob_J7_fill_53178
  repeat' (with_reducible (first | assumption | (refine PIoO_gd ?_) | (refine PIoO_pf hP ?_ (by decide) (by with_unfolding_all rfl) (fun _ _ => ?_)) | (refine PIoO_si hP ?_ (fun _ _ => ?_)) | (refine PIoO_sj hP ?_ (fun _ _ => ?_)) | (refine PIoO_sr hP ?_ (fun _ _ => ?_)) | (refine PIoO_cy hP ?_ (fun _ _ => ?_)) | (refine PIoO_bn (fun _ => ?_)) | (refine PIoO_na hP ?_ (fun _ _ => ?_)) | (refine PIoO_no hP ?_ (fun _ _ => ?_)) | (refine PIoO_ite ?_ ?_) | (refine PIoO_some ?_) | (exact PIoO_none) | (refine pioO_ol_J7_fill_53178_5 hP hc  _ _ _ _ _ _ ?_)))
theorem pioO_ob_J9_floorDiv_f86c9  {x0 : Int64} {x2 : Int64} {σ : oSt} (hP : iKptO P) (hc : cQoO P call)  (h : P σ) : PIo P (ob_J9_floorDiv_f86c9 n call κ  x0 x2 σ) := by
  unfold ob_J9_floorDiv_f86c9
  repeat' (with_reducible (first | assumption | (refine PIoO_gd ?_) | (refine PIoO_pf hP ?_ (by decide) (by with_unfolding_all rfl) (fun _ _ => ?_)) | (refine PIoO_si hP ?_ (fun _ _ => ?_)) | (refine PIoO_sj hP ?_ (fun _ _ => ?_)) | (refine PIoO_sr hP ?_ (fun _ _ => ?_)) | (refine PIoO_cy hP ?_ (fun _ _ => ?_)) | (refine PIoO_bn (fun _ => ?_)) | (refine PIoO_na hP ?_ (fun _ _ => ?_)) | (refine PIoO_no hP ?_ (fun _ _ => ?_)) | (refine PIoO_ite ?_ ?_) | (refine PIoO_some ?_) | (exact PIoO_none)))
theorem pioO_ob_J9_floorMod_f86c9  {x0 : Int64} {x2 : Int64} {σ : oSt} (hP : iKptO P) (hc : cQoO P call)  (h : P σ) : PIo P (ob_J9_floorMod_f86c9 n call κ  x0 x2 σ) := by
  unfold ob_J9_floorMod_f86c9
  repeat' (with_reducible (first | assumption | (refine PIoO_gd ?_) | (refine PIoO_pf hP ?_ (by decide) (by with_unfolding_all rfl) (fun _ _ => ?_)) | (refine PIoO_si hP ?_ (fun _ _ => ?_)) | (refine PIoO_sj hP ?_ (fun _ _ => ?_)) | (refine PIoO_sr hP ?_ (fun _ _ => ?_)) | (refine PIoO_cy hP ?_ (fun _ _ => ?_)) | (refine PIoO_bn (fun _ => ?_)) | (refine PIoO_na hP ?_ (fun _ _ => ?_)) | (refine PIoO_no hP ?_ (fun _ _ => ?_)) | (refine PIoO_ite ?_ ?_) | (refine PIoO_some ?_) | (exact PIoO_none)))
/-- **all of them, however deep** -/
theorem cQoO_oF (hP : iKptO P) (T : Nat) : ∀ n, cQoO P (oF κ T n) := by
  intro n
  induction n with
  | zero =>
    refine ⟨?_, ?_, ?_, ?_, ?_, ?_, ?_, ?_, ?_, ?_, ?_, ?_, ?_, ?_, ?_, ?_, ?_, ?_, ?_, ?_, ?_, ?_, ?_, ?_, ?_, ?_, ?_, ?_, ?_, ?_, ?_, ?_, ?_, ?_, ?_, ?_, ?_, ?_, ?_, ?_, ?_, ?_, ?_, ?_, ?_, ?_, ?_, ?_, ?_, ?_, ?_, ?_, ?_, ?_, ?_, ?_, ?_, ?_, ?_, ?_, ?_, ?_, ?_, ?_, ?_, ?_, ?_, ?_, ?_, ?_, ?_, ?_, ?_, ?_, ?_, ?_, ?_, ?_, ?_, ?_, ?_, ?_, ?_, ?_, ?_, ?_, ?_, ?_, ?_, ?_, ?_, ?_, ?_, ?_, ?_, ?_, ?_, ?_, ?_, ?_, ?_, ?_, ?_, ?_, ?_, ?_, ?_, ?_, ?_, ?_, ?_, ?_, ?_, ?_, ?_, ?_, ?_, ?_, ?_, ?_, ?_, ?_, ?_, ?_, ?_, ?_, ?_, ?_, ?_, ?_, ?_, ?_, ?_, ?_, ?_, ?_, ?_, ?_, ?_, ?_, ?_, ?_, ?_, ?_, ?_, ?_, ?_, ?_, ?_, ?_, ?_, ?_, ?_, ?_, ?_, ?_, ?_, ?_, ?_, ?_, ?_, ?_, ?_, ?_, ?_, ?_, ?_, ?_, ?_, ?_, ?_, ?_, ?_, ?_, ?_, ?_, ?_, ?_, ?_, ?_, ?_, ?_, ?_, ?_, ?_, ?_, ?_, ?_, ?_, ?_, ?_, ?_, ?_, ?_, ?_, ?_, ?_, ?_, ?_, ?_, ?_, ?_, ?_, ?_, ?_, ?_, ?_, ?_, ?_, ?_, ?_, ?_, ?_, ?_, ?_, ?_, ?_, ?_, ?_, ?_, ?_, ?_, ?_, ?_, ?_, ?_, ?_, ?_, ?_, ?_, ?_, ?_, ?_, ?_, ?_, ?_, ?_, ?_, ?_, ?_, ?_⟩ <;> (intros; exact fun w e => by cases e)
  | succ n hc =>
    refine ⟨?_, ?_, ?_, ?_, ?_, ?_, ?_, ?_, ?_, ?_, ?_, ?_, ?_, ?_, ?_, ?_, ?_, ?_, ?_, ?_, ?_, ?_, ?_, ?_, ?_, ?_, ?_, ?_, ?_, ?_, ?_, ?_, ?_, ?_, ?_, ?_, ?_, ?_, ?_, ?_, ?_, ?_, ?_, ?_, ?_, ?_, ?_, ?_, ?_, ?_, ?_, ?_, ?_, ?_, ?_, ?_, ?_, ?_, ?_, ?_, ?_, ?_, ?_, ?_, ?_, ?_, ?_, ?_, ?_, ?_, ?_, ?_, ?_, ?_, ?_, ?_, ?_, ?_, ?_, ?_, ?_, ?_, ?_, ?_, ?_, ?_, ?_, ?_, ?_, ?_, ?_, ?_, ?_, ?_, ?_, ?_, ?_, ?_, ?_, ?_, ?_, ?_, ?_, ?_, ?_, ?_, ?_, ?_, ?_, ?_, ?_, ?_, ?_, ?_, ?_, ?_, ?_, ?_, ?_, ?_, ?_, ?_, ?_, ?_, ?_, ?_, ?_, ?_, ?_, ?_, ?_, ?_, ?_, ?_, ?_, ?_, ?_, ?_, ?_, ?_, ?_, ?_, ?_, ?_, ?_, ?_, ?_, ?_, ?_, ?_, ?_, ?_, ?_, ?_, ?_, ?_, ?_, ?_, ?_, ?_, ?_, ?_, ?_, ?_, ?_, ?_, ?_, ?_, ?_, ?_, ?_, ?_, ?_, ?_, ?_, ?_, ?_, ?_, ?_, ?_, ?_, ?_, ?_, ?_, ?_, ?_, ?_, ?_, ?_, ?_, ?_, ?_, ?_, ?_, ?_, ?_, ?_, ?_, ?_, ?_, ?_, ?_, ?_, ?_, ?_, ?_, ?_, ?_, ?_, ?_, ?_, ?_, ?_, ?_, ?_, ?_, ?_, ?_, ?_, ?_, ?_, ?_, ?_, ?_, ?_, ?_, ?_, ?_, ?_, ?_, ?_, ?_, ?_, ?_, ?_, ?_, ?_, ?_, ?_, ?_, ?_⟩
    · intro x0 x1 x2 x3 σ h
      rw [oE_X0_init]
      exact pioO_ob_X0_init hP hc h
    · intro x0 x1 σ h
      rw [oE_X2_init]
      exact pioO_ob_X2_init hP hc h
    · intro x0 x1 x2 σ h
      rw [oE_X8_init]
      exact pioO_ob_X8_init hP hc h
    · intro x0 x1 x2 x3 σ h
      rw [oE_X2_init_]
      exact pioO_ob_X2_init_ hP hc h
    · intro x0 x1 σ h
      rw [oE_X2_answered]
      exact pioO_ob_X2_answered hP hc h
    · intro x0 σ h
      rw [oE_X2_taken]
      exact pioO_ob_X2_taken hP hc h
    · intro x0 σ h
      rw [oE_X4_isMeasured]
      exact pioO_ob_X4_isMeasured hP hc h
    · intro x0 x1 x2 σ h
      rw [oE_X4_init]
      exact pioO_ob_X4_init hP hc h
    · intro x0 σ h
      rw [oE_X9_init]
      exact pioO_ob_X9_init hP hc h
    · intro x0 x1 σ h
      rw [oE_X9_append]
      exact pioO_ob_X9_append hP hc h
    · intro x0 x1 x2 σ h
      rw [oE_X9_add]
      exact pioO_ob_X9_add hP hc h
    · intro x0 x1 x2 σ h
      rw [oE_X9_of]
      exact pioO_ob_X9_of hP hc h
    · intro x0 x1 x2 x3 σ h
      rw [oE_X0_fit]
      exact pioO_ob_X0_fit hP hc h
    · intro x0 x1 x2 x3 σ h
      rw [oE_X8_init_]
      exact pioO_ob_X8_init_ hP hc h
    · intro x0 σ h
      rw [oE_X9_isTerm]
      exact pioO_ob_X9_isTerm hP hc h
    · intro x0 x1 σ h
      rw [oE_X2_makeRoom]
      exact hP.2.2.2.2 _ _ _ _ _ σ h
    · intro x0 x1 x2 σ h
      rw [oE_X2_say]
      exact pioO_ob_X2_say hP hc h
    · intro x0 x1 σ h
      rw [oE_X2_of]
      exact pioO_ob_X2_of hP hc h
    · intro x0 x1 σ h
      rw [oE_X0_product]
      exact pioO_ob_X0_product hP hc h
    · intro x0 σ h
      rw [oE_X0_remainder]
      exact pioO_ob_X0_remainder hP hc h
    · intro x0 σ h
      rw [oE_X0_plain]
      exact pioO_ob_X0_plain hP hc h
    · intro x0 x1 σ h
      rw [oE_X10_root]
      exact pioO_ob_X10_root hP hc h
    · intro x0 x1 σ h
      rw [oE_X10_kindOf]
      exact pioO_ob_X10_kindOf hP hc h
    · intro x0 x1 σ h
      rw [oE_X10_takenBy]
      exact pioO_ob_X10_takenBy hP hc h
    · intro x0 x1 σ h
      rw [oE_X10_answeredBy]
      exact pioO_ob_X10_answeredBy hP hc h
    · intro x0 x1 x2 σ h
      rw [oE_X0_instance]
      exact pioO_ob_X0_instance hP hc h
    · intro x0 x1 σ h
      rw [oE_X0_sayInstances]
      exact pioO_ob_X0_sayInstances hP hc h
    · intro x0 x1 x2 x3 σ h
      rw [oE_X0_shape]
      exact pioO_ob_X0_shape hP hc h
    · intro x0 x1 x2 x3 σ h
      rw [oE_X0_template]
      exact pioO_ob_X0_template hP hc h
    · intro x0 x1 x2 x3 σ h
      rw [oE_X0_fitBody]
      exact pioO_ob_X0_fitBody hP hc h
    · intro x0 x1 x2 σ h
      rw [oE_X0_walk]
      exact pioO_ob_X0_walk hP hc h
    · intro x0 x1 x2 σ h
      rw [oE_X0_walkCall]
      exact pioO_ob_X0_walkCall hP hc h
    · intro x0 x1 x2 σ h
      rw [oE_X0_walkFunction]
      exact pioO_ob_X0_walkFunction hP hc h
    · intro x0 x1 x2 σ h
      rw [oE_X0_walkIf]
      exact pioO_ob_X0_walkIf hP hc h
    · intro x0 x1 x2 σ h
      rw [oE_X0_walkLet]
      exact pioO_ob_X0_walkLet hP hc h
    · intro x0 x1 x2 σ h
      rw [oE_X0_walkMatch]
      exact pioO_ob_X0_walkMatch hP hc h
    · intro x0 x1 x2 σ h
      rw [oE_X0_walkRec]
      exact pioO_ob_X0_walkRec hP hc h
    · intro x0 σ h
      rw [oE_X0_gather]
      exact pioO_ob_X0_gather hP hc h
    · intro x0 σ h
      rw [oE_X9_isFact]
      exact pioO_ob_X9_isFact hP hc h
    · intro x0 σ h
      rw [oE_X1_isFormed]
      exact pioO_ob_X1_isFormed hP hc h
    · intro x0 x1 σ h
      rw [oE_X6_makeRoom]
      exact pioO_ob_X6_makeRoom hP hc h
    · intro x0 x1 σ h
      rw [oE_X6_reset]
      exact pioO_ob_X6_reset hP hc h
    · intro x0 x1 x2 x3 σ h
      rw [oE_X6_lead]
      exact pioO_ob_X6_lead hP hc h
    · intro x0 σ h
      rw [oE_X6_tighten]
      exact pioO_ob_X6_tighten hP hc h
    · intro x0 x1 x2 x3 σ h
      rw [oE_X6_limit]
      exact pioO_ob_X6_limit hP hc h
    · intro x0 x1 σ h
      rw [oE_X2_insteadOf]
      exact pioO_ob_X2_insteadOf hP hc h
    · intro x0 x1 σ h
      rw [oE_X2_recall]
      exact pioO_ob_X2_recall hP hc h
    · intro x0 x1 σ h
      rw [oE_X1_side]
      exact pioO_ob_X1_side hP hc h
    · intro x0 x1 x2 x3 σ h
      rw [oE_X6_isLimited]
      exact pioO_ob_X6_isLimited hP hc h
    · intro x0 x1 x2 x3 σ h
      rw [oE_X1_meet]
      exact pioO_ob_X1_meet hP hc h
    · intro x0 x1 x2 σ h
      rw [oE_X1_learn]
      exact pioO_ob_X1_learn hP hc h
    · intro x0 x1 x2 σ h
      rw [oE_X1_postpone]
      exact pioO_ob_X1_postpone hP hc h
    · intro x0 x1 x2 σ h
      rw [oE_X1_choose]
      exact pioO_ob_X1_choose hP hc h
    · intro x0 σ h
      rw [oE_X1_opposite]
      exact pioO_ob_X1_opposite hP hc h
    · intro x0 x1 x2 x3 σ h
      rw [oE_X1_limit]
      exact pioO_ob_X1_limit hP hc h
    · intro x0 x1 x2 σ h
      rw [oE_X1_compare]
      exact pioO_ob_X1_compare hP hc h
    · intro x0 x1 x2 σ h
      rw [oE_X1_assume]
      exact pioO_ob_X1_assume hP hc h
    · intro x0 x1 x2 σ h
      rw [oE_X1_begin]
      exact pioO_ob_X1_begin hP hc h
    · intro x0 σ h
      rw [oE_X6_close]
      exact pioO_ob_X6_close hP hc h
    · intro x0 σ h
      rw [oE_X1_conclude]
      exact pioO_ob_X1_conclude hP hc h
    · intro x0 σ h
      rw [oE_X1_isDecided]
      exact pioO_ob_X1_isDecided hP hc h
    · intro x0 σ h
      rw [oE_X6_rise]
      exact pioO_ob_X6_rise hP hc h
    · intro x0 σ h
      rw [oE_X6_sink]
      exact pioO_ob_X6_sink hP hc h
    · intro x0 x1 σ h
      rw [oE_X1_explore]
      exact pioO_ob_X1_explore hP hc h
    · intro x0 x1 x2 σ h
      rw [oE_X1_isSure]
      exact pioO_ob_X1_isSure hP hc h
    · intro x0 σ h
      rw [oE_X0_findDoubt]
      exact pioO_ob_X0_findDoubt hP hc h
    · intro x0 x1 σ h
      rw [oE_X0_lastChange]
      exact pioO_ob_X0_lastChange hP hc h
    · intro x0 x1 x2 x3 σ h
      rw [oE_X1_weaken]
      exact pioO_ob_X1_weaken hP hc h
    · intro x0 σ h
      rw [oE_X0_weakenAll]
      exact pioO_ob_X0_weakenAll hP hc h
    · intro x0 σ h
      rw [oE_X3_forget]
      exact pioO_ob_X3_forget hP hc h
    · intro x0 x1 x2 σ h
      rw [oE_X3_take]
      exact pioO_ob_X3_take hP hc h
    · intro x0 x1 x2 x3 σ h
      rw [oE_X3_set]
      exact pioO_ob_X3_set hP hc h
    · intro x0 x1 x2 x3 σ h
      rw [oE_X3_setElement]
      exact pioO_ob_X3_setElement hP hc h
    · intro x0 x1 σ h
      rw [oE_X3_room]
      exact pioO_ob_X3_room hP hc h
    · intro x0 x1 σ h
      rw [oE_X3_array]
      exact pioO_ob_X3_array hP hc h
    · intro x0 x1 σ h
      rw [oE_X3_givenArray]
      exact pioO_ob_X3_givenArray hP hc h
    · intro x0 x1 x2 σ h
      rw [oE_X3_pair]
      exact pioO_ob_X3_pair hP hc h
    · intro x0 σ h
      rw [oE_X3_begin]
      exact pioO_ob_X3_begin hP hc h
    · intro x0 x1 x2 x3 σ h
      rw [oE_X3_await]
      exact pioO_ob_X3_await hP hc h
    · intro x0 x1 x2 x3 σ h
      rw [oE_X3_triple]
      exact pioO_ob_X3_triple hP hc h
    · intro x0 x1 x2 σ h
      rw [oE_X3_valueOf]
      exact pioO_ob_X3_valueOf hP hc h
    · intro x0 x1 x2 σ h
      rw [oE_X3_measure]
      exact pioO_ob_X3_measure hP hc h
    · intro x0 x1 σ h
      rw [oE_X3_sum]
      exact pioO_ob_X3_sum hP hc h
    · intro x0 x1 x2 x3 σ h
      rw [oE_X3_stands]
      exact pioO_ob_X3_stands hP hc h
    · intro x0 x1 σ h
      rw [oE_X3_holds]
      exact pioO_ob_X3_holds hP hc h
    · intro x0 x1 σ h
      rw [oE_X3_elementOf]
      exact pioO_ob_X3_elementOf hP hc h
    · intro x0 x1 σ h
      rw [oE_X3_change]
      exact pioO_ob_X3_change hP hc h
    · intro x0 x1 σ h
      rw [oE_X3_match]
      exact pioO_ob_X3_match hP hc h
    · intro x0 x1 σ h
      rw [oE_X3_argument]
      exact pioO_ob_X3_argument hP hc h
    · intro x0 x1 x2 σ h
      rw [oE_X3_apply]
      exact pioO_ob_X3_apply hP hc h
    · intro x0 x1 σ h
      rw [oE_X3_call]
      exact pioO_ob_X3_call hP hc h
    · intro x0 x1 σ h
      rw [oE_X3_newArray]
      exact pioO_ob_X3_newArray hP hc h
    · intro x0 x1 σ h
      rw [oE_X3_cons]
      exact pioO_ob_X3_cons hP hc h
    · intro x0 x1 x2 σ h
      rw [oE_X3_product]
      exact pioO_ob_X3_product hP hc h
    · intro x0 x1 σ h
      rw [oE_X3_quotient]
      exact pioO_ob_X3_quotient hP hc h
    · intro x0 x1 σ h
      rw [oE_X3_plain]
      exact pioO_ob_X3_plain hP hc h
    · intro x0 x1 σ h
      rw [oE_X3_start]
      exact pioO_ob_X3_start hP hc h
    · intro x0 σ h
      rw [oE_X3_resume]
      exact pioO_ob_X3_resume hP hc h
    · intro x0 x1 σ h
      rw [oE_X3_go]
      exact pioO_ob_X3_go hP hc h
    · intro x0 x1 x2 x3 σ h
      rw [oE_X5_init]
      exact pioO_ob_X5_init hP hc h
    · intro x0 x1 σ h
      rw [oE_X7_init]
      exact pioO_ob_X7_init hP hc h
    · intro x0 σ h
      rw [oE_X7_kind]
      exact pioO_ob_X7_kind hP hc h
    · intro x0 σ h
      rw [oE_X7_next]
      exact pioO_ob_X7_next hP hc h
    · intro x0 σ h
      rw [oE_X7_here]
      exact pioO_ob_X7_here hP hc h
    · intro x0 σ h
      rw [oE_X7_fail]
      exact pioO_ob_X7_fail hP hc h
    · intro x0 x1 σ h
      rw [oE_X7_expect]
      exact pioO_ob_X7_expect hP hc h
    · intro x0 σ h
      rw [oE_X7_isRelation]
      exact pioO_ob_X7_isRelation hP hc h
    · intro x0 x1 σ h
      rw [oE_X11_numberOf]
      exact pioO_ob_X11_numberOf hP hc h
    · intro x0 σ h
      rw [oE_X7_readQualTerm]
      exact pioO_ob_X7_readQualTerm hP hc h
    · intro x0 σ h
      rw [oE_X7_readQual]
      exact pioO_ob_X7_readQual hP hc h
    · intro x0 x1 σ h
      rw [oE_X11_textOf]
      exact pioO_ob_X11_textOf hP hc h
    · intro x0 x1 σ h
      rw [oE_X7_counts]
      exact pioO_ob_X7_counts hP hc h
    · intro x0 σ h
      rw [oE_X7_tell]
      exact pioO_ob_X7_tell hP hc h
    · intro x0 x1 σ h
      rw [oE_X7_count]
      exact pioO_ob_X7_count hP hc h
    · intro x0 σ h
      rw [oE_X7_readInput]
      exact pioO_ob_X7_readInput hP hc h
    · intro x0 x1 σ h
      rw [oE_X7_node]
      exact pioO_ob_X7_node hP hc h
    · intro x0 σ h
      rw [oE_X7_use]
      exact pioO_ob_X7_use hP hc h
    · intro x0 x1 σ h
      rw [oE_X7_sum_]
      exact pioO_ob_X7_sum_ hP hc h
    · intro x0 σ h
      rw [oE_X7_sum]
      exact pioO_ob_X7_sum hP hc h
    · intro x0 x1 σ h
      rw [oE_X7_blameForm]
      exact pioO_ob_X7_blameForm hP hc h
    · intro x0 x1 x2 σ h
      rw [oE_X7_compare]
      exact pioO_ob_X7_compare hP hc h
    · intro x0 x1 x2 σ h
      rw [oE_X9_addAll]
      exact pioO_ob_X9_addAll hP hc h
    · intro x0 x1 σ h
      rw [oE_X7_comparison]
      exact pioO_ob_X7_comparison hP hc h
    · intro x0 x1 σ h
      rw [oE_X7_both]
      exact pioO_ob_X7_both hP hc h
    · intro x0 x1 σ h
      rw [oE_X7_either]
      exact pioO_ob_X7_either hP hc h
    · intro x0 x1 σ h
      rw [oE_X7_single]
      exact pioO_ob_X7_single hP hc h
    · intro x0 x1 σ h
      rw [oE_X7_test]
      exact pioO_ob_X7_test hP hc h
    · intro x0 σ h
      rw [oE_X7_beginsArgument]
      exact pioO_ob_X7_beginsArgument hP hc h
    · intro x0 x1 σ h
      rw [oE_X7_beFunction]
      exact pioO_ob_X7_beFunction hP hc h
    · intro x0 x1 σ h
      rw [oE_X7_tellParameter]
      exact pioO_ob_X7_tellParameter hP hc h
    · intro x0 x1 σ h
      rw [oE_X7_readIndex]
      exact pioO_ob_X7_readIndex hP hc h
    · intro x0 x1 σ h
      rw [oE_X7_argument]
      exact pioO_ob_X7_argument hP hc h
    · intro x0 x1 σ h
      rw [oE_X7_expression]
      exact pioO_ob_X7_expression hP hc h
    · intro x0 x1 x2 σ h
      rw [oE_X7_readAssert]
      exact pioO_ob_X7_readAssert hP hc h
    · intro x0 x1 σ h
      rw [oE_X7_readCall]
      exact pioO_ob_X7_readCall hP hc h
    · intro x0 x1 x2 σ h
      rw [oE_X7_readFunction]
      exact pioO_ob_X7_readFunction hP hc h
    · intro x0 x1 x2 σ h
      rw [oE_X7_readIf]
      exact pioO_ob_X7_readIf hP hc h
    · intro x0 x1 x2 σ h
      rw [oE_X7_readLet]
      exact pioO_ob_X7_readLet hP hc h
    · intro x0 x1 x2 σ h
      rw [oE_X7_readMatch]
      exact pioO_ob_X7_readMatch hP hc h
    · intro x0 x1 σ h
      rw [oE_X7_readOpen]
      exact pioO_ob_X7_readOpen hP hc h
    · intro x0 x1 x2 σ h
      rw [oE_X7_readRec]
      exact pioO_ob_X7_readRec hP hc h
    · intro x0 x1 x2 σ h
      rw [oE_X7_readSet]
      exact pioO_ob_X7_readSet hP hc h
    · intro x0 σ h
      rw [oE_X7_readProgram]
      exact pioO_ob_X7_readProgram hP hc h
    · intro x0 x1 σ h
      rw [oE_X10_make]
      exact pioO_ob_X10_make hP hc h
    · intro x0 x1 σ h
      rw [oE_X10_init]
      exact pioO_ob_X10_init hP hc h
    · intro x0 σ h
      rw [oE_X10_basic]
      exact pioO_ob_X10_basic hP hc h
    · intro x0 x1 x2 σ h
      rw [oE_X10_function]
      exact pioO_ob_X10_function hP hc h
    · intro x0 x1 x2 σ h
      rw [oE_X10_unify]
      exact pioO_ob_X10_unify hP hc h
    · intro x0 x1 σ h
      rw [oE_X10_isFinite]
      exact pioO_ob_X10_isFinite hP hc h
    · intro x0 x1 x2 x3 σ h
      rw [oE_X10_must]
      exact pioO_ob_X10_must hP hc h
    · intro x0 x1 σ h
      rw [oE_X10_checkSum]
      exact pioO_ob_X10_checkSum hP hc h
    · intro x0 x1 σ h
      rw [oE_X10_checkTest]
      exact pioO_ob_X10_checkTest hP hc h
    · intro x0 x1 σ h
      rw [oE_X10_inferPlain]
      exact pioO_ob_X10_inferPlain hP hc h
    · intro x0 x1 σ h
      rw [oE_X10_infer]
      exact pioO_ob_X10_infer hP hc h
    · intro x0 x1 σ h
      rw [oE_X10_inferCall]
      exact pioO_ob_X10_inferCall hP hc h
    · intro x0 x1 σ h
      rw [oE_X10_inferMatch]
      exact pioO_ob_X10_inferMatch hP hc h
    · intro x0 x1 σ h
      rw [oE_X10_inferRec]
      exact pioO_ob_X10_inferRec hP hc h
    · intro x0 x1 σ h
      rw [oE_X10_leavesOf]
      exact pioO_ob_X10_leavesOf hP hc h
    · intro x0 x1 σ h
      rw [oE_X10_countTemplates]
      exact pioO_ob_X10_countTemplates hP hc h
    · intro x0 x1 σ h
      rw [oE_X10_findAll]
      exact pioO_ob_X10_findAll hP hc h
    · intro x0 σ h
      rw [oE_X11_isLetter]
      exact pioO_ob_X11_isLetter hP hc h
    · intro x0 σ h
      rw [oE_X11_isDigit]
      exact pioO_ob_X11_isDigit hP hc h
    · intro x0 x1 σ h
      rw [oE_X11_continues]
      exact pioO_ob_X11_continues hP hc h
    · intro x0 x1 σ h
      rw [oE_X11_doubleSign]
      exact pioO_ob_X11_doubleSign hP hc h
    · intro x0 x1 σ h
      rw [oE_X11_endOfWord]
      exact pioO_ob_X11_endOfWord hP hc h
    · intro x0 x1 x2 x3 σ h
      rw [oE_X11_sameLetters]
      exact pioO_ob_X11_sameLetters hP hc h
    · intro x0 x1 x2 σ h
      rw [oE_X11_keyword]
      exact pioO_ob_X11_keyword hP hc h
    · intro x0 x1 x2 σ h
      rw [oE_X11_add]
      exact pioO_ob_X11_add hP hc h
    · intro x0 σ h
      rw [oE_X11_split]
      exact pioO_ob_X11_split hP hc h
    · intro x0 x1 σ h
      rw [oE_X11_init]
      exact pioO_ob_X11_init hP hc h
    · intro x0 x1 σ h
      rw [oE_X12_lay]
      exact pioO_ob_X12_lay hP hc h
    · intro x0 x1 x2 x3 x4 x5 σ h
      rw [oE_X12_feed]
      exact pioO_ob_X12_feed hP hc h
    · intro x0 x1 σ h
      rw [oE_X12_end]
      exact pioO_ob_X12_end hP hc h
    · intro x0 x1 x2 σ h
      rw [oE_X12_fault]
      exact pioO_ob_X12_fault hP hc h
    · intro x0 σ h
      rw [oE_X12_compile]
      exact pioO_ob_X12_compile hP hc h
    · intro x0 σ h
      rw [oE_X12_accepted]
      exact pioO_ob_X12_accepted hP hc h
    · intro x0 σ h
      rw [oE_X12_place]
      exact pioO_ob_X12_place hP hc h
    · intro x0 x1 σ h
      rw [oE_X12_put_]
      exact pioO_ob_X12_put_ hP hc h
    · intro x0 x1 σ h
      rw [oE_X12_put]
      exact pioO_ob_X12_put hP hc h
    · intro x0 x1 σ h
      rw [oE_X12_tellNumber]
      exact pioO_ob_X12_tellNumber hP hc h
    · intro x0 x1 σ h
      rw [oE_X12_tellName]
      exact pioO_ob_X12_tellName hP hc h
    · intro x0 x1 σ h
      rw [oE_X12_tellRelation]
      exact pioO_ob_X12_tellRelation hP hc h
    · intro x0 x1 σ h
      rw [oE_X12_tellTerm]
      exact pioO_ob_X12_tellTerm hP hc h
    · intro x0 x1 σ h
      rw [oE_X12_tellLeaf]
      exact pioO_ob_X12_tellLeaf hP hc h
    · intro x0 x1 x2 σ h
      rw [oE_X12_tell]
      exact pioO_ob_X12_tell hP hc h
    · intro x0 x1 σ h
      rw [oE_X12_type]
      exact pioO_ob_X12_type hP hc h
    · intro x0 x1 σ h
      rw [oE_X12_out]
      exact pioO_ob_X12_out hP hc h
    · intro x0 x1 x2 σ h
      rw [oE_X12_give]
      exact pioO_ob_X12_give hP hc h
    · intro x0 x1 x2 x3 σ h
      rw [oE_X12_element]
      exact pioO_ob_X12_element hP hc h
    · intro x0 x1 σ h
      rw [oE_X12_run]
      exact pioO_ob_X12_run hP hc h
    · intro x0 σ h
      rw [oE_X12_value]
      exact pioO_ob_X12_value hP hc h
    · intro x0 σ h
      rw [oE_X12_fuel]
      exact pioO_ob_X12_fuel hP hc h
    · intro x0 x1 σ h
      rw [oE_J0_init_905df]
      exact pioO_ob_J0_init_905df hP hc h
    · intro x0 x1 x2 x3 x4 σ h
      rw [oE_J0_init_bb550]
      exact pioO_ob_J0_init_bb550 hP hc h
    · intro x0 x1 x2 σ h
      rw [oE_J2_compress_dfd3c]
      exact pioO_ob_J2_compress_dfd3c hP hc h
    · intro x0 x1 x2 x3 x4 σ h
      rw [oE_J2_compress_fe38e]
      exact pioO_ob_J2_compress_fe38e hP hc h
    · intro x0 x1 σ h
      rw [oE_J2_coderFromArrayLen_85cad]
      exact pioO_ob_J2_coderFromArrayLen_85cad hP hc h
    · intro x0 x1 σ h
      rw [oE_J0_charAt_5068e]
      exact pioO_ob_J0_charAt_5068e hP hc h
    · intro x0 σ h
      rw [oE_J0_isLatin1_aae02]
      exact pioO_ob_J0_isLatin1_aae02 hP hc h
    · intro x0 x1 σ h
      rw [oE_J1_charAt_3b067]
      exact pioO_ob_J1_charAt_3b067 hP hc h
    · intro x0 x1 σ h
      rw [oE_J0_checkIndex_df160]
      exact pioO_ob_J0_checkIndex_df160 hP hc h
    · intro x0 x1 σ h
      rw [oE_J15_checkIndex_7cf53]
      exact pioO_ob_J15_checkIndex_7cf53 hP hc h
    · intro x0 x1 x2 σ h
      rw [oE_J3_checkIndex_8e157]
      exact pioO_ob_J3_checkIndex_8e157 hP hc h
    · intro x0 σ h
      rw [oE_J0_length_8abf5]
      exact pioO_ob_J0_length_8abf5 hP hc h
    · intro x0 σ h
      rw [oE_J0_coder_7d493]
      exact pioO_ob_J0_coder_7d493 hP hc h
    · intro x0 x1 x2 σ h
      rw [oE_J0_substring_37a41]
      exact pioO_ob_J0_substring_37a41 hP hc h
    · intro x0 x1 x2 σ h
      rw [oE_J0_checkBoundsBeginEnd_23922]
      exact pioO_ob_J0_checkBoundsBeginEnd_23922 hP hc h
    · intro x0 x1 x2 x3 σ h
      rw [oE_J3_checkFromToIndex_8c36e]
      exact pioO_ob_J3_checkFromToIndex_8c36e hP hc h
    · intro x0 x1 x2 σ h
      rw [oE_J1_newString_b4f7a]
      exact pioO_ob_J1_newString_b4f7a hP hc h
    · intro x0 x1 x2 σ h
      rw [oE_J7_copyOfRange_39247]
      exact pioO_ob_J7_copyOfRange_39247 hP hc h
    · intro x0 x1 x2 σ h
      rw [oE_J7_copyOfRangeByte_39247]
      exact pioO_ob_J7_copyOfRangeByte_39247 hP hc h
    · intro x0 x1 σ h
      rw [oE_J7_checkLength_df160]
      exact pioO_ob_J7_checkLength_df160 hP hc h
    · intro x0 x1 x2 σ h
      rw [oE_J0_init_031fb]
      exact pioO_ob_J0_init_031fb hP hc h
    · intro x0 x1 σ h
      rw [oE_J0_equals_9ea2d]
      exact pioO_ob_J0_equals_9ea2d hP hc h
    · intro x0 x1 σ h
      rw [oE_J1_equals_b5fdf]
      exact pioO_ob_J1_equals_b5fdf hP hc h
    · intro x0 x1 σ h
      rw [oE_J0_indexOf_0f7a4]
      exact pioO_ob_J0_indexOf_0f7a4 hP hc h
    · intro x0 x1 x2 σ h
      rw [oE_J0_indexOf_7cf53]
      exact pioO_ob_J0_indexOf_7cf53 hP hc h
    · intro x0 x1 x2 x3 σ h
      rw [oE_J1_indexOf_4cfef]
      exact pioO_ob_J1_indexOf_4cfef hP hc h
    · intro x0 σ h
      rw [oE_J1_canEncode_9a6ad]
      exact pioO_ob_J1_canEncode_9a6ad hP hc h
    · intro x0 x1 x2 x3 σ h
      rw [oE_J1_indexOfChar_4cfef]
      exact pioO_ob_J1_indexOfChar_4cfef hP hc h
    · intro x0 σ h
      rw [oE_Jx4a65c_init_da8c8]
      exact pioO_ob_Jx4a65c_init_da8c8 hP hc h
    · intro x0 σ h
      rw [oE_Jxc12de_init_da8c8]
      exact pioO_ob_Jxc12de_init_da8c8 hP hc h
    · intro x0 σ h
      rw [oE_Jxa1e45_init_da8c8]
      exact pioO_ob_Jxa1e45_init_da8c8 hP hc h
    · intro x0 x1 σ h
      rw [oE_Jx4a65c_add_9ea2d]
      exact pioO_ob_Jx4a65c_add_9ea2d hP hc h
    · intro x0 x1 x2 x3 σ h
      rw [oE_Jx4a65c_add_72be8]
      exact pioO_ob_Jx4a65c_add_72be8 hP hc h
    · intro x0 σ h
      rw [oE_Jx4a65c_grow_d5877]
      exact pioO_ob_Jx4a65c_grow_d5877 hP hc h
    · intro x0 x1 σ h
      rw [oE_Jx4a65c_grow_92f84]
      exact pioO_ob_Jx4a65c_grow_92f84 hP hc h
    · intro x0 x1 x2 σ h
      rw [oE_J8_newLength_cabcc]
      exact pioO_ob_J8_newLength_cabcc hP hc h
    · intro x0 x1 σ h
      rw [oE_J7_copyOf_1904c]
      exact pioO_ob_J7_copyOf_1904c hP hc h
    · intro x0 x1 x2 σ h
      rw [oE_J7_copyOf_6403c]
      exact pioO_ob_J7_copyOf_6403c hP hc h
    · intro x0 x1 σ h
      rw [oE_Jx4a65c_get_915e3]
      exact pioO_ob_Jx4a65c_get_915e3 hP hc h
    · intro x0 x1 σ h
      rw [oE_Jx4a65c_elementData_915e3]
      exact pioO_ob_Jx4a65c_elementData_915e3 hP hc h
    · intro x0 σ h
      rw [oE_Jx4a65c_size_8abf5]
      exact pioO_ob_Jx4a65c_size_8abf5 hP hc h
    · intro x0 σ h
      rw [oE_Jx4a65c_clear_da8c8]
      exact pioO_ob_Jx4a65c_clear_da8c8 hP hc h
    · intro x0 x1 σ h
      rw [oE_J7_copyOf_59c91]
      exact pioO_ob_J7_copyOf_59c91 hP hc h
    · intro x0 x1 σ h
      rw [oE_J7_copyOf_c38d5]
      exact pioO_ob_J7_copyOf_c38d5 hP hc h
    · intro x0 x1 σ h
      rw [oE_J7_copyOf_9075b]
      exact pioO_ob_J7_copyOf_9075b hP hc h
    · intro x0 x1 σ h
      rw [oE_J7_fill_d0a16]
      exact pioO_ob_J7_fill_d0a16 hP hc h
    · intro x0 x1 σ h
      rw [oE_J7_fill_53178]
      exact pioO_ob_J7_fill_53178 hP hc h
    · intro x0 x1 σ h
      rw [oE_J9_floorDiv_f86c9]
      exact pioO_ob_J9_floorDiv_f86c9 hP hc h
    · intro x0 x1 σ h
      rw [oE_J9_floorMod_f86c9]
      exact pioO_ob_J9_floorMod_f86c9 hP hc h
end OPGO
