/-! what the methods that are called keep (made by wip/opigen.py) -/
/-- which fields are written -/
def wrlW : List (Nat × Nat) := [(1, 0), (1, 1), (1, 2), (2, 0), (2, 1), (2, 2), (2, 3), (2, 4), (2, 5), (2, 6), (2, 7), (2, 8), (2, 9), (3, 3), (3, 6), (3, 7), (3, 8), (3, 9), (4, 0), (4, 1), (4, 2), (4, 3), (4, 4), (4, 7), (4, 8), (4, 9), (4, 10), (4, 11), (4, 12), (4, 13), (4, 14), (6, 0), (6, 3), (6, 4), (6, 5), (6, 6), (6, 7), (7, 20), (8, 0), (8, 1), (8, 2), (8, 3), (8, 4), (10, 0), (10, 1), (10, 2), (10, 3), (11, 0), (11, 1), (11, 2), (11, 3), (14, 4), (14, 5)]
/-- P is kept by new cells and single writes -/
def iKptW (P : oSt → Prop) : Prop := (∀ σ y n, P σ → P (onew σ (.inl y) n)) ∧ (∀ σ k n, P σ → P (onew σ (.inr (k, odef k)) n)) ∧ (∀ σ a ci fs k v, P σ → σ.1 a = some (.inr (ci, fs)) → (ci, k) ∈ wrlW → wIv8 ci k v = true → P (oput σ a (.inr (ci, fs.set k v)))) ∧ (∀ σ a y y', P σ → σ.1 a = some (.inl y) → P (oput σ a (.inl y'))) ∧ ∀ n call κ x0 x1 σ, P σ → PIo P (ob_X2_makeRoom n call κ x0 x1 σ)
section PIBW
variable {P : oSt → Prop}
theorem PIoW_none : PIo P none := fun w h => by cases h
theorem PIoW_some {x : Option Value} {σ : oSt} (h : P σ) : PIo P (some (x, σ)) := fun w e => by
  injection e with e
  rw [← e]; exact h
theorem PIoW_gd {b : Bool} {r : oRs} (h : PIo P r) : PIo P (ogd b r) := by
  unfold ogd
  split
  · exact h
  · exact PIoW_none
theorem PIoW_ite {c : Prop} [Decidable c] {a b : oRs} (h : PIo P a) (g : PIo P b) : PIo P (if c then a else b) := by
  split
  · exact h
  · exact g
theorem PIoW_bn {α : Type} {x : Option α} {f : α → oRs} (h : ∀ a, PIo P (f a)) : PIo P (obn x f) := by
  unfold obn
  split
  · exact h _
  · exact PIoW_none
theorem PIoW_bs {x : Option oSt} {f : oSt → oRs} (h : ∀ s, x = some s → P s) (g : ∀ s, P s → PIo P (f s)) : PIo P (obn x f) := by
  unfold obn
  split
  · exact g _ (h _ rfl)
  · exact PIoW_none
theorem PIoW_pf (hP : iKptW P) {σ : oSt} {r : Option Nat} {ci k : Nat} {x : Value} {f : oSt → oRs} (h : P σ) (hw : (ci, k) ∈ wrlW) (hv : wIv8 ci k x = true) (g : ∀ s, P s → PIo P (f s)) : PIo P (obn (opf σ r ci k x) f) := PIoW_bs (fun s e => by
  unfold opf at e
  split at e
  · split at e
    · rename_i o e1
      split at e
      · rename_i c
        injection e with e
        rw [← e]
        obtain ⟨oi, ofs⟩ := o
        obtain ⟨c1, -⟩ := c
        have c1 : oi = ci := c1
        subst c1
        exact hP.2.2.1 σ _ oi ofs k x h e1 hw hv
      · cases e
    · cases e
  · cases e) g
theorem PIoW_si (hP : iKptW P) {σ : oSt} {r : Option Nat} {ty : FieldType} {i x : Int32} {f : oSt → oRs} (h : P σ) (g : ∀ s, P s → PIo P (f s)) : PIo P (obn (osi σ r ty i x) f) := PIoW_bs (fun s e => by
  unfold osi at e
  repeat' split at e
  all_goals first
    | (cases e; done)
    | (injection e with e; rw [← e]; exact hP.2.2.2.1 σ _ _ _ h (by assumption))) g
theorem PIoW_sj (hP : iKptW P) {σ : oSt} {r : Option Nat} {i : Int32} {x : Int64} {f : oSt → oRs} (h : P σ) (g : ∀ s, P s → PIo P (f s)) : PIo P (obn (osj σ r i x) f) := PIoW_bs (fun s e => by
  unfold osj at e
  repeat' split at e
  all_goals first
    | (cases e; done)
    | (injection e with e; rw [← e]; exact hP.2.2.2.1 σ _ _ _ h (by assumption))) g
theorem PIoW_sr (hP : iKptW P) {σ : oSt} {r : Option Nat} {i : Int32} {y : Option Nat} {f : oSt → oRs} (h : P σ) (g : ∀ s, P s → PIo P (f s)) : PIo P (obn (osr σ r i y) f) := PIoW_bs (fun s e => by
  unfold osr at e
  repeat' split at e
  all_goals first
    | (cases e; done)
    | (injection e with e; rw [← e]; exact hP.2.2.2.1 σ _ _ _ h (by assumption))) g
theorem PIoW_cy (hP : iKptW P) {σ : oSt} {r0 r1 : Option Nat} {sp dp n : Int32} {f : oSt → oRs} (h : P σ) (g : ∀ s, P s → PIo P (f s)) : PIo P (obn (ocy σ r0 sp r1 dp n) f) := PIoW_bs (fun s e => by
  unfold ocy at e
  repeat' split at e
  all_goals first
    | (cases e; done)
    | (injection e with e; rw [← e]; exact hP.2.2.2.1 σ _ _ _ h (by assumption))) g
theorem PIoW_na (hP : iKptW P) {σ : oSt} {y} {n : Nat} {f : oSt → oRs} (h : P σ) (g : ∀ s, P s → PIo P (f s)) : PIo P (olet (onew σ (.inl y) n) f) := g _ (hP.1 σ y n h)
theorem PIoW_no (hP : iKptW P) {σ : oSt} {k n : Nat} {f : oSt → oRs} (h : P σ) (g : ∀ s, P s → PIo P (f s)) : PIo P (olet (onew σ (.inr (k, odef k)) n) f) := g _ (hP.2.1 σ k n h)
theorem PIoW_cv {r : oRs} {f : oSt → oRs} (h : PIo P r) (g : ∀ s, P s → PIo P (f s)) : PIo P (ocv r f) := by
  unfold ocv
  split
  · exact g _ (h _ rfl)
  · exact PIoW_none
theorem PIoW_in {r : oRs} {f : Int32 → oSt → oRs} (h : PIo P r) (g : ∀ x s, P s → PIo P (f x s)) : PIo P (oin r f) := by
  unfold oin
  split
  · exact g _ _ (h _ rfl)
  · exact PIoW_none
theorem PIoW_rn {r : oRs} {f : Option Nat → oSt → oRs} (h : PIo P r) (g : ∀ x s, P s → PIo P (f x s)) : PIo P (orn r f) := by
  unfold orn
  split
  · exact g _ _ (h _ rfl)
  · exact g _ _ (h _ rfl)
  · exact PIoW_none
theorem PIoW_ln {r : oRs} {f : Int64 → oSt → oRs} (h : PIo P r) (g : ∀ x s, P s → PIo P (f x s)) : PIo P (oln' r f) := by
  unfold oln'
  split
  · exact g _ _ (h _ rfl)
  · exact PIoW_none
end PIBW
/-- what is called keeps P -/
def cQoW (P : oSt → Prop) (call : oCl) : Prop := (∀ (x0 : Option Nat) (x1 : Option Nat) (x2 : Option Nat) (x3 : Option Nat), ∀ σ, P σ → PIo P (call 0 [va_rf x0, va_rf x1, va_rf x2, va_rf x3] σ)) ∧ (∀ (x0 : Option Nat) (x1 : Int32), ∀ σ, P σ → PIo P (call 1 [va_rf x0, .int x1] σ)) ∧ (∀ (x0 : Option Nat) (x1 : Option Nat) (x2 : Option Nat), ∀ σ, P σ → PIo P (call 2 [va_rf x0, va_rf x1, va_rf x2] σ)) ∧ (∀ (x0 : Option Nat) (x1 : Option Nat) (x2 : Option Nat) (x3 : Option Nat), ∀ σ, P σ → PIo P (call 3 [va_rf x0, va_rf x1, va_rf x2, va_rf x3] σ)) ∧ (∀ (x0 : Option Nat) (x1 : Option Nat), ∀ σ, P σ → PIo P (call 4 [va_rf x0, va_rf x1] σ)) ∧ (∀ (x0 : Option Nat), ∀ σ, P σ → PIo P (call 5 [va_rf x0] σ)) ∧ (∀ (x0 : Option Nat), ∀ σ, P σ → PIo P (call 6 [va_rf x0] σ)) ∧ (∀ (x0 : Option Nat) (x1 : Option Nat) (x2 : Int32), ∀ σ, P σ → PIo P (call 7 [va_rf x0, va_rf x1, .int x2] σ)) ∧ (∀ (x0 : Option Nat), ∀ σ, P σ → PIo P (call 8 [va_rf x0] σ)) ∧ (∀ (x0 : Option Nat) (x1 : Option Nat), ∀ σ, P σ → PIo P (call 9 [va_rf x0, va_rf x1] σ)) ∧ (∀ (x0 : Option Nat) (x1 : Option Nat) (x2 : Int32), ∀ σ, P σ → PIo P (call 10 [va_rf x0, va_rf x1, .int x2] σ)) ∧ (∀ (x0 : Option Nat) (x1 : Int32) (x2 : Int64), ∀ σ, P σ → PIo P (call 11 [va_rf x0, .int x1, .long x2] σ)) ∧ (∀ (x0 : Option Nat) (x1 : Option Nat) (x2 : Option Nat) (x3 : Option Nat), ∀ σ, P σ → PIo P (call 12 [va_rf x0, va_rf x1, va_rf x2, va_rf x3] σ)) ∧ (∀ (x0 : Option Nat) (x1 : Option Nat) (x2 : Int32) (x3 : Option Nat), ∀ σ, P σ → PIo P (call 13 [va_rf x0, va_rf x1, .int x2, va_rf x3] σ)) ∧ (∀ (x0 : Option Nat), ∀ σ, P σ → PIo P (call 14 [va_rf x0] σ)) ∧ (∀ (x0 : Option Nat) (x1 : Int32), ∀ σ, P σ → PIo P (call 15 [va_rf x0, .int x1] σ)) ∧ (∀ (x0 : Option Nat) (x1 : Int32) (x2 : Option Nat), ∀ σ, P σ → PIo P (call 16 [va_rf x0, .int x1, va_rf x2] σ)) ∧ (∀ (x0 : Int32) (x1 : Option Nat), ∀ σ, P σ → PIo P (call 17 [.int x0, va_rf x1] σ)) ∧ (∀ (x0 : Option Nat) (x1 : Option Nat), ∀ σ, P σ → PIo P (call 18 [va_rf x0, va_rf x1] σ)) ∧ (∀ (x0 : Option Nat), ∀ σ, P σ → PIo P (call 19 [va_rf x0] σ)) ∧ (∀ (x0 : Option Nat), ∀ σ, P σ → PIo P (call 20 [va_rf x0] σ)) ∧ (∀ (x0 : Option Nat) (x1 : Int32), ∀ σ, P σ → PIo P (call 21 [va_rf x0, .int x1] σ)) ∧ (∀ (x0 : Option Nat) (x1 : Int32), ∀ σ, P σ → PIo P (call 22 [va_rf x0, .int x1] σ)) ∧ (∀ (x0 : Option Nat) (x1 : Int32), ∀ σ, P σ → PIo P (call 23 [va_rf x0, .int x1] σ)) ∧ (∀ (x0 : Option Nat) (x1 : Int32), ∀ σ, P σ → PIo P (call 24 [va_rf x0, .int x1] σ)) ∧ (∀ (x0 : Option Nat) (x1 : Option Nat) (x2 : Int32), ∀ σ, P σ → PIo P (call 25 [va_rf x0, va_rf x1, .int x2] σ)) ∧ (∀ (x0 : Option Nat) (x1 : Option Nat), ∀ σ, P σ → PIo P (call 26 [va_rf x0, va_rf x1] σ)) ∧ (∀ (x0 : Option Nat) (x1 : Int32) (x2 : Option Nat) (x3 : Int32), ∀ σ, P σ → PIo P (call 27 [va_rf x0, .int x1, va_rf x2, .int x3] σ)) ∧ (∀ (x0 : Option Nat) (x1 : Int32) (x2 : Option Nat) (x3 : Option Nat), ∀ σ, P σ → PIo P (call 28 [va_rf x0, .int x1, va_rf x2, va_rf x3] σ)) ∧ (∀ (x0 : Option Nat) (x1 : Option Nat) (x2 : Option Nat) (x3 : Option Nat), ∀ σ, P σ → PIo P (call 29 [va_rf x0, va_rf x1, va_rf x2, va_rf x3] σ)) ∧ (∀ (x0 : Option Nat) (x1 : Option Nat) (x2 : Option Nat), ∀ σ, P σ → PIo P (call 30 [va_rf x0, va_rf x1, va_rf x2] σ)) ∧ (∀ (x0 : Option Nat) (x1 : Option Nat) (x2 : Option Nat), ∀ σ, P σ → PIo P (call 31 [va_rf x0, va_rf x1, va_rf x2] σ)) ∧ (∀ (x0 : Option Nat) (x1 : Option Nat) (x2 : Option Nat), ∀ σ, P σ → PIo P (call 32 [va_rf x0, va_rf x1, va_rf x2] σ)) ∧ (∀ (x0 : Option Nat) (x1 : Option Nat) (x2 : Option Nat), ∀ σ, P σ → PIo P (call 33 [va_rf x0, va_rf x1, va_rf x2] σ)) ∧ (∀ (x0 : Option Nat) (x1 : Option Nat) (x2 : Option Nat), ∀ σ, P σ → PIo P (call 34 [va_rf x0, va_rf x1, va_rf x2] σ)) ∧ (∀ (x0 : Option Nat) (x1 : Option Nat) (x2 : Option Nat), ∀ σ, P σ → PIo P (call 35 [va_rf x0, va_rf x1, va_rf x2] σ)) ∧ (∀ (x0 : Option Nat) (x1 : Option Nat) (x2 : Option Nat), ∀ σ, P σ → PIo P (call 36 [va_rf x0, va_rf x1, va_rf x2] σ)) ∧ (∀ (x0 : Option Nat), ∀ σ, P σ → PIo P (call 37 [va_rf x0] σ)) ∧ (∀ (x0 : Option Nat), ∀ σ, P σ → PIo P (call 38 [va_rf x0] σ)) ∧ (∀ (x0 : Option Nat), ∀ σ, P σ → PIo P (call 39 [va_rf x0] σ)) ∧ (∀ (x0 : Option Nat) (x1 : Int32), ∀ σ, P σ → PIo P (call 40 [va_rf x0, .int x1] σ)) ∧ (∀ (x0 : Option Nat) (x1 : Int32), ∀ σ, P σ → PIo P (call 41 [va_rf x0, .int x1] σ)) ∧ (∀ (x0 : Option Nat) (x1 : Int32) (x2 : Int32) (x3 : Int64), ∀ σ, P σ → PIo P (call 42 [va_rf x0, .int x1, .int x2, .long x3] σ)) ∧ (∀ (x0 : Option Nat), ∀ σ, P σ → PIo P (call 43 [va_rf x0] σ)) ∧ (∀ (x0 : Option Nat) (x1 : Int32) (x2 : Int32) (x3 : Int64), ∀ σ, P σ → PIo P (call 44 [va_rf x0, .int x1, .int x2, .long x3] σ)) ∧ (∀ (x0 : Option Nat) (x1 : Option Nat), ∀ σ, P σ → PIo P (call 45 [va_rf x0, va_rf x1] σ)) ∧ (∀ (x0 : Option Nat) (x1 : Int32), ∀ σ, P σ → PIo P (call 46 [va_rf x0, .int x1] σ)) ∧ (∀ (x0 : Option Nat) (x1 : Int32), ∀ σ, P σ → PIo P (call 47 [va_rf x0, .int x1] σ)) ∧ (∀ (x0 : Option Nat) (x1 : Int32) (x2 : Int32) (x3 : Int64), ∀ σ, P σ → PIo P (call 48 [va_rf x0, .int x1, .int x2, .long x3] σ)) ∧ (∀ (x0 : Option Nat) (x1 : Option Nat) (x2 : Int32) (x3 : Int32), ∀ σ, P σ → PIo P (call 49 [va_rf x0, va_rf x1, .int x2, .int x3] σ)) ∧ (∀ (x0 : Option Nat) (x1 : Option Nat) (x2 : Int32), ∀ σ, P σ → PIo P (call 50 [va_rf x0, va_rf x1, .int x2] σ)) ∧ (∀ (x0 : Option Nat) (x1 : Option Nat) (x2 : Int32), ∀ σ, P σ → PIo P (call 51 [va_rf x0, va_rf x1, .int x2] σ)) ∧ (∀ (x0 : Option Nat) (x1 : Option Nat) (x2 : Int32), ∀ σ, P σ → PIo P (call 52 [va_rf x0, va_rf x1, .int x2] σ)) ∧ (∀ (x0 : Int32), ∀ σ, P σ → PIo P (call 53 [.int x0] σ)) ∧ (∀ (x0 : Option Nat) (x1 : Option Nat) (x2 : Int32) (x3 : Int32), ∀ σ, P σ → PIo P (call 54 [va_rf x0, va_rf x1, .int x2, .int x3] σ)) ∧ (∀ (x0 : Option Nat) (x1 : Option Nat) (x2 : Int32), ∀ σ, P σ → PIo P (call 55 [va_rf x0, va_rf x1, .int x2] σ)) ∧ (∀ (x0 : Option Nat) (x1 : Option Nat) (x2 : Int32), ∀ σ, P σ → PIo P (call 56 [va_rf x0, va_rf x1, .int x2] σ)) ∧ (∀ (x0 : Option Nat) (x1 : Option Nat) (x2 : Option Nat), ∀ σ, P σ → PIo P (call 57 [va_rf x0, va_rf x1, va_rf x2] σ)) ∧ (∀ (x0 : Option Nat), ∀ σ, P σ → PIo P (call 58 [va_rf x0] σ)) ∧ (∀ (x0 : Option Nat), ∀ σ, P σ → PIo P (call 59 [va_rf x0] σ)) ∧ (∀ (x0 : Option Nat), ∀ σ, P σ → PIo P (call 60 [va_rf x0] σ)) ∧ (∀ (x0 : Option Nat), ∀ σ, P σ → PIo P (call 61 [va_rf x0] σ)) ∧ (∀ (x0 : Option Nat), ∀ σ, P σ → PIo P (call 62 [va_rf x0] σ)) ∧ (∀ (x0 : Option Nat) (x1 : Int32), ∀ σ, P σ → PIo P (call 63 [va_rf x0, .int x1] σ)) ∧ (∀ (x0 : Option Nat) (x1 : Option Nat) (x2 : Option Nat), ∀ σ, P σ → PIo P (call 64 [va_rf x0, va_rf x1, va_rf x2] σ)) ∧ (∀ (x0 : Option Nat), ∀ σ, P σ → PIo P (call 65 [va_rf x0] σ)) ∧ (∀ (x0 : Option Nat) (x1 : Int32), ∀ σ, P σ → PIo P (call 66 [va_rf x0, .int x1] σ)) ∧ (∀ (x0 : Option Nat) (x1 : Option Nat) (x2 : Option Nat) (x3 : Option Nat), ∀ σ, P σ → PIo P (call 67 [va_rf x0, va_rf x1, va_rf x2, va_rf x3] σ)) ∧ (∀ (x0 : Option Nat), ∀ σ, P σ → PIo P (call 68 [va_rf x0] σ)) ∧ (∀ (x0 : Option Nat), ∀ σ, P σ → PIo P (call 179 [va_rf x0] σ)) ∧ (∀ (x0 : Int32) (x1 : Int32), ∀ σ, P σ → PIo P (call 205 [.int x0, .int x1] σ)) ∧ (∀ (x0 : Int32) (x1 : Int32) (x2 : Option Nat), ∀ σ, P σ → PIo P (call 206 [.int x0, .int x1, va_rf x2] σ)) ∧ (∀ (x0 : Option Nat), ∀ σ, P σ → PIo P (call 224 [va_rf x0] σ)) ∧ (∀ (x0 : Option Nat), ∀ σ, P σ → PIo P (call 225 [va_rf x0] σ)) ∧ (∀ (x0 : Option Nat), ∀ σ, P σ → PIo P (call 226 [va_rf x0] σ)) ∧ (∀ (x0 : Option Nat) (x1 : Option Nat), ∀ σ, P σ → PIo P (call 227 [va_rf x0, va_rf x1] σ)) ∧ (∀ (x0 : Option Nat) (x1 : Option Nat) (x2 : Option Nat) (x3 : Int32), ∀ σ, P σ → PIo P (call 228 [va_rf x0, va_rf x1, va_rf x2, .int x3] σ)) ∧ (∀ (x0 : Option Nat), ∀ σ, P σ → PIo P (call 229 [va_rf x0] σ)) ∧ (∀ (x0 : Option Nat) (x1 : Int32), ∀ σ, P σ → PIo P (call 230 [va_rf x0, .int x1] σ)) ∧ (∀ (x0 : Int32) (x1 : Int32) (x2 : Int32), ∀ σ, P σ → PIo P (call 231 [.int x0, .int x1, .int x2] σ)) ∧ (∀ (x0 : Option Nat) (x1 : Int32), ∀ σ, P σ → PIo P (call 232 [va_rf x0, .int x1] σ)) ∧ (∀ (x0 : Option Nat) (x1 : Int32) (x2 : Option Nat), ∀ σ, P σ → PIo P (call 233 [va_rf x0, .int x1, va_rf x2] σ)) ∧ (∀ (x0 : Option Nat) (x1 : Int32), ∀ σ, P σ → PIo P (call 234 [va_rf x0, .int x1] σ)) ∧ (∀ (x0 : Option Nat) (x1 : Int32), ∀ σ, P σ → PIo P (call 235 [va_rf x0, .int x1] σ)) ∧ (∀ (x0 : Option Nat), ∀ σ, P σ → PIo P (call 236 [va_rf x0] σ)) ∧ (∀ (x0 : Option Nat) (x1 : Int32), ∀ σ, P σ → PIo P (call 238 [va_rf x0, .int x1] σ)) ∧ (∀ (x0 : Option Nat) (x1 : Int32), ∀ σ, P σ → PIo P (call 239 [va_rf x0, .int x1] σ))
theorem cQoW.c0 {P : oSt → Prop} {call : oCl} (hc : cQoW P call) (x0 : Option Nat) (x1 : Option Nat) (x2 : Option Nat) (x3 : Option Nat) (σ : oSt) (h : P σ) : PIo P (call 0 [va_rf x0, va_rf x1, va_rf x2, va_rf x3] σ) := hc.1 x0 x1 x2 x3 σ h
theorem cQoW.c1 {P : oSt → Prop} {call : oCl} (hc : cQoW P call) (x0 : Option Nat) (x1 : Int32) (σ : oSt) (h : P σ) : PIo P (call 1 [va_rf x0, .int x1] σ) := hc.2.1 x0 x1 σ h
theorem cQoW.c2 {P : oSt → Prop} {call : oCl} (hc : cQoW P call) (x0 : Option Nat) (x1 : Option Nat) (x2 : Option Nat) (σ : oSt) (h : P σ) : PIo P (call 2 [va_rf x0, va_rf x1, va_rf x2] σ) := hc.2.2.1 x0 x1 x2 σ h
theorem cQoW.c3 {P : oSt → Prop} {call : oCl} (hc : cQoW P call) (x0 : Option Nat) (x1 : Option Nat) (x2 : Option Nat) (x3 : Option Nat) (σ : oSt) (h : P σ) : PIo P (call 3 [va_rf x0, va_rf x1, va_rf x2, va_rf x3] σ) := hc.2.2.2.1 x0 x1 x2 x3 σ h
theorem cQoW.c4 {P : oSt → Prop} {call : oCl} (hc : cQoW P call) (x0 : Option Nat) (x1 : Option Nat) (σ : oSt) (h : P σ) : PIo P (call 4 [va_rf x0, va_rf x1] σ) := hc.2.2.2.2.1 x0 x1 σ h
theorem cQoW.c5 {P : oSt → Prop} {call : oCl} (hc : cQoW P call) (x0 : Option Nat) (σ : oSt) (h : P σ) : PIo P (call 5 [va_rf x0] σ) := hc.2.2.2.2.2.1 x0 σ h
theorem cQoW.c6 {P : oSt → Prop} {call : oCl} (hc : cQoW P call) (x0 : Option Nat) (σ : oSt) (h : P σ) : PIo P (call 6 [va_rf x0] σ) := hc.2.2.2.2.2.2.1 x0 σ h
theorem cQoW.c7 {P : oSt → Prop} {call : oCl} (hc : cQoW P call) (x0 : Option Nat) (x1 : Option Nat) (x2 : Int32) (σ : oSt) (h : P σ) : PIo P (call 7 [va_rf x0, va_rf x1, .int x2] σ) := hc.2.2.2.2.2.2.2.1 x0 x1 x2 σ h
theorem cQoW.c8 {P : oSt → Prop} {call : oCl} (hc : cQoW P call) (x0 : Option Nat) (σ : oSt) (h : P σ) : PIo P (call 8 [va_rf x0] σ) := hc.2.2.2.2.2.2.2.2.1 x0 σ h
theorem cQoW.c9 {P : oSt → Prop} {call : oCl} (hc : cQoW P call) (x0 : Option Nat) (x1 : Option Nat) (σ : oSt) (h : P σ) : PIo P (call 9 [va_rf x0, va_rf x1] σ) := hc.2.2.2.2.2.2.2.2.2.1 x0 x1 σ h
theorem cQoW.c10 {P : oSt → Prop} {call : oCl} (hc : cQoW P call) (x0 : Option Nat) (x1 : Option Nat) (x2 : Int32) (σ : oSt) (h : P σ) : PIo P (call 10 [va_rf x0, va_rf x1, .int x2] σ) := hc.2.2.2.2.2.2.2.2.2.2.1 x0 x1 x2 σ h
theorem cQoW.c11 {P : oSt → Prop} {call : oCl} (hc : cQoW P call) (x0 : Option Nat) (x1 : Int32) (x2 : Int64) (σ : oSt) (h : P σ) : PIo P (call 11 [va_rf x0, .int x1, .long x2] σ) := hc.2.2.2.2.2.2.2.2.2.2.2.1 x0 x1 x2 σ h
theorem cQoW.c12 {P : oSt → Prop} {call : oCl} (hc : cQoW P call) (x0 : Option Nat) (x1 : Option Nat) (x2 : Option Nat) (x3 : Option Nat) (σ : oSt) (h : P σ) : PIo P (call 12 [va_rf x0, va_rf x1, va_rf x2, va_rf x3] σ) := hc.2.2.2.2.2.2.2.2.2.2.2.2.1 x0 x1 x2 x3 σ h
theorem cQoW.c13 {P : oSt → Prop} {call : oCl} (hc : cQoW P call) (x0 : Option Nat) (x1 : Option Nat) (x2 : Int32) (x3 : Option Nat) (σ : oSt) (h : P σ) : PIo P (call 13 [va_rf x0, va_rf x1, .int x2, va_rf x3] σ) := hc.2.2.2.2.2.2.2.2.2.2.2.2.2.1 x0 x1 x2 x3 σ h
theorem cQoW.c14 {P : oSt → Prop} {call : oCl} (hc : cQoW P call) (x0 : Option Nat) (σ : oSt) (h : P σ) : PIo P (call 14 [va_rf x0] σ) := hc.2.2.2.2.2.2.2.2.2.2.2.2.2.2.1 x0 σ h
theorem cQoW.c15 {P : oSt → Prop} {call : oCl} (hc : cQoW P call) (x0 : Option Nat) (x1 : Int32) (σ : oSt) (h : P σ) : PIo P (call 15 [va_rf x0, .int x1] σ) := hc.2.2.2.2.2.2.2.2.2.2.2.2.2.2.2.1 x0 x1 σ h
theorem cQoW.c16 {P : oSt → Prop} {call : oCl} (hc : cQoW P call) (x0 : Option Nat) (x1 : Int32) (x2 : Option Nat) (σ : oSt) (h : P σ) : PIo P (call 16 [va_rf x0, .int x1, va_rf x2] σ) := hc.2.2.2.2.2.2.2.2.2.2.2.2.2.2.2.2.1 x0 x1 x2 σ h
theorem cQoW.c17 {P : oSt → Prop} {call : oCl} (hc : cQoW P call) (x0 : Int32) (x1 : Option Nat) (σ : oSt) (h : P σ) : PIo P (call 17 [.int x0, va_rf x1] σ) := hc.2.2.2.2.2.2.2.2.2.2.2.2.2.2.2.2.2.1 x0 x1 σ h
theorem cQoW.c18 {P : oSt → Prop} {call : oCl} (hc : cQoW P call) (x0 : Option Nat) (x1 : Option Nat) (σ : oSt) (h : P σ) : PIo P (call 18 [va_rf x0, va_rf x1] σ) := hc.2.2.2.2.2.2.2.2.2.2.2.2.2.2.2.2.2.2.1 x0 x1 σ h
theorem cQoW.c19 {P : oSt → Prop} {call : oCl} (hc : cQoW P call) (x0 : Option Nat) (σ : oSt) (h : P σ) : PIo P (call 19 [va_rf x0] σ) := hc.2.2.2.2.2.2.2.2.2.2.2.2.2.2.2.2.2.2.2.1 x0 σ h
theorem cQoW.c20 {P : oSt → Prop} {call : oCl} (hc : cQoW P call) (x0 : Option Nat) (σ : oSt) (h : P σ) : PIo P (call 20 [va_rf x0] σ) := hc.2.2.2.2.2.2.2.2.2.2.2.2.2.2.2.2.2.2.2.2.1 x0 σ h
theorem cQoW.c21 {P : oSt → Prop} {call : oCl} (hc : cQoW P call) (x0 : Option Nat) (x1 : Int32) (σ : oSt) (h : P σ) : PIo P (call 21 [va_rf x0, .int x1] σ) := hc.2.2.2.2.2.2.2.2.2.2.2.2.2.2.2.2.2.2.2.2.2.1 x0 x1 σ h
theorem cQoW.c22 {P : oSt → Prop} {call : oCl} (hc : cQoW P call) (x0 : Option Nat) (x1 : Int32) (σ : oSt) (h : P σ) : PIo P (call 22 [va_rf x0, .int x1] σ) := hc.2.2.2.2.2.2.2.2.2.2.2.2.2.2.2.2.2.2.2.2.2.2.1 x0 x1 σ h
theorem cQoW.c23 {P : oSt → Prop} {call : oCl} (hc : cQoW P call) (x0 : Option Nat) (x1 : Int32) (σ : oSt) (h : P σ) : PIo P (call 23 [va_rf x0, .int x1] σ) := hc.2.2.2.2.2.2.2.2.2.2.2.2.2.2.2.2.2.2.2.2.2.2.2.1 x0 x1 σ h
theorem cQoW.c24 {P : oSt → Prop} {call : oCl} (hc : cQoW P call) (x0 : Option Nat) (x1 : Int32) (σ : oSt) (h : P σ) : PIo P (call 24 [va_rf x0, .int x1] σ) := hc.2.2.2.2.2.2.2.2.2.2.2.2.2.2.2.2.2.2.2.2.2.2.2.2.1 x0 x1 σ h
theorem cQoW.c25 {P : oSt → Prop} {call : oCl} (hc : cQoW P call) (x0 : Option Nat) (x1 : Option Nat) (x2 : Int32) (σ : oSt) (h : P σ) : PIo P (call 25 [va_rf x0, va_rf x1, .int x2] σ) := hc.2.2.2.2.2.2.2.2.2.2.2.2.2.2.2.2.2.2.2.2.2.2.2.2.2.1 x0 x1 x2 σ h
theorem cQoW.c26 {P : oSt → Prop} {call : oCl} (hc : cQoW P call) (x0 : Option Nat) (x1 : Option Nat) (σ : oSt) (h : P σ) : PIo P (call 26 [va_rf x0, va_rf x1] σ) := hc.2.2.2.2.2.2.2.2.2.2.2.2.2.2.2.2.2.2.2.2.2.2.2.2.2.2.1 x0 x1 σ h
theorem cQoW.c27 {P : oSt → Prop} {call : oCl} (hc : cQoW P call) (x0 : Option Nat) (x1 : Int32) (x2 : Option Nat) (x3 : Int32) (σ : oSt) (h : P σ) : PIo P (call 27 [va_rf x0, .int x1, va_rf x2, .int x3] σ) := hc.2.2.2.2.2.2.2.2.2.2.2.2.2.2.2.2.2.2.2.2.2.2.2.2.2.2.2.1 x0 x1 x2 x3 σ h
theorem cQoW.c28 {P : oSt → Prop} {call : oCl} (hc : cQoW P call) (x0 : Option Nat) (x1 : Int32) (x2 : Option Nat) (x3 : Option Nat) (σ : oSt) (h : P σ) : PIo P (call 28 [va_rf x0, .int x1, va_rf x2, va_rf x3] σ) := hc.2.2.2.2.2.2.2.2.2.2.2.2.2.2.2.2.2.2.2.2.2.2.2.2.2.2.2.2.1 x0 x1 x2 x3 σ h
theorem cQoW.c29 {P : oSt → Prop} {call : oCl} (hc : cQoW P call) (x0 : Option Nat) (x1 : Option Nat) (x2 : Option Nat) (x3 : Option Nat) (σ : oSt) (h : P σ) : PIo P (call 29 [va_rf x0, va_rf x1, va_rf x2, va_rf x3] σ) := hc.2.2.2.2.2.2.2.2.2.2.2.2.2.2.2.2.2.2.2.2.2.2.2.2.2.2.2.2.2.1 x0 x1 x2 x3 σ h
theorem cQoW.c30 {P : oSt → Prop} {call : oCl} (hc : cQoW P call) (x0 : Option Nat) (x1 : Option Nat) (x2 : Option Nat) (σ : oSt) (h : P σ) : PIo P (call 30 [va_rf x0, va_rf x1, va_rf x2] σ) := hc.2.2.2.2.2.2.2.2.2.2.2.2.2.2.2.2.2.2.2.2.2.2.2.2.2.2.2.2.2.2.1 x0 x1 x2 σ h
theorem cQoW.c31 {P : oSt → Prop} {call : oCl} (hc : cQoW P call) (x0 : Option Nat) (x1 : Option Nat) (x2 : Option Nat) (σ : oSt) (h : P σ) : PIo P (call 31 [va_rf x0, va_rf x1, va_rf x2] σ) := hc.2.2.2.2.2.2.2.2.2.2.2.2.2.2.2.2.2.2.2.2.2.2.2.2.2.2.2.2.2.2.2.1 x0 x1 x2 σ h
theorem cQoW.c32 {P : oSt → Prop} {call : oCl} (hc : cQoW P call) (x0 : Option Nat) (x1 : Option Nat) (x2 : Option Nat) (σ : oSt) (h : P σ) : PIo P (call 32 [va_rf x0, va_rf x1, va_rf x2] σ) := hc.2.2.2.2.2.2.2.2.2.2.2.2.2.2.2.2.2.2.2.2.2.2.2.2.2.2.2.2.2.2.2.2.1 x0 x1 x2 σ h
theorem cQoW.c33 {P : oSt → Prop} {call : oCl} (hc : cQoW P call) (x0 : Option Nat) (x1 : Option Nat) (x2 : Option Nat) (σ : oSt) (h : P σ) : PIo P (call 33 [va_rf x0, va_rf x1, va_rf x2] σ) := hc.2.2.2.2.2.2.2.2.2.2.2.2.2.2.2.2.2.2.2.2.2.2.2.2.2.2.2.2.2.2.2.2.2.1 x0 x1 x2 σ h
theorem cQoW.c34 {P : oSt → Prop} {call : oCl} (hc : cQoW P call) (x0 : Option Nat) (x1 : Option Nat) (x2 : Option Nat) (σ : oSt) (h : P σ) : PIo P (call 34 [va_rf x0, va_rf x1, va_rf x2] σ) := hc.2.2.2.2.2.2.2.2.2.2.2.2.2.2.2.2.2.2.2.2.2.2.2.2.2.2.2.2.2.2.2.2.2.2.1 x0 x1 x2 σ h
theorem cQoW.c35 {P : oSt → Prop} {call : oCl} (hc : cQoW P call) (x0 : Option Nat) (x1 : Option Nat) (x2 : Option Nat) (σ : oSt) (h : P σ) : PIo P (call 35 [va_rf x0, va_rf x1, va_rf x2] σ) := hc.2.2.2.2.2.2.2.2.2.2.2.2.2.2.2.2.2.2.2.2.2.2.2.2.2.2.2.2.2.2.2.2.2.2.2.1 x0 x1 x2 σ h
theorem cQoW.c36 {P : oSt → Prop} {call : oCl} (hc : cQoW P call) (x0 : Option Nat) (x1 : Option Nat) (x2 : Option Nat) (σ : oSt) (h : P σ) : PIo P (call 36 [va_rf x0, va_rf x1, va_rf x2] σ) := hc.2.2.2.2.2.2.2.2.2.2.2.2.2.2.2.2.2.2.2.2.2.2.2.2.2.2.2.2.2.2.2.2.2.2.2.2.1 x0 x1 x2 σ h
theorem cQoW.c37 {P : oSt → Prop} {call : oCl} (hc : cQoW P call) (x0 : Option Nat) (σ : oSt) (h : P σ) : PIo P (call 37 [va_rf x0] σ) := hc.2.2.2.2.2.2.2.2.2.2.2.2.2.2.2.2.2.2.2.2.2.2.2.2.2.2.2.2.2.2.2.2.2.2.2.2.2.1 x0 σ h
theorem cQoW.c38 {P : oSt → Prop} {call : oCl} (hc : cQoW P call) (x0 : Option Nat) (σ : oSt) (h : P σ) : PIo P (call 38 [va_rf x0] σ) := hc.2.2.2.2.2.2.2.2.2.2.2.2.2.2.2.2.2.2.2.2.2.2.2.2.2.2.2.2.2.2.2.2.2.2.2.2.2.2.1 x0 σ h
theorem cQoW.c39 {P : oSt → Prop} {call : oCl} (hc : cQoW P call) (x0 : Option Nat) (σ : oSt) (h : P σ) : PIo P (call 39 [va_rf x0] σ) := hc.2.2.2.2.2.2.2.2.2.2.2.2.2.2.2.2.2.2.2.2.2.2.2.2.2.2.2.2.2.2.2.2.2.2.2.2.2.2.2.1 x0 σ h
theorem cQoW.c40 {P : oSt → Prop} {call : oCl} (hc : cQoW P call) (x0 : Option Nat) (x1 : Int32) (σ : oSt) (h : P σ) : PIo P (call 40 [va_rf x0, .int x1] σ) := hc.2.2.2.2.2.2.2.2.2.2.2.2.2.2.2.2.2.2.2.2.2.2.2.2.2.2.2.2.2.2.2.2.2.2.2.2.2.2.2.2.1 x0 x1 σ h
theorem cQoW.c41 {P : oSt → Prop} {call : oCl} (hc : cQoW P call) (x0 : Option Nat) (x1 : Int32) (σ : oSt) (h : P σ) : PIo P (call 41 [va_rf x0, .int x1] σ) := hc.2.2.2.2.2.2.2.2.2.2.2.2.2.2.2.2.2.2.2.2.2.2.2.2.2.2.2.2.2.2.2.2.2.2.2.2.2.2.2.2.2.1 x0 x1 σ h
theorem cQoW.c42 {P : oSt → Prop} {call : oCl} (hc : cQoW P call) (x0 : Option Nat) (x1 : Int32) (x2 : Int32) (x3 : Int64) (σ : oSt) (h : P σ) : PIo P (call 42 [va_rf x0, .int x1, .int x2, .long x3] σ) := hc.2.2.2.2.2.2.2.2.2.2.2.2.2.2.2.2.2.2.2.2.2.2.2.2.2.2.2.2.2.2.2.2.2.2.2.2.2.2.2.2.2.2.1 x0 x1 x2 x3 σ h
theorem cQoW.c43 {P : oSt → Prop} {call : oCl} (hc : cQoW P call) (x0 : Option Nat) (σ : oSt) (h : P σ) : PIo P (call 43 [va_rf x0] σ) := hc.2.2.2.2.2.2.2.2.2.2.2.2.2.2.2.2.2.2.2.2.2.2.2.2.2.2.2.2.2.2.2.2.2.2.2.2.2.2.2.2.2.2.2.1 x0 σ h
theorem cQoW.c44 {P : oSt → Prop} {call : oCl} (hc : cQoW P call) (x0 : Option Nat) (x1 : Int32) (x2 : Int32) (x3 : Int64) (σ : oSt) (h : P σ) : PIo P (call 44 [va_rf x0, .int x1, .int x2, .long x3] σ) := hc.2.2.2.2.2.2.2.2.2.2.2.2.2.2.2.2.2.2.2.2.2.2.2.2.2.2.2.2.2.2.2.2.2.2.2.2.2.2.2.2.2.2.2.2.1 x0 x1 x2 x3 σ h
theorem cQoW.c45 {P : oSt → Prop} {call : oCl} (hc : cQoW P call) (x0 : Option Nat) (x1 : Option Nat) (σ : oSt) (h : P σ) : PIo P (call 45 [va_rf x0, va_rf x1] σ) := hc.2.2.2.2.2.2.2.2.2.2.2.2.2.2.2.2.2.2.2.2.2.2.2.2.2.2.2.2.2.2.2.2.2.2.2.2.2.2.2.2.2.2.2.2.2.1 x0 x1 σ h
theorem cQoW.c46 {P : oSt → Prop} {call : oCl} (hc : cQoW P call) (x0 : Option Nat) (x1 : Int32) (σ : oSt) (h : P σ) : PIo P (call 46 [va_rf x0, .int x1] σ) := hc.2.2.2.2.2.2.2.2.2.2.2.2.2.2.2.2.2.2.2.2.2.2.2.2.2.2.2.2.2.2.2.2.2.2.2.2.2.2.2.2.2.2.2.2.2.2.1 x0 x1 σ h
theorem cQoW.c47 {P : oSt → Prop} {call : oCl} (hc : cQoW P call) (x0 : Option Nat) (x1 : Int32) (σ : oSt) (h : P σ) : PIo P (call 47 [va_rf x0, .int x1] σ) := hc.2.2.2.2.2.2.2.2.2.2.2.2.2.2.2.2.2.2.2.2.2.2.2.2.2.2.2.2.2.2.2.2.2.2.2.2.2.2.2.2.2.2.2.2.2.2.2.1 x0 x1 σ h
theorem cQoW.c48 {P : oSt → Prop} {call : oCl} (hc : cQoW P call) (x0 : Option Nat) (x1 : Int32) (x2 : Int32) (x3 : Int64) (σ : oSt) (h : P σ) : PIo P (call 48 [va_rf x0, .int x1, .int x2, .long x3] σ) := hc.2.2.2.2.2.2.2.2.2.2.2.2.2.2.2.2.2.2.2.2.2.2.2.2.2.2.2.2.2.2.2.2.2.2.2.2.2.2.2.2.2.2.2.2.2.2.2.2.1 x0 x1 x2 x3 σ h
theorem cQoW.c49 {P : oSt → Prop} {call : oCl} (hc : cQoW P call) (x0 : Option Nat) (x1 : Option Nat) (x2 : Int32) (x3 : Int32) (σ : oSt) (h : P σ) : PIo P (call 49 [va_rf x0, va_rf x1, .int x2, .int x3] σ) := hc.2.2.2.2.2.2.2.2.2.2.2.2.2.2.2.2.2.2.2.2.2.2.2.2.2.2.2.2.2.2.2.2.2.2.2.2.2.2.2.2.2.2.2.2.2.2.2.2.2.1 x0 x1 x2 x3 σ h
theorem cQoW.c50 {P : oSt → Prop} {call : oCl} (hc : cQoW P call) (x0 : Option Nat) (x1 : Option Nat) (x2 : Int32) (σ : oSt) (h : P σ) : PIo P (call 50 [va_rf x0, va_rf x1, .int x2] σ) := hc.2.2.2.2.2.2.2.2.2.2.2.2.2.2.2.2.2.2.2.2.2.2.2.2.2.2.2.2.2.2.2.2.2.2.2.2.2.2.2.2.2.2.2.2.2.2.2.2.2.2.1 x0 x1 x2 σ h
theorem cQoW.c51 {P : oSt → Prop} {call : oCl} (hc : cQoW P call) (x0 : Option Nat) (x1 : Option Nat) (x2 : Int32) (σ : oSt) (h : P σ) : PIo P (call 51 [va_rf x0, va_rf x1, .int x2] σ) := hc.2.2.2.2.2.2.2.2.2.2.2.2.2.2.2.2.2.2.2.2.2.2.2.2.2.2.2.2.2.2.2.2.2.2.2.2.2.2.2.2.2.2.2.2.2.2.2.2.2.2.2.1 x0 x1 x2 σ h
theorem cQoW.c52 {P : oSt → Prop} {call : oCl} (hc : cQoW P call) (x0 : Option Nat) (x1 : Option Nat) (x2 : Int32) (σ : oSt) (h : P σ) : PIo P (call 52 [va_rf x0, va_rf x1, .int x2] σ) := hc.2.2.2.2.2.2.2.2.2.2.2.2.2.2.2.2.2.2.2.2.2.2.2.2.2.2.2.2.2.2.2.2.2.2.2.2.2.2.2.2.2.2.2.2.2.2.2.2.2.2.2.2.1 x0 x1 x2 σ h
theorem cQoW.c53 {P : oSt → Prop} {call : oCl} (hc : cQoW P call) (x0 : Int32) (σ : oSt) (h : P σ) : PIo P (call 53 [.int x0] σ) := hc.2.2.2.2.2.2.2.2.2.2.2.2.2.2.2.2.2.2.2.2.2.2.2.2.2.2.2.2.2.2.2.2.2.2.2.2.2.2.2.2.2.2.2.2.2.2.2.2.2.2.2.2.2.1 x0 σ h
theorem cQoW.c54 {P : oSt → Prop} {call : oCl} (hc : cQoW P call) (x0 : Option Nat) (x1 : Option Nat) (x2 : Int32) (x3 : Int32) (σ : oSt) (h : P σ) : PIo P (call 54 [va_rf x0, va_rf x1, .int x2, .int x3] σ) := hc.2.2.2.2.2.2.2.2.2.2.2.2.2.2.2.2.2.2.2.2.2.2.2.2.2.2.2.2.2.2.2.2.2.2.2.2.2.2.2.2.2.2.2.2.2.2.2.2.2.2.2.2.2.2.1 x0 x1 x2 x3 σ h
theorem cQoW.c55 {P : oSt → Prop} {call : oCl} (hc : cQoW P call) (x0 : Option Nat) (x1 : Option Nat) (x2 : Int32) (σ : oSt) (h : P σ) : PIo P (call 55 [va_rf x0, va_rf x1, .int x2] σ) := hc.2.2.2.2.2.2.2.2.2.2.2.2.2.2.2.2.2.2.2.2.2.2.2.2.2.2.2.2.2.2.2.2.2.2.2.2.2.2.2.2.2.2.2.2.2.2.2.2.2.2.2.2.2.2.2.1 x0 x1 x2 σ h
theorem cQoW.c56 {P : oSt → Prop} {call : oCl} (hc : cQoW P call) (x0 : Option Nat) (x1 : Option Nat) (x2 : Int32) (σ : oSt) (h : P σ) : PIo P (call 56 [va_rf x0, va_rf x1, .int x2] σ) := hc.2.2.2.2.2.2.2.2.2.2.2.2.2.2.2.2.2.2.2.2.2.2.2.2.2.2.2.2.2.2.2.2.2.2.2.2.2.2.2.2.2.2.2.2.2.2.2.2.2.2.2.2.2.2.2.2.1 x0 x1 x2 σ h
theorem cQoW.c57 {P : oSt → Prop} {call : oCl} (hc : cQoW P call) (x0 : Option Nat) (x1 : Option Nat) (x2 : Option Nat) (σ : oSt) (h : P σ) : PIo P (call 57 [va_rf x0, va_rf x1, va_rf x2] σ) := hc.2.2.2.2.2.2.2.2.2.2.2.2.2.2.2.2.2.2.2.2.2.2.2.2.2.2.2.2.2.2.2.2.2.2.2.2.2.2.2.2.2.2.2.2.2.2.2.2.2.2.2.2.2.2.2.2.2.1 x0 x1 x2 σ h
theorem cQoW.c58 {P : oSt → Prop} {call : oCl} (hc : cQoW P call) (x0 : Option Nat) (σ : oSt) (h : P σ) : PIo P (call 58 [va_rf x0] σ) := hc.2.2.2.2.2.2.2.2.2.2.2.2.2.2.2.2.2.2.2.2.2.2.2.2.2.2.2.2.2.2.2.2.2.2.2.2.2.2.2.2.2.2.2.2.2.2.2.2.2.2.2.2.2.2.2.2.2.2.1 x0 σ h
theorem cQoW.c59 {P : oSt → Prop} {call : oCl} (hc : cQoW P call) (x0 : Option Nat) (σ : oSt) (h : P σ) : PIo P (call 59 [va_rf x0] σ) := hc.2.2.2.2.2.2.2.2.2.2.2.2.2.2.2.2.2.2.2.2.2.2.2.2.2.2.2.2.2.2.2.2.2.2.2.2.2.2.2.2.2.2.2.2.2.2.2.2.2.2.2.2.2.2.2.2.2.2.2.1 x0 σ h
theorem cQoW.c60 {P : oSt → Prop} {call : oCl} (hc : cQoW P call) (x0 : Option Nat) (σ : oSt) (h : P σ) : PIo P (call 60 [va_rf x0] σ) := hc.2.2.2.2.2.2.2.2.2.2.2.2.2.2.2.2.2.2.2.2.2.2.2.2.2.2.2.2.2.2.2.2.2.2.2.2.2.2.2.2.2.2.2.2.2.2.2.2.2.2.2.2.2.2.2.2.2.2.2.2.1 x0 σ h
theorem cQoW.c61 {P : oSt → Prop} {call : oCl} (hc : cQoW P call) (x0 : Option Nat) (σ : oSt) (h : P σ) : PIo P (call 61 [va_rf x0] σ) := hc.2.2.2.2.2.2.2.2.2.2.2.2.2.2.2.2.2.2.2.2.2.2.2.2.2.2.2.2.2.2.2.2.2.2.2.2.2.2.2.2.2.2.2.2.2.2.2.2.2.2.2.2.2.2.2.2.2.2.2.2.2.1 x0 σ h
theorem cQoW.c62 {P : oSt → Prop} {call : oCl} (hc : cQoW P call) (x0 : Option Nat) (σ : oSt) (h : P σ) : PIo P (call 62 [va_rf x0] σ) := hc.2.2.2.2.2.2.2.2.2.2.2.2.2.2.2.2.2.2.2.2.2.2.2.2.2.2.2.2.2.2.2.2.2.2.2.2.2.2.2.2.2.2.2.2.2.2.2.2.2.2.2.2.2.2.2.2.2.2.2.2.2.2.1 x0 σ h
theorem cQoW.c63 {P : oSt → Prop} {call : oCl} (hc : cQoW P call) (x0 : Option Nat) (x1 : Int32) (σ : oSt) (h : P σ) : PIo P (call 63 [va_rf x0, .int x1] σ) := hc.2.2.2.2.2.2.2.2.2.2.2.2.2.2.2.2.2.2.2.2.2.2.2.2.2.2.2.2.2.2.2.2.2.2.2.2.2.2.2.2.2.2.2.2.2.2.2.2.2.2.2.2.2.2.2.2.2.2.2.2.2.2.2.1 x0 x1 σ h
theorem cQoW.c64 {P : oSt → Prop} {call : oCl} (hc : cQoW P call) (x0 : Option Nat) (x1 : Option Nat) (x2 : Option Nat) (σ : oSt) (h : P σ) : PIo P (call 64 [va_rf x0, va_rf x1, va_rf x2] σ) := hc.2.2.2.2.2.2.2.2.2.2.2.2.2.2.2.2.2.2.2.2.2.2.2.2.2.2.2.2.2.2.2.2.2.2.2.2.2.2.2.2.2.2.2.2.2.2.2.2.2.2.2.2.2.2.2.2.2.2.2.2.2.2.2.2.1 x0 x1 x2 σ h
theorem cQoW.c65 {P : oSt → Prop} {call : oCl} (hc : cQoW P call) (x0 : Option Nat) (σ : oSt) (h : P σ) : PIo P (call 65 [va_rf x0] σ) := hc.2.2.2.2.2.2.2.2.2.2.2.2.2.2.2.2.2.2.2.2.2.2.2.2.2.2.2.2.2.2.2.2.2.2.2.2.2.2.2.2.2.2.2.2.2.2.2.2.2.2.2.2.2.2.2.2.2.2.2.2.2.2.2.2.2.1 x0 σ h
theorem cQoW.c66 {P : oSt → Prop} {call : oCl} (hc : cQoW P call) (x0 : Option Nat) (x1 : Int32) (σ : oSt) (h : P σ) : PIo P (call 66 [va_rf x0, .int x1] σ) := hc.2.2.2.2.2.2.2.2.2.2.2.2.2.2.2.2.2.2.2.2.2.2.2.2.2.2.2.2.2.2.2.2.2.2.2.2.2.2.2.2.2.2.2.2.2.2.2.2.2.2.2.2.2.2.2.2.2.2.2.2.2.2.2.2.2.2.1 x0 x1 σ h
theorem cQoW.c67 {P : oSt → Prop} {call : oCl} (hc : cQoW P call) (x0 : Option Nat) (x1 : Option Nat) (x2 : Option Nat) (x3 : Option Nat) (σ : oSt) (h : P σ) : PIo P (call 67 [va_rf x0, va_rf x1, va_rf x2, va_rf x3] σ) := hc.2.2.2.2.2.2.2.2.2.2.2.2.2.2.2.2.2.2.2.2.2.2.2.2.2.2.2.2.2.2.2.2.2.2.2.2.2.2.2.2.2.2.2.2.2.2.2.2.2.2.2.2.2.2.2.2.2.2.2.2.2.2.2.2.2.2.2.1 x0 x1 x2 x3 σ h
theorem cQoW.c68 {P : oSt → Prop} {call : oCl} (hc : cQoW P call) (x0 : Option Nat) (σ : oSt) (h : P σ) : PIo P (call 68 [va_rf x0] σ) := hc.2.2.2.2.2.2.2.2.2.2.2.2.2.2.2.2.2.2.2.2.2.2.2.2.2.2.2.2.2.2.2.2.2.2.2.2.2.2.2.2.2.2.2.2.2.2.2.2.2.2.2.2.2.2.2.2.2.2.2.2.2.2.2.2.2.2.2.2.1 x0 σ h
theorem cQoW.c179 {P : oSt → Prop} {call : oCl} (hc : cQoW P call) (x0 : Option Nat) (σ : oSt) (h : P σ) : PIo P (call 179 [va_rf x0] σ) := hc.2.2.2.2.2.2.2.2.2.2.2.2.2.2.2.2.2.2.2.2.2.2.2.2.2.2.2.2.2.2.2.2.2.2.2.2.2.2.2.2.2.2.2.2.2.2.2.2.2.2.2.2.2.2.2.2.2.2.2.2.2.2.2.2.2.2.2.2.2.1 x0 σ h
theorem cQoW.c205 {P : oSt → Prop} {call : oCl} (hc : cQoW P call) (x0 : Int32) (x1 : Int32) (σ : oSt) (h : P σ) : PIo P (call 205 [.int x0, .int x1] σ) := hc.2.2.2.2.2.2.2.2.2.2.2.2.2.2.2.2.2.2.2.2.2.2.2.2.2.2.2.2.2.2.2.2.2.2.2.2.2.2.2.2.2.2.2.2.2.2.2.2.2.2.2.2.2.2.2.2.2.2.2.2.2.2.2.2.2.2.2.2.2.2.1 x0 x1 σ h
theorem cQoW.c206 {P : oSt → Prop} {call : oCl} (hc : cQoW P call) (x0 : Int32) (x1 : Int32) (x2 : Option Nat) (σ : oSt) (h : P σ) : PIo P (call 206 [.int x0, .int x1, va_rf x2] σ) := hc.2.2.2.2.2.2.2.2.2.2.2.2.2.2.2.2.2.2.2.2.2.2.2.2.2.2.2.2.2.2.2.2.2.2.2.2.2.2.2.2.2.2.2.2.2.2.2.2.2.2.2.2.2.2.2.2.2.2.2.2.2.2.2.2.2.2.2.2.2.2.2.1 x0 x1 x2 σ h
theorem cQoW.c224 {P : oSt → Prop} {call : oCl} (hc : cQoW P call) (x0 : Option Nat) (σ : oSt) (h : P σ) : PIo P (call 224 [va_rf x0] σ) := hc.2.2.2.2.2.2.2.2.2.2.2.2.2.2.2.2.2.2.2.2.2.2.2.2.2.2.2.2.2.2.2.2.2.2.2.2.2.2.2.2.2.2.2.2.2.2.2.2.2.2.2.2.2.2.2.2.2.2.2.2.2.2.2.2.2.2.2.2.2.2.2.2.1 x0 σ h
theorem cQoW.c225 {P : oSt → Prop} {call : oCl} (hc : cQoW P call) (x0 : Option Nat) (σ : oSt) (h : P σ) : PIo P (call 225 [va_rf x0] σ) := hc.2.2.2.2.2.2.2.2.2.2.2.2.2.2.2.2.2.2.2.2.2.2.2.2.2.2.2.2.2.2.2.2.2.2.2.2.2.2.2.2.2.2.2.2.2.2.2.2.2.2.2.2.2.2.2.2.2.2.2.2.2.2.2.2.2.2.2.2.2.2.2.2.2.1 x0 σ h
theorem cQoW.c226 {P : oSt → Prop} {call : oCl} (hc : cQoW P call) (x0 : Option Nat) (σ : oSt) (h : P σ) : PIo P (call 226 [va_rf x0] σ) := hc.2.2.2.2.2.2.2.2.2.2.2.2.2.2.2.2.2.2.2.2.2.2.2.2.2.2.2.2.2.2.2.2.2.2.2.2.2.2.2.2.2.2.2.2.2.2.2.2.2.2.2.2.2.2.2.2.2.2.2.2.2.2.2.2.2.2.2.2.2.2.2.2.2.2.1 x0 σ h
theorem cQoW.c227 {P : oSt → Prop} {call : oCl} (hc : cQoW P call) (x0 : Option Nat) (x1 : Option Nat) (σ : oSt) (h : P σ) : PIo P (call 227 [va_rf x0, va_rf x1] σ) := hc.2.2.2.2.2.2.2.2.2.2.2.2.2.2.2.2.2.2.2.2.2.2.2.2.2.2.2.2.2.2.2.2.2.2.2.2.2.2.2.2.2.2.2.2.2.2.2.2.2.2.2.2.2.2.2.2.2.2.2.2.2.2.2.2.2.2.2.2.2.2.2.2.2.2.2.1 x0 x1 σ h
theorem cQoW.c228 {P : oSt → Prop} {call : oCl} (hc : cQoW P call) (x0 : Option Nat) (x1 : Option Nat) (x2 : Option Nat) (x3 : Int32) (σ : oSt) (h : P σ) : PIo P (call 228 [va_rf x0, va_rf x1, va_rf x2, .int x3] σ) := hc.2.2.2.2.2.2.2.2.2.2.2.2.2.2.2.2.2.2.2.2.2.2.2.2.2.2.2.2.2.2.2.2.2.2.2.2.2.2.2.2.2.2.2.2.2.2.2.2.2.2.2.2.2.2.2.2.2.2.2.2.2.2.2.2.2.2.2.2.2.2.2.2.2.2.2.2.1 x0 x1 x2 x3 σ h
theorem cQoW.c229 {P : oSt → Prop} {call : oCl} (hc : cQoW P call) (x0 : Option Nat) (σ : oSt) (h : P σ) : PIo P (call 229 [va_rf x0] σ) := hc.2.2.2.2.2.2.2.2.2.2.2.2.2.2.2.2.2.2.2.2.2.2.2.2.2.2.2.2.2.2.2.2.2.2.2.2.2.2.2.2.2.2.2.2.2.2.2.2.2.2.2.2.2.2.2.2.2.2.2.2.2.2.2.2.2.2.2.2.2.2.2.2.2.2.2.2.2.1 x0 σ h
theorem cQoW.c230 {P : oSt → Prop} {call : oCl} (hc : cQoW P call) (x0 : Option Nat) (x1 : Int32) (σ : oSt) (h : P σ) : PIo P (call 230 [va_rf x0, .int x1] σ) := hc.2.2.2.2.2.2.2.2.2.2.2.2.2.2.2.2.2.2.2.2.2.2.2.2.2.2.2.2.2.2.2.2.2.2.2.2.2.2.2.2.2.2.2.2.2.2.2.2.2.2.2.2.2.2.2.2.2.2.2.2.2.2.2.2.2.2.2.2.2.2.2.2.2.2.2.2.2.2.1 x0 x1 σ h
theorem cQoW.c231 {P : oSt → Prop} {call : oCl} (hc : cQoW P call) (x0 : Int32) (x1 : Int32) (x2 : Int32) (σ : oSt) (h : P σ) : PIo P (call 231 [.int x0, .int x1, .int x2] σ) := hc.2.2.2.2.2.2.2.2.2.2.2.2.2.2.2.2.2.2.2.2.2.2.2.2.2.2.2.2.2.2.2.2.2.2.2.2.2.2.2.2.2.2.2.2.2.2.2.2.2.2.2.2.2.2.2.2.2.2.2.2.2.2.2.2.2.2.2.2.2.2.2.2.2.2.2.2.2.2.2.1 x0 x1 x2 σ h
theorem cQoW.c232 {P : oSt → Prop} {call : oCl} (hc : cQoW P call) (x0 : Option Nat) (x1 : Int32) (σ : oSt) (h : P σ) : PIo P (call 232 [va_rf x0, .int x1] σ) := hc.2.2.2.2.2.2.2.2.2.2.2.2.2.2.2.2.2.2.2.2.2.2.2.2.2.2.2.2.2.2.2.2.2.2.2.2.2.2.2.2.2.2.2.2.2.2.2.2.2.2.2.2.2.2.2.2.2.2.2.2.2.2.2.2.2.2.2.2.2.2.2.2.2.2.2.2.2.2.2.2.1 x0 x1 σ h
theorem cQoW.c233 {P : oSt → Prop} {call : oCl} (hc : cQoW P call) (x0 : Option Nat) (x1 : Int32) (x2 : Option Nat) (σ : oSt) (h : P σ) : PIo P (call 233 [va_rf x0, .int x1, va_rf x2] σ) := hc.2.2.2.2.2.2.2.2.2.2.2.2.2.2.2.2.2.2.2.2.2.2.2.2.2.2.2.2.2.2.2.2.2.2.2.2.2.2.2.2.2.2.2.2.2.2.2.2.2.2.2.2.2.2.2.2.2.2.2.2.2.2.2.2.2.2.2.2.2.2.2.2.2.2.2.2.2.2.2.2.2.1 x0 x1 x2 σ h
theorem cQoW.c234 {P : oSt → Prop} {call : oCl} (hc : cQoW P call) (x0 : Option Nat) (x1 : Int32) (σ : oSt) (h : P σ) : PIo P (call 234 [va_rf x0, .int x1] σ) := hc.2.2.2.2.2.2.2.2.2.2.2.2.2.2.2.2.2.2.2.2.2.2.2.2.2.2.2.2.2.2.2.2.2.2.2.2.2.2.2.2.2.2.2.2.2.2.2.2.2.2.2.2.2.2.2.2.2.2.2.2.2.2.2.2.2.2.2.2.2.2.2.2.2.2.2.2.2.2.2.2.2.2.1 x0 x1 σ h
theorem cQoW.c235 {P : oSt → Prop} {call : oCl} (hc : cQoW P call) (x0 : Option Nat) (x1 : Int32) (σ : oSt) (h : P σ) : PIo P (call 235 [va_rf x0, .int x1] σ) := hc.2.2.2.2.2.2.2.2.2.2.2.2.2.2.2.2.2.2.2.2.2.2.2.2.2.2.2.2.2.2.2.2.2.2.2.2.2.2.2.2.2.2.2.2.2.2.2.2.2.2.2.2.2.2.2.2.2.2.2.2.2.2.2.2.2.2.2.2.2.2.2.2.2.2.2.2.2.2.2.2.2.2.2.1 x0 x1 σ h
theorem cQoW.c236 {P : oSt → Prop} {call : oCl} (hc : cQoW P call) (x0 : Option Nat) (σ : oSt) (h : P σ) : PIo P (call 236 [va_rf x0] σ) := hc.2.2.2.2.2.2.2.2.2.2.2.2.2.2.2.2.2.2.2.2.2.2.2.2.2.2.2.2.2.2.2.2.2.2.2.2.2.2.2.2.2.2.2.2.2.2.2.2.2.2.2.2.2.2.2.2.2.2.2.2.2.2.2.2.2.2.2.2.2.2.2.2.2.2.2.2.2.2.2.2.2.2.2.2.1 x0 σ h
theorem cQoW.c238 {P : oSt → Prop} {call : oCl} (hc : cQoW P call) (x0 : Option Nat) (x1 : Int32) (σ : oSt) (h : P σ) : PIo P (call 238 [va_rf x0, .int x1] σ) := hc.2.2.2.2.2.2.2.2.2.2.2.2.2.2.2.2.2.2.2.2.2.2.2.2.2.2.2.2.2.2.2.2.2.2.2.2.2.2.2.2.2.2.2.2.2.2.2.2.2.2.2.2.2.2.2.2.2.2.2.2.2.2.2.2.2.2.2.2.2.2.2.2.2.2.2.2.2.2.2.2.2.2.2.2.2.1 x0 x1 σ h
theorem cQoW.c239 {P : oSt → Prop} {call : oCl} (hc : cQoW P call) (x0 : Option Nat) (x1 : Int32) (σ : oSt) (h : P σ) : PIo P (call 239 [va_rf x0, .int x1] σ) := hc.2.2.2.2.2.2.2.2.2.2.2.2.2.2.2.2.2.2.2.2.2.2.2.2.2.2.2.2.2.2.2.2.2.2.2.2.2.2.2.2.2.2.2.2.2.2.2.2.2.2.2.2.2.2.2.2.2.2.2.2.2.2.2.2.2.2.2.2.2.2.2.2.2.2.2.2.2.2.2.2.2.2.2.2.2.2 x0 x1 σ h
section OPGW
variable {P : oSt → Prop} {n : Nat} {call : oCl} {κ : oKv}
theorem pioW_ob_X0_init  {x0 : Option Nat} {x1 : Option Nat} {x2 : Option Nat} {x3 : Option Nat} {σ : oSt} (hP : iKptW P) (hc : cQoW P call)  (h : P σ) : PIo P (ob_X0_init n call κ  x0 x1 x2 x3 σ) := by
  unfold ob_X0_init
  repeat' (with_reducible (first | assumption | (refine PIoW_gd ?_) | (refine PIoW_pf hP ?_ (by decide) (by with_unfolding_all rfl) (fun _ _ => ?_)) | (refine PIoW_si hP ?_ (fun _ _ => ?_)) | (refine PIoW_sj hP ?_ (fun _ _ => ?_)) | (refine PIoW_sr hP ?_ (fun _ _ => ?_)) | (refine PIoW_cy hP ?_ (fun _ _ => ?_)) | (refine PIoW_bn (fun _ => ?_)) | (refine PIoW_na hP ?_ (fun _ _ => ?_)) | (refine PIoW_no hP ?_ (fun _ _ => ?_)) | (refine PIoW_ite ?_ ?_) | (refine PIoW_some ?_) | (exact PIoW_none) | (refine PIoW_cv (cQoW.c224 hc _ _ ?_) (fun _ _ => ?_))))
theorem pioW_ob_X2_init  {x0 : Option Nat} {x1 : Int32} {σ : oSt} (hP : iKptW P) (hc : cQoW P call)  (h : P σ) : PIo P (ob_X2_init n call κ  x0 x1 σ) := by
  unfold ob_X2_init
  repeat' (with_reducible (first | assumption | (refine PIoW_gd ?_) | (refine PIoW_pf hP ?_ (by decide) (by with_unfolding_all rfl) (fun _ _ => ?_)) | (refine PIoW_si hP ?_ (fun _ _ => ?_)) | (refine PIoW_sj hP ?_ (fun _ _ => ?_)) | (refine PIoW_sr hP ?_ (fun _ _ => ?_)) | (refine PIoW_cy hP ?_ (fun _ _ => ?_)) | (refine PIoW_bn (fun _ => ?_)) | (refine PIoW_na hP ?_ (fun _ _ => ?_)) | (refine PIoW_no hP ?_ (fun _ _ => ?_)) | (refine PIoW_ite ?_ ?_) | (refine PIoW_some ?_) | (exact PIoW_none)))
theorem pioW_ob_X8_init  {x0 : Option Nat} {x1 : Option Nat} {x2 : Option Nat} {σ : oSt} (hP : iKptW P) (hc : cQoW P call)  (h : P σ) : PIo P (ob_X8_init n call κ  x0 x1 x2 σ) := by
  unfold ob_X8_init
  repeat' (with_reducible (first | assumption | (refine PIoW_gd ?_) | (refine PIoW_pf hP ?_ (by decide) (by with_unfolding_all rfl) (fun _ _ => ?_)) | (refine PIoW_si hP ?_ (fun _ _ => ?_)) | (refine PIoW_sj hP ?_ (fun _ _ => ?_)) | (refine PIoW_sr hP ?_ (fun _ _ => ?_)) | (refine PIoW_cy hP ?_ (fun _ _ => ?_)) | (refine PIoW_bn (fun _ => ?_)) | (refine PIoW_na hP ?_ (fun _ _ => ?_)) | (refine PIoW_no hP ?_ (fun _ _ => ?_)) | (refine PIoW_ite ?_ ?_) | (refine PIoW_some ?_) | (exact PIoW_none)))
theorem pioW_ob_X2_init_  {x0 : Option Nat} {x1 : Option Nat} {x2 : Option Nat} {x3 : Option Nat} {σ : oSt} (hP : iKptW P) (hc : cQoW P call)  (h : P σ) : PIo P (ob_X2_init_ n call κ  x0 x1 x2 x3 σ) := by
  unfold ob_X2_init_
  repeat' (with_reducible (first | assumption | (refine PIoW_gd ?_) | (refine PIoW_pf hP ?_ (by decide) (by with_unfolding_all rfl) (fun _ _ => ?_)) | (refine PIoW_si hP ?_ (fun _ _ => ?_)) | (refine PIoW_sj hP ?_ (fun _ _ => ?_)) | (refine PIoW_sr hP ?_ (fun _ _ => ?_)) | (refine PIoW_cy hP ?_ (fun _ _ => ?_)) | (refine PIoW_bn (fun _ => ?_)) | (refine PIoW_na hP ?_ (fun _ _ => ?_)) | (refine PIoW_no hP ?_ (fun _ _ => ?_)) | (refine PIoW_ite ?_ ?_) | (refine PIoW_some ?_) | (exact PIoW_none)))
theorem pioW_ol_X2_answered_79  (hP : iKptW P) (hc : cQoW P call)  : ∀ (t : Nat) (x0 : Option Nat) (x1 : Option Nat) (x2 : Int32) (x3 : Option Nat) (x4 : Option Nat) (x5 : Int32) (σ : oSt), P σ → PIo P (ol_X2_answered_79 n call κ  t x0 x1 x2 x3 x4 x5 σ) := by
  intro t
  induction t with
  | zero => intros; exact PIoW_none
  | succ t ih =>
    intro x0 x1 x2 x3 x4 x5 σ h
    rw [ol_X2_answered_79]
    repeat' (with_reducible (first | assumption | (refine PIoW_gd ?_) | (refine PIoW_pf hP ?_ (by decide) (by with_unfolding_all rfl) (fun _ _ => ?_)) | (refine PIoW_si hP ?_ (fun _ _ => ?_)) | (refine PIoW_sj hP ?_ (fun _ _ => ?_)) | (refine PIoW_sr hP ?_ (fun _ _ => ?_)) | (refine PIoW_cy hP ?_ (fun _ _ => ?_)) | (refine PIoW_bn (fun _ => ?_)) | (refine PIoW_na hP ?_ (fun _ _ => ?_)) | (refine PIoW_no hP ?_ (fun _ _ => ?_)) | (refine PIoW_ite ?_ ?_) | (refine PIoW_some ?_) | (exact PIoW_none) | (refine PIoW_cv (cQoW.c3 hc _ _ _ _ _ ?_) (fun _ _ => ?_)) | (refine ih _ _ _ _ _ _ _ ?_)))
theorem pioW_oj_X2_answered_60  {x0 : Option Nat} {x1 : Option Nat} {t0 : Int32} {σ : oSt} (hP : iKptW P) (hc : cQoW P call)  (h : P σ) : PIo P (oj_X2_answered_60 n call κ  x0 x1 t0 σ) := by
  unfold oj_X2_answered_60
  repeat' (with_reducible (first | assumption | (refine PIoW_gd ?_) | (refine PIoW_pf hP ?_ (by decide) (by with_unfolding_all rfl) (fun _ _ => ?_)) | (refine PIoW_si hP ?_ (fun _ _ => ?_)) | (refine PIoW_sj hP ?_ (fun _ _ => ?_)) | (refine PIoW_sr hP ?_ (fun _ _ => ?_)) | (refine PIoW_cy hP ?_ (fun _ _ => ?_)) | (refine PIoW_bn (fun _ => ?_)) | (refine PIoW_na hP ?_ (fun _ _ => ?_)) | (refine PIoW_no hP ?_ (fun _ _ => ?_)) | (refine PIoW_ite ?_ ?_) | (refine PIoW_some ?_) | (exact PIoW_none) | (refine pioW_ol_X2_answered_79 hP hc  _ _ _ _ _ _ _ _ ?_)))
theorem pioW_ob_X2_answered  {x0 : Option Nat} {x1 : Option Nat} {σ : oSt} (hP : iKptW P) (hc : cQoW P call)  (h : P σ) : PIo P (ob_X2_answered n call κ  x0 x1 σ) := by
  unfold ob_X2_answered
  repeat' (with_reducible (first | assumption | (refine PIoW_gd ?_) | (refine PIoW_pf hP ?_ (by decide) (by with_unfolding_all rfl) (fun _ _ => ?_)) | (refine PIoW_si hP ?_ (fun _ _ => ?_)) | (refine PIoW_sj hP ?_ (fun _ _ => ?_)) | (refine PIoW_sr hP ?_ (fun _ _ => ?_)) | (refine PIoW_cy hP ?_ (fun _ _ => ?_)) | (refine PIoW_bn (fun _ => ?_)) | (refine PIoW_na hP ?_ (fun _ _ => ?_)) | (refine PIoW_no hP ?_ (fun _ _ => ?_)) | (refine PIoW_ite ?_ ?_) | (refine PIoW_some ?_) | (exact PIoW_none) | (refine PIoW_cv (cQoW.c3 hc _ _ _ _ _ ?_) (fun _ _ => ?_)) | (refine pioW_oj_X2_answered_60 hP hc  ?_)))
theorem pioW_ob_X2_taken  {x0 : Option Nat} {σ : oSt} (hP : iKptW P) (hc : cQoW P call)  (h : P σ) : PIo P (ob_X2_taken n call κ  x0 σ) := by
  unfold ob_X2_taken
  repeat' (with_reducible (first | assumption | (refine PIoW_gd ?_) | (refine PIoW_pf hP ?_ (by decide) (by with_unfolding_all rfl) (fun _ _ => ?_)) | (refine PIoW_si hP ?_ (fun _ _ => ?_)) | (refine PIoW_sj hP ?_ (fun _ _ => ?_)) | (refine PIoW_sr hP ?_ (fun _ _ => ?_)) | (refine PIoW_cy hP ?_ (fun _ _ => ?_)) | (refine PIoW_bn (fun _ => ?_)) | (refine PIoW_na hP ?_ (fun _ _ => ?_)) | (refine PIoW_no hP ?_ (fun _ _ => ?_)) | (refine PIoW_ite ?_ ?_) | (refine PIoW_some ?_) | (exact PIoW_none) | (refine PIoW_cv (cQoW.c3 hc _ _ _ _ _ ?_) (fun _ _ => ?_))))
theorem pioW_oj_X4_isMeasured_30   {σ : oSt} (hP : iKptW P) (hc : cQoW P call)  (h : P σ) : PIo P (oj_X4_isMeasured_30 n call κ   σ) := by
  unfold oj_X4_isMeasured_30
  repeat' (with_reducible (first | assumption | (refine PIoW_gd ?_) | (refine PIoW_pf hP ?_ (by decide) (by with_unfolding_all rfl) (fun _ _ => ?_)) | (refine PIoW_si hP ?_ (fun _ _ => ?_)) | (refine PIoW_sj hP ?_ (fun _ _ => ?_)) | (refine PIoW_sr hP ?_ (fun _ _ => ?_)) | (refine PIoW_cy hP ?_ (fun _ _ => ?_)) | (refine PIoW_bn (fun _ => ?_)) | (refine PIoW_na hP ?_ (fun _ _ => ?_)) | (refine PIoW_no hP ?_ (fun _ _ => ?_)) | (refine PIoW_ite ?_ ?_) | (refine PIoW_some ?_) | (exact PIoW_none)))
theorem pioW_ob_X4_isMeasured  {x0 : Option Nat} {σ : oSt} (hP : iKptW P) (hc : cQoW P call)  (h : P σ) : PIo P (ob_X4_isMeasured n call κ  x0 σ) := by
  unfold ob_X4_isMeasured
  repeat' (with_reducible (first | assumption | (refine PIoW_gd ?_) | (refine PIoW_pf hP ?_ (by decide) (by with_unfolding_all rfl) (fun _ _ => ?_)) | (refine PIoW_si hP ?_ (fun _ _ => ?_)) | (refine PIoW_sj hP ?_ (fun _ _ => ?_)) | (refine PIoW_sr hP ?_ (fun _ _ => ?_)) | (refine PIoW_cy hP ?_ (fun _ _ => ?_)) | (refine PIoW_bn (fun _ => ?_)) | (refine PIoW_na hP ?_ (fun _ _ => ?_)) | (refine PIoW_no hP ?_ (fun _ _ => ?_)) | (refine PIoW_ite ?_ ?_) | (refine PIoW_some ?_) | (exact PIoW_none) | (refine pioW_oj_X4_isMeasured_30 hP hc  ?_)))
theorem pioW_ob_X4_init  {x0 : Option Nat} {x1 : Option Nat} {x2 : Int32} {σ : oSt} (hP : iKptW P) (hc : cQoW P call)  (h : P σ) : PIo P (ob_X4_init n call κ  x0 x1 x2 σ) := by
  unfold ob_X4_init
  repeat' (with_reducible (first | assumption | (refine PIoW_gd ?_) | (refine PIoW_pf hP ?_ (by decide) (by with_unfolding_all rfl) (fun _ _ => ?_)) | (refine PIoW_si hP ?_ (fun _ _ => ?_)) | (refine PIoW_sj hP ?_ (fun _ _ => ?_)) | (refine PIoW_sr hP ?_ (fun _ _ => ?_)) | (refine PIoW_cy hP ?_ (fun _ _ => ?_)) | (refine PIoW_bn (fun _ => ?_)) | (refine PIoW_na hP ?_ (fun _ _ => ?_)) | (refine PIoW_no hP ?_ (fun _ _ => ?_)) | (refine PIoW_ite ?_ ?_) | (refine PIoW_some ?_) | (exact PIoW_none)))
theorem pioW_ob_X9_init  {x0 : Option Nat} {σ : oSt} (hP : iKptW P) (hc : cQoW P call)  (h : P σ) : PIo P (ob_X9_init n call κ  x0 σ) := by
  unfold ob_X9_init
  repeat' (with_reducible (first | assumption | (refine PIoW_gd ?_) | (refine PIoW_pf hP ?_ (by decide) (by with_unfolding_all rfl) (fun _ _ => ?_)) | (refine PIoW_si hP ?_ (fun _ _ => ?_)) | (refine PIoW_sj hP ?_ (fun _ _ => ?_)) | (refine PIoW_sr hP ?_ (fun _ _ => ?_)) | (refine PIoW_cy hP ?_ (fun _ _ => ?_)) | (refine PIoW_bn (fun _ => ?_)) | (refine PIoW_na hP ?_ (fun _ _ => ?_)) | (refine PIoW_no hP ?_ (fun _ _ => ?_)) | (refine PIoW_ite ?_ ?_) | (refine PIoW_some ?_) | (exact PIoW_none)))
theorem pioW_oj_X9_append_58  {x0 : Option Nat} {x1 : Option Nat} {σ : oSt} (hP : iKptW P) (hc : cQoW P call)  (h : P σ) : PIo P (oj_X9_append_58 n call κ  x0 x1 σ) := by
  unfold oj_X9_append_58
  repeat' (with_reducible (first | assumption | (refine PIoW_gd ?_) | (refine PIoW_pf hP ?_ (by decide) (by with_unfolding_all rfl) (fun _ _ => ?_)) | (refine PIoW_si hP ?_ (fun _ _ => ?_)) | (refine PIoW_sj hP ?_ (fun _ _ => ?_)) | (refine PIoW_sr hP ?_ (fun _ _ => ?_)) | (refine PIoW_cy hP ?_ (fun _ _ => ?_)) | (refine PIoW_bn (fun _ => ?_)) | (refine PIoW_na hP ?_ (fun _ _ => ?_)) | (refine PIoW_no hP ?_ (fun _ _ => ?_)) | (refine PIoW_ite ?_ ?_) | (refine PIoW_some ?_) | (exact PIoW_none)))
theorem pioW_ob_X9_append  {x0 : Option Nat} {x1 : Option Nat} {σ : oSt} (hP : iKptW P) (hc : cQoW P call)  (h : P σ) : PIo P (ob_X9_append n call κ  x0 x1 σ) := by
  unfold ob_X9_append
  repeat' (with_reducible (first | assumption | (refine PIoW_gd ?_) | (refine PIoW_pf hP ?_ (by decide) (by with_unfolding_all rfl) (fun _ _ => ?_)) | (refine PIoW_si hP ?_ (fun _ _ => ?_)) | (refine PIoW_sj hP ?_ (fun _ _ => ?_)) | (refine PIoW_sr hP ?_ (fun _ _ => ?_)) | (refine PIoW_cy hP ?_ (fun _ _ => ?_)) | (refine PIoW_bn (fun _ => ?_)) | (refine PIoW_na hP ?_ (fun _ _ => ?_)) | (refine PIoW_no hP ?_ (fun _ _ => ?_)) | (refine PIoW_ite ?_ ?_) | (refine PIoW_some ?_) | (exact PIoW_none) | (refine PIoW_rn (cQoW.c238 hc _ _ _ ?_) (fun _ _ _ => ?_)) | (refine pioW_oj_X9_append_58 hP hc  ?_)))
theorem pioW_oj_X9_add_44  {x0 : Option Nat} {x2 : Int32} {x3 : Int32} {σ : oSt} (hP : iKptW P) (hc : cQoW P call)  (h : P σ) : PIo P (oj_X9_add_44 n call κ  x0 x2 x3 σ) := by
  unfold oj_X9_add_44
  repeat' (with_reducible (first | assumption | (refine PIoW_gd ?_) | (refine PIoW_pf hP ?_ (by decide) (by with_unfolding_all rfl) (fun _ _ => ?_)) | (refine PIoW_si hP ?_ (fun _ _ => ?_)) | (refine PIoW_sj hP ?_ (fun _ _ => ?_)) | (refine PIoW_sr hP ?_ (fun _ _ => ?_)) | (refine PIoW_cy hP ?_ (fun _ _ => ?_)) | (refine PIoW_bn (fun _ => ?_)) | (refine PIoW_na hP ?_ (fun _ _ => ?_)) | (refine PIoW_no hP ?_ (fun _ _ => ?_)) | (refine PIoW_ite ?_ ?_) | (refine PIoW_some ?_) | (exact PIoW_none)))
theorem pioW_oj_X9_add_31  {x0 : Option Nat} {x1 : Option Nat} {x2 : Int32} {x3 : Int32} {σ : oSt} (hP : iKptW P) (hc : cQoW P call)  (h : P σ) : PIo P (oj_X9_add_31 n call κ  x0 x1 x2 x3 σ) := by
  unfold oj_X9_add_31
  repeat' (with_reducible (first | assumption | (refine PIoW_gd ?_) | (refine PIoW_pf hP ?_ (by decide) (by with_unfolding_all rfl) (fun _ _ => ?_)) | (refine PIoW_si hP ?_ (fun _ _ => ?_)) | (refine PIoW_sj hP ?_ (fun _ _ => ?_)) | (refine PIoW_sr hP ?_ (fun _ _ => ?_)) | (refine PIoW_cy hP ?_ (fun _ _ => ?_)) | (refine PIoW_bn (fun _ => ?_)) | (refine PIoW_na hP ?_ (fun _ _ => ?_)) | (refine PIoW_no hP ?_ (fun _ _ => ?_)) | (refine PIoW_ite ?_ ?_) | (refine PIoW_some ?_) | (exact PIoW_none) | (refine PIoW_cv (cQoW.c9 hc _ _ _ ?_) (fun _ _ => ?_)) | (refine pioW_oj_X9_add_44 hP hc  ?_)))
theorem pioW_ol_X9_add_7  (hP : iKptW P) (hc : cQoW P call)  : ∀ (t : Nat) (x0 : Option Nat) (x1 : Option Nat) (x2 : Int32) (x3 : Int32) (σ : oSt), P σ → PIo P (ol_X9_add_7 n call κ  t x0 x1 x2 x3 σ) := by
  intro t
  induction t with
  | zero => intros; exact PIoW_none
  | succ t ih =>
    intro x0 x1 x2 x3 σ h
    rw [ol_X9_add_7]
    repeat' (with_reducible (first | assumption | (refine PIoW_gd ?_) | (refine PIoW_pf hP ?_ (by decide) (by with_unfolding_all rfl) (fun _ _ => ?_)) | (refine PIoW_si hP ?_ (fun _ _ => ?_)) | (refine PIoW_sj hP ?_ (fun _ _ => ?_)) | (refine PIoW_sr hP ?_ (fun _ _ => ?_)) | (refine PIoW_cy hP ?_ (fun _ _ => ?_)) | (refine PIoW_bn (fun _ => ?_)) | (refine PIoW_na hP ?_ (fun _ _ => ?_)) | (refine PIoW_no hP ?_ (fun _ _ => ?_)) | (refine PIoW_ite ?_ ?_) | (refine PIoW_some ?_) | (exact PIoW_none) | (refine pioW_oj_X9_add_31 hP hc  ?_) | (refine ih _ _ _ _ _ ?_)))
theorem pioW_ob_X9_add  {x0 : Option Nat} {x1 : Option Nat} {x2 : Int32} {σ : oSt} (hP : iKptW P) (hc : cQoW P call)  (h : P σ) : PIo P (ob_X9_add n call κ  x0 x1 x2 σ) := by
  unfold ob_X9_add
  repeat' (with_reducible (first | assumption | (refine PIoW_gd ?_) | (refine PIoW_pf hP ?_ (by decide) (by with_unfolding_all rfl) (fun _ _ => ?_)) | (refine PIoW_si hP ?_ (fun _ _ => ?_)) | (refine PIoW_sj hP ?_ (fun _ _ => ?_)) | (refine PIoW_sr hP ?_ (fun _ _ => ?_)) | (refine PIoW_cy hP ?_ (fun _ _ => ?_)) | (refine PIoW_bn (fun _ => ?_)) | (refine PIoW_na hP ?_ (fun _ _ => ?_)) | (refine PIoW_no hP ?_ (fun _ _ => ?_)) | (refine PIoW_ite ?_ ?_) | (refine PIoW_some ?_) | (exact PIoW_none) | (refine pioW_ol_X9_add_7 hP hc  _ _ _ _ _ _ ?_)))
theorem pioW_oj_X9_of_20  {x1 : Int32} {x2 : Int64} {x4 : Option Nat} {t0 : Option Nat} {t1 : Option Nat} {σ : oSt} (hP : iKptW P) (hc : cQoW P call)  (h : P σ) : PIo P (oj_X9_of_20 n call κ  x1 x2 x4 t0 t1 σ) := by
  unfold oj_X9_of_20
  repeat' (with_reducible (first | assumption | (refine PIoW_gd ?_) | (refine PIoW_pf hP ?_ (by decide) (by with_unfolding_all rfl) (fun _ _ => ?_)) | (refine PIoW_si hP ?_ (fun _ _ => ?_)) | (refine PIoW_sj hP ?_ (fun _ _ => ?_)) | (refine PIoW_sr hP ?_ (fun _ _ => ?_)) | (refine PIoW_cy hP ?_ (fun _ _ => ?_)) | (refine PIoW_bn (fun _ => ?_)) | (refine PIoW_na hP ?_ (fun _ _ => ?_)) | (refine PIoW_no hP ?_ (fun _ _ => ?_)) | (refine PIoW_ite ?_ ?_) | (refine PIoW_some ?_) | (exact PIoW_none) | (refine PIoW_cv (cQoW.c10 hc _ _ _ _ ?_) (fun _ _ => ?_))))
theorem pioW_ob_X9_of  {x0 : Option Nat} {x1 : Int32} {x2 : Int64} {σ : oSt} (hP : iKptW P) (hc : cQoW P call)  (h : P σ) : PIo P (ob_X9_of n call κ  x0 x1 x2 σ) := by
  unfold ob_X9_of
  repeat' (with_reducible (first | assumption | (refine PIoW_gd ?_) | (refine PIoW_pf hP ?_ (by decide) (by with_unfolding_all rfl) (fun _ _ => ?_)) | (refine PIoW_si hP ?_ (fun _ _ => ?_)) | (refine PIoW_sj hP ?_ (fun _ _ => ?_)) | (refine PIoW_sr hP ?_ (fun _ _ => ?_)) | (refine PIoW_cy hP ?_ (fun _ _ => ?_)) | (refine PIoW_bn (fun _ => ?_)) | (refine PIoW_na hP ?_ (fun _ _ => ?_)) | (refine PIoW_no hP ?_ (fun _ _ => ?_)) | (refine PIoW_ite ?_ ?_) | (refine PIoW_some ?_) | (exact PIoW_none) | (refine PIoW_cv (cQoW.c8 hc _ _ ?_) (fun _ _ => ?_)) | (refine pioW_oj_X9_of_20 hP hc  ?_)))
theorem pioW_oj_X0_fit_146  {x0 : Option Nat} {x4 : Option Nat} {x5 : Option Nat} {x6 : Option Nat} {σ : oSt} (hP : iKptW P) (hc : cQoW P call)  (h : P σ) : PIo P (oj_X0_fit_146 n call κ  x0 x4 x5 x6 σ) := by
  unfold oj_X0_fit_146
  repeat' (with_reducible (first | assumption | (refine PIoW_gd ?_) | (refine PIoW_pf hP ?_ (by decide) (by with_unfolding_all rfl) (fun _ _ => ?_)) | (refine PIoW_si hP ?_ (fun _ _ => ?_)) | (refine PIoW_sj hP ?_ (fun _ _ => ?_)) | (refine PIoW_sr hP ?_ (fun _ _ => ?_)) | (refine PIoW_cy hP ?_ (fun _ _ => ?_)) | (refine PIoW_bn (fun _ => ?_)) | (refine PIoW_na hP ?_ (fun _ _ => ?_)) | (refine PIoW_no hP ?_ (fun _ _ => ?_)) | (refine PIoW_ite ?_ ?_) | (refine PIoW_some ?_) | (exact PIoW_none) | (refine PIoW_in (cQoW.c227 hc _ _ _ ?_) (fun _ _ _ => ?_))))
theorem pioW_oj_X0_fit_122 {k12 : Option Nat → Option Nat → Option Nat → Option Nat → Int32 → oSt → oRs} {x0 : Option Nat} {x4 : Option Nat} {x5 : Option Nat} {x6 : Option Nat} {x7 : Int32} {x9 : Option Nat} {σ : oSt} (hP : iKptW P) (hc : cQoW P call) (hk12 : ∀ (a0 : Option Nat) (a1 : Option Nat) (a2 : Option Nat) (a3 : Option Nat) (a4 : Int32), ∀ σ, P σ → PIo P (k12 a0 a1 a2 a3 a4 σ)) (h : P σ) : PIo P (oj_X0_fit_122 n call κ k12 x0 x4 x5 x6 x7 x9 σ) := by
  unfold oj_X0_fit_122
  repeat' (with_reducible (first | assumption | (refine PIoW_gd ?_) | (refine PIoW_pf hP ?_ (by decide) (by with_unfolding_all rfl) (fun _ _ => ?_)) | (refine PIoW_si hP ?_ (fun _ _ => ?_)) | (refine PIoW_sj hP ?_ (fun _ _ => ?_)) | (refine PIoW_sr hP ?_ (fun _ _ => ?_)) | (refine PIoW_cy hP ?_ (fun _ _ => ?_)) | (refine PIoW_bn (fun _ => ?_)) | (refine PIoW_na hP ?_ (fun _ _ => ?_)) | (refine PIoW_no hP ?_ (fun _ _ => ?_)) | (refine PIoW_ite ?_ ?_) | (refine PIoW_some ?_) | (exact PIoW_none) | (refine PIoW_rn (cQoW.c4 hc _ _ _ ?_) (fun _ _ _ => ?_)) | (refine hk12 _ _ _ _ _ _ ?_)))
theorem pioW_ol_X0_fit_12  (hP : iKptW P) (hc : cQoW P call)  : ∀ (t : Nat) (x0 : Option Nat) (x1 : Option Nat) (x2 : Option Nat) (x3 : Option Nat) (x4 : Int32) (σ : oSt), P σ → PIo P (ol_X0_fit_12 n call κ  t x0 x1 x2 x3 x4 σ) := by
  intro t
  induction t with
  | zero => intros; exact PIoW_none
  | succ t ih =>
    intro x0 x1 x2 x3 x4 σ h
    rw [ol_X0_fit_12]
    repeat' (with_reducible (first | assumption | (refine PIoW_gd ?_) | (refine PIoW_pf hP ?_ (by decide) (by with_unfolding_all rfl) (fun _ _ => ?_)) | (refine PIoW_si hP ?_ (fun _ _ => ?_)) | (refine PIoW_sj hP ?_ (fun _ _ => ?_)) | (refine PIoW_sr hP ?_ (fun _ _ => ?_)) | (refine PIoW_cy hP ?_ (fun _ _ => ?_)) | (refine PIoW_bn (fun _ => ?_)) | (refine PIoW_na hP ?_ (fun _ _ => ?_)) | (refine PIoW_no hP ?_ (fun _ _ => ?_)) | (refine PIoW_ite ?_ ?_) | (refine PIoW_some ?_) | (exact PIoW_none) | (refine PIoW_cv (cQoW.c2 hc _ _ _ _ ?_) (fun _ _ => ?_)) | (refine PIoW_cv (cQoW.c7 hc _ _ _ _ ?_) (fun _ _ => ?_)) | (refine PIoW_cv (cQoW.c12 hc _ _ _ _ _ ?_) (fun _ _ => ?_)) | (refine PIoW_in (cQoW.c6 hc _ _ ?_) (fun _ _ _ => ?_)) | (refine PIoW_rn (cQoW.c5 hc _ _ ?_) (fun _ _ _ => ?_)) | (refine PIoW_rn (cQoW.c11 hc _ _ _ _ ?_) (fun _ _ _ => ?_)) | (refine pioW_oj_X0_fit_146 hP hc  ?_) | (refine pioW_oj_X0_fit_122 hP hc ih ?_)))
theorem pioW_ob_X0_fit  {x0 : Option Nat} {x1 : Option Nat} {x2 : Option Nat} {x3 : Option Nat} {σ : oSt} (hP : iKptW P) (hc : cQoW P call)  (h : P σ) : PIo P (ob_X0_fit n call κ  x0 x1 x2 x3 σ) := by
  unfold ob_X0_fit
  repeat' (with_reducible (first | assumption | (refine PIoW_gd ?_) | (refine PIoW_pf hP ?_ (by decide) (by with_unfolding_all rfl) (fun _ _ => ?_)) | (refine PIoW_si hP ?_ (fun _ _ => ?_)) | (refine PIoW_sj hP ?_ (fun _ _ => ?_)) | (refine PIoW_sr hP ?_ (fun _ _ => ?_)) | (refine PIoW_cy hP ?_ (fun _ _ => ?_)) | (refine PIoW_bn (fun _ => ?_)) | (refine PIoW_na hP ?_ (fun _ _ => ?_)) | (refine PIoW_no hP ?_ (fun _ _ => ?_)) | (refine PIoW_ite ?_ ?_) | (refine PIoW_some ?_) | (exact PIoW_none) | (refine pioW_ol_X0_fit_12 hP hc  _ _ _ _ _ _ _ ?_)))
theorem pioW_ob_X8_init_  {x0 : Option Nat} {x1 : Option Nat} {x2 : Int32} {x3 : Option Nat} {σ : oSt} (hP : iKptW P) (hc : cQoW P call)  (h : P σ) : PIo P (ob_X8_init_ n call κ  x0 x1 x2 x3 σ) := by
  unfold ob_X8_init_
  repeat' (with_reducible (first | assumption | (refine PIoW_gd ?_) | (refine PIoW_pf hP ?_ (by decide) (by with_unfolding_all rfl) (fun _ _ => ?_)) | (refine PIoW_si hP ?_ (fun _ _ => ?_)) | (refine PIoW_sj hP ?_ (fun _ _ => ?_)) | (refine PIoW_sr hP ?_ (fun _ _ => ?_)) | (refine PIoW_cy hP ?_ (fun _ _ => ?_)) | (refine PIoW_bn (fun _ => ?_)) | (refine PIoW_na hP ?_ (fun _ _ => ?_)) | (refine PIoW_no hP ?_ (fun _ _ => ?_)) | (refine PIoW_ite ?_ ?_) | (refine PIoW_some ?_) | (exact PIoW_none)))
theorem pioW_oj_X9_isTerm_28   {σ : oSt} (hP : iKptW P) (hc : cQoW P call)  (h : P σ) : PIo P (oj_X9_isTerm_28 n call κ   σ) := by
  unfold oj_X9_isTerm_28
  repeat' (with_reducible (first | assumption | (refine PIoW_gd ?_) | (refine PIoW_pf hP ?_ (by decide) (by with_unfolding_all rfl) (fun _ _ => ?_)) | (refine PIoW_si hP ?_ (fun _ _ => ?_)) | (refine PIoW_sj hP ?_ (fun _ _ => ?_)) | (refine PIoW_sr hP ?_ (fun _ _ => ?_)) | (refine PIoW_cy hP ?_ (fun _ _ => ?_)) | (refine PIoW_bn (fun _ => ?_)) | (refine PIoW_na hP ?_ (fun _ _ => ?_)) | (refine PIoW_no hP ?_ (fun _ _ => ?_)) | (refine PIoW_ite ?_ ?_) | (refine PIoW_some ?_) | (exact PIoW_none)))
theorem pioW_ob_X9_isTerm  {x0 : Option Nat} {σ : oSt} (hP : iKptW P) (hc : cQoW P call)  (h : P σ) : PIo P (ob_X9_isTerm n call κ  x0 σ) := by
  unfold ob_X9_isTerm
  repeat' (with_reducible (first | assumption | (refine PIoW_gd ?_) | (refine PIoW_pf hP ?_ (by decide) (by with_unfolding_all rfl) (fun _ _ => ?_)) | (refine PIoW_si hP ?_ (fun _ _ => ?_)) | (refine PIoW_sj hP ?_ (fun _ _ => ?_)) | (refine PIoW_sr hP ?_ (fun _ _ => ?_)) | (refine PIoW_cy hP ?_ (fun _ _ => ?_)) | (refine PIoW_bn (fun _ => ?_)) | (refine PIoW_na hP ?_ (fun _ _ => ?_)) | (refine PIoW_no hP ?_ (fun _ _ => ?_)) | (refine PIoW_ite ?_ ?_) | (refine PIoW_some ?_) | (exact PIoW_none) | (refine pioW_oj_X9_isTerm_28 hP hc  ?_)))
theorem pioW_ob_X2_say  {x0 : Option Nat} {x1 : Int32} {x2 : Option Nat} {σ : oSt} (hP : iKptW P) (hc : cQoW P call)  (h : P σ) : PIo P (ob_X2_say n call κ  x0 x1 x2 σ) := by
  unfold ob_X2_say
  repeat' (with_reducible (first | assumption | (refine PIoW_gd ?_) | (refine PIoW_pf hP ?_ (by decide) (by with_unfolding_all rfl) (fun _ _ => ?_)) | (refine PIoW_si hP ?_ (fun _ _ => ?_)) | (refine PIoW_sj hP ?_ (fun _ _ => ?_)) | (refine PIoW_sr hP ?_ (fun _ _ => ?_)) | (refine PIoW_cy hP ?_ (fun _ _ => ?_)) | (refine PIoW_bn (fun _ => ?_)) | (refine PIoW_na hP ?_ (fun _ _ => ?_)) | (refine PIoW_no hP ?_ (fun _ _ => ?_)) | (refine PIoW_ite ?_ ?_) | (refine PIoW_some ?_) | (exact PIoW_none)))
theorem pioW_ob_X2_of  {x0 : Int32} {x1 : Option Nat} {σ : oSt} (hP : iKptW P) (hc : cQoW P call)  (h : P σ) : PIo P (ob_X2_of n call κ  x0 x1 σ) := by
  unfold ob_X2_of
  repeat' (with_reducible (first | assumption | (refine PIoW_gd ?_) | (refine PIoW_pf hP ?_ (by decide) (by with_unfolding_all rfl) (fun _ _ => ?_)) | (refine PIoW_si hP ?_ (fun _ _ => ?_)) | (refine PIoW_sj hP ?_ (fun _ _ => ?_)) | (refine PIoW_sr hP ?_ (fun _ _ => ?_)) | (refine PIoW_cy hP ?_ (fun _ _ => ?_)) | (refine PIoW_bn (fun _ => ?_)) | (refine PIoW_na hP ?_ (fun _ _ => ?_)) | (refine PIoW_no hP ?_ (fun _ _ => ?_)) | (refine PIoW_ite ?_ ?_) | (refine PIoW_some ?_) | (exact PIoW_none) | (refine PIoW_cv (cQoW.c1 hc _ _ _ ?_) (fun _ _ => ?_)) | (refine PIoW_cv (cQoW.c15 hc _ _ _ ?_) (fun _ _ => ?_)) | (refine PIoW_cv (cQoW.c16 hc _ _ _ _ ?_) (fun _ _ => ?_)) | (refine PIoW_in (cQoW.c14 hc _ _ ?_) (fun _ _ _ => ?_))))
theorem pioW_oj_X0_product_19  {x0 : Option Nat} {x1 : Option Nat} {t0 : Int32} {σ : oSt} (hP : iKptW P) (hc : cQoW P call)  (h : P σ) : PIo P (oj_X0_product_19 n call κ  x0 x1 t0 σ) := by
  unfold oj_X0_product_19
  repeat' (with_reducible (first | assumption | (refine PIoW_gd ?_) | (refine PIoW_pf hP ?_ (by decide) (by with_unfolding_all rfl) (fun _ _ => ?_)) | (refine PIoW_si hP ?_ (fun _ _ => ?_)) | (refine PIoW_sj hP ?_ (fun _ _ => ?_)) | (refine PIoW_sr hP ?_ (fun _ _ => ?_)) | (refine PIoW_cy hP ?_ (fun _ _ => ?_)) | (refine PIoW_bn (fun _ => ?_)) | (refine PIoW_na hP ?_ (fun _ _ => ?_)) | (refine PIoW_no hP ?_ (fun _ _ => ?_)) | (refine PIoW_ite ?_ ?_) | (refine PIoW_some ?_) | (exact PIoW_none) | (refine PIoW_rn (cQoW.c11 hc _ _ _ _ ?_) (fun _ _ _ => ?_)) | (refine PIoW_rn (cQoW.c17 hc _ _ _ ?_) (fun _ _ _ => ?_))))
theorem pioW_oj_X0_product_18  {x0 : Option Nat} {x1 : Option Nat} {σ : oSt} (hP : iKptW P) (hc : cQoW P call)  (h : P σ) : PIo P (oj_X0_product_18 n call κ  x0 x1 σ) := by
  unfold oj_X0_product_18
  repeat' (with_reducible (first | assumption | (refine PIoW_gd ?_) | (refine PIoW_pf hP ?_ (by decide) (by with_unfolding_all rfl) (fun _ _ => ?_)) | (refine PIoW_si hP ?_ (fun _ _ => ?_)) | (refine PIoW_sj hP ?_ (fun _ _ => ?_)) | (refine PIoW_sr hP ?_ (fun _ _ => ?_)) | (refine PIoW_cy hP ?_ (fun _ _ => ?_)) | (refine PIoW_bn (fun _ => ?_)) | (refine PIoW_na hP ?_ (fun _ _ => ?_)) | (refine PIoW_no hP ?_ (fun _ _ => ?_)) | (refine PIoW_ite ?_ ?_) | (refine PIoW_some ?_) | (exact PIoW_none) | (refine pioW_oj_X0_product_19 hP hc  ?_)))
theorem pioW_ob_X0_product  {x0 : Option Nat} {x1 : Option Nat} {σ : oSt} (hP : iKptW P) (hc : cQoW P call)  (h : P σ) : PIo P (ob_X0_product n call κ  x0 x1 σ) := by
  unfold ob_X0_product
  repeat' (with_reducible (first | assumption | (refine PIoW_gd ?_) | (refine PIoW_pf hP ?_ (by decide) (by with_unfolding_all rfl) (fun _ _ => ?_)) | (refine PIoW_si hP ?_ (fun _ _ => ?_)) | (refine PIoW_sj hP ?_ (fun _ _ => ?_)) | (refine PIoW_sr hP ?_ (fun _ _ => ?_)) | (refine PIoW_cy hP ?_ (fun _ _ => ?_)) | (refine PIoW_bn (fun _ => ?_)) | (refine PIoW_na hP ?_ (fun _ _ => ?_)) | (refine PIoW_no hP ?_ (fun _ _ => ?_)) | (refine PIoW_ite ?_ ?_) | (refine PIoW_some ?_) | (exact PIoW_none) | (refine pioW_oj_X0_product_19 hP hc  ?_) | (refine pioW_oj_X0_product_18 hP hc  ?_)))
theorem pioW_ob_X0_remainder  {x0 : Option Nat} {σ : oSt} (hP : iKptW P) (hc : cQoW P call)  (h : P σ) : PIo P (ob_X0_remainder n call κ  x0 σ) := by
  unfold ob_X0_remainder
  repeat' (with_reducible (first | assumption | (refine PIoW_gd ?_) | (refine PIoW_pf hP ?_ (by decide) (by with_unfolding_all rfl) (fun _ _ => ?_)) | (refine PIoW_si hP ?_ (fun _ _ => ?_)) | (refine PIoW_sj hP ?_ (fun _ _ => ?_)) | (refine PIoW_sr hP ?_ (fun _ _ => ?_)) | (refine PIoW_cy hP ?_ (fun _ _ => ?_)) | (refine PIoW_bn (fun _ => ?_)) | (refine PIoW_na hP ?_ (fun _ _ => ?_)) | (refine PIoW_no hP ?_ (fun _ _ => ?_)) | (refine PIoW_ite ?_ ?_) | (refine PIoW_some ?_) | (exact PIoW_none) | (refine PIoW_cv (cQoW.c1 hc _ _ _ ?_) (fun _ _ => ?_)) | (refine PIoW_cv (cQoW.c8 hc _ _ ?_) (fun _ _ => ?_)) | (refine PIoW_cv (cQoW.c15 hc _ _ _ ?_) (fun _ _ => ?_)) | (refine PIoW_cv (cQoW.c16 hc _ _ _ _ ?_) (fun _ _ => ?_))))
theorem pioW_ob_X0_plain  {x0 : Option Nat} {σ : oSt} (hP : iKptW P) (hc : cQoW P call)  (h : P σ) : PIo P (ob_X0_plain n call κ  x0 σ) := by
  unfold ob_X0_plain
  repeat' (with_reducible (first | assumption | (refine PIoW_gd ?_) | (refine PIoW_pf hP ?_ (by decide) (by with_unfolding_all rfl) (fun _ _ => ?_)) | (refine PIoW_si hP ?_ (fun _ _ => ?_)) | (refine PIoW_sj hP ?_ (fun _ _ => ?_)) | (refine PIoW_sr hP ?_ (fun _ _ => ?_)) | (refine PIoW_cy hP ?_ (fun _ _ => ?_)) | (refine PIoW_bn (fun _ => ?_)) | (refine PIoW_na hP ?_ (fun _ _ => ?_)) | (refine PIoW_no hP ?_ (fun _ _ => ?_)) | (refine PIoW_ite ?_ ?_) | (refine PIoW_some ?_) | (exact PIoW_none) | (refine PIoW_cv (cQoW.c1 hc _ _ _ ?_) (fun _ _ => ?_)) | (refine PIoW_cv (cQoW.c8 hc _ _ ?_) (fun _ _ => ?_)) | (refine PIoW_in (cQoW.c6 hc _ _ ?_) (fun _ _ _ => ?_)) | (refine PIoW_rn (cQoW.c11 hc _ _ _ _ ?_) (fun _ _ _ => ?_)) | (refine PIoW_rn (cQoW.c17 hc _ _ _ ?_) (fun _ _ _ => ?_)) | (refine PIoW_rn (cQoW.c18 hc _ _ _ ?_) (fun _ _ _ => ?_)) | (refine PIoW_rn (cQoW.c19 hc _ _ ?_) (fun _ _ _ => ?_))))
theorem pioW_ol_X10_root_4  (hP : iKptW P) (hc : cQoW P call)  : ∀ (t : Nat) (x0 : Option Nat) (x1 : Int32) (x2 : Int32) (σ : oSt), P σ → PIo P (ol_X10_root_4 n call κ  t x0 x1 x2 σ) := by
  intro t
  induction t with
  | zero => intros; exact PIoW_none
  | succ t ih =>
    intro x0 x1 x2 σ h
    rw [ol_X10_root_4]
    repeat' (with_reducible (first | assumption | (refine PIoW_gd ?_) | (refine PIoW_pf hP ?_ (by decide) (by with_unfolding_all rfl) (fun _ _ => ?_)) | (refine PIoW_si hP ?_ (fun _ _ => ?_)) | (refine PIoW_sj hP ?_ (fun _ _ => ?_)) | (refine PIoW_sr hP ?_ (fun _ _ => ?_)) | (refine PIoW_cy hP ?_ (fun _ _ => ?_)) | (refine PIoW_bn (fun _ => ?_)) | (refine PIoW_na hP ?_ (fun _ _ => ?_)) | (refine PIoW_no hP ?_ (fun _ _ => ?_)) | (refine PIoW_ite ?_ ?_) | (refine PIoW_some ?_) | (exact PIoW_none) | (refine ih _ _ _ _ ?_)))
theorem pioW_ob_X10_root  {x0 : Option Nat} {x1 : Int32} {σ : oSt} (hP : iKptW P) (hc : cQoW P call)  (h : P σ) : PIo P (ob_X10_root n call κ  x0 x1 σ) := by
  unfold ob_X10_root
  repeat' (with_reducible (first | assumption | (refine PIoW_gd ?_) | (refine PIoW_pf hP ?_ (by decide) (by with_unfolding_all rfl) (fun _ _ => ?_)) | (refine PIoW_si hP ?_ (fun _ _ => ?_)) | (refine PIoW_sj hP ?_ (fun _ _ => ?_)) | (refine PIoW_sr hP ?_ (fun _ _ => ?_)) | (refine PIoW_cy hP ?_ (fun _ _ => ?_)) | (refine PIoW_bn (fun _ => ?_)) | (refine PIoW_na hP ?_ (fun _ _ => ?_)) | (refine PIoW_no hP ?_ (fun _ _ => ?_)) | (refine PIoW_ite ?_ ?_) | (refine PIoW_some ?_) | (exact PIoW_none) | (refine pioW_ol_X10_root_4 hP hc  _ _ _ _ _ ?_)))
theorem pioW_ob_X10_kindOf  {x0 : Option Nat} {x1 : Int32} {σ : oSt} (hP : iKptW P) (hc : cQoW P call)  (h : P σ) : PIo P (ob_X10_kindOf n call κ  x0 x1 σ) := by
  unfold ob_X10_kindOf
  repeat' (with_reducible (first | assumption | (refine PIoW_gd ?_) | (refine PIoW_pf hP ?_ (by decide) (by with_unfolding_all rfl) (fun _ _ => ?_)) | (refine PIoW_si hP ?_ (fun _ _ => ?_)) | (refine PIoW_sj hP ?_ (fun _ _ => ?_)) | (refine PIoW_sr hP ?_ (fun _ _ => ?_)) | (refine PIoW_cy hP ?_ (fun _ _ => ?_)) | (refine PIoW_bn (fun _ => ?_)) | (refine PIoW_na hP ?_ (fun _ _ => ?_)) | (refine PIoW_no hP ?_ (fun _ _ => ?_)) | (refine PIoW_ite ?_ ?_) | (refine PIoW_some ?_) | (exact PIoW_none) | (refine PIoW_in (cQoW.c21 hc _ _ _ ?_) (fun _ _ _ => ?_))))
theorem pioW_ob_X10_takenBy  {x0 : Option Nat} {x1 : Int32} {σ : oSt} (hP : iKptW P) (hc : cQoW P call)  (h : P σ) : PIo P (ob_X10_takenBy n call κ  x0 x1 σ) := by
  unfold ob_X10_takenBy
  repeat' (with_reducible (first | assumption | (refine PIoW_gd ?_) | (refine PIoW_pf hP ?_ (by decide) (by with_unfolding_all rfl) (fun _ _ => ?_)) | (refine PIoW_si hP ?_ (fun _ _ => ?_)) | (refine PIoW_sj hP ?_ (fun _ _ => ?_)) | (refine PIoW_sr hP ?_ (fun _ _ => ?_)) | (refine PIoW_cy hP ?_ (fun _ _ => ?_)) | (refine PIoW_bn (fun _ => ?_)) | (refine PIoW_na hP ?_ (fun _ _ => ?_)) | (refine PIoW_no hP ?_ (fun _ _ => ?_)) | (refine PIoW_ite ?_ ?_) | (refine PIoW_some ?_) | (exact PIoW_none) | (refine PIoW_in (cQoW.c21 hc _ _ _ ?_) (fun _ _ _ => ?_))))
theorem pioW_ob_X10_answeredBy  {x0 : Option Nat} {x1 : Int32} {σ : oSt} (hP : iKptW P) (hc : cQoW P call)  (h : P σ) : PIo P (ob_X10_answeredBy n call κ  x0 x1 σ) := by
  unfold ob_X10_answeredBy
  repeat' (with_reducible (first | assumption | (refine PIoW_gd ?_) | (refine PIoW_pf hP ?_ (by decide) (by with_unfolding_all rfl) (fun _ _ => ?_)) | (refine PIoW_si hP ?_ (fun _ _ => ?_)) | (refine PIoW_sj hP ?_ (fun _ _ => ?_)) | (refine PIoW_sr hP ?_ (fun _ _ => ?_)) | (refine PIoW_cy hP ?_ (fun _ _ => ?_)) | (refine PIoW_bn (fun _ => ?_)) | (refine PIoW_na hP ?_ (fun _ _ => ?_)) | (refine PIoW_no hP ?_ (fun _ _ => ?_)) | (refine PIoW_ite ?_ ?_) | (refine PIoW_some ?_) | (exact PIoW_none) | (refine PIoW_in (cQoW.c21 hc _ _ _ ?_) (fun _ _ _ => ?_))))
theorem pioW_oj_X0_instance_54  {x1 : Option Nat} {x2 : Int32} {σ : oSt} (hP : iKptW P) (hc : cQoW P call)  (h : P σ) : PIo P (oj_X0_instance_54 n call κ  x1 x2 σ) := by
  unfold oj_X0_instance_54
  repeat' (with_reducible (first | assumption | (refine PIoW_gd ?_) | (refine PIoW_pf hP ?_ (by decide) (by with_unfolding_all rfl) (fun _ _ => ?_)) | (refine PIoW_si hP ?_ (fun _ _ => ?_)) | (refine PIoW_sj hP ?_ (fun _ _ => ?_)) | (refine PIoW_sr hP ?_ (fun _ _ => ?_)) | (refine PIoW_cy hP ?_ (fun _ _ => ?_)) | (refine PIoW_bn (fun _ => ?_)) | (refine PIoW_na hP ?_ (fun _ _ => ?_)) | (refine PIoW_no hP ?_ (fun _ _ => ?_)) | (refine PIoW_ite ?_ ?_) | (refine PIoW_some ?_) | (exact PIoW_none)))
theorem pioW_oj_X0_instance_16  {x0 : Option Nat} {x1 : Option Nat} {x2 : Int32} {σ : oSt} (hP : iKptW P) (hc : cQoW P call)  (h : P σ) : PIo P (oj_X0_instance_16 n call κ  x0 x1 x2 σ) := by
  unfold oj_X0_instance_16
  repeat' (with_reducible (first | assumption | (refine PIoW_gd ?_) | (refine PIoW_pf hP ?_ (by decide) (by with_unfolding_all rfl) (fun _ _ => ?_)) | (refine PIoW_si hP ?_ (fun _ _ => ?_)) | (refine PIoW_sj hP ?_ (fun _ _ => ?_)) | (refine PIoW_sr hP ?_ (fun _ _ => ?_)) | (refine PIoW_cy hP ?_ (fun _ _ => ?_)) | (refine PIoW_bn (fun _ => ?_)) | (refine PIoW_na hP ?_ (fun _ _ => ?_)) | (refine PIoW_no hP ?_ (fun _ _ => ?_)) | (refine PIoW_ite ?_ ?_) | (refine PIoW_some ?_) | (exact PIoW_none) | (refine PIoW_rn (cQoW.c11 hc _ _ _ _ ?_) (fun _ _ _ => ?_)) | (refine pioW_oj_X0_instance_54 hP hc  ?_)))
theorem pioW_ob_X0_instance  {x0 : Option Nat} {x1 : Option Nat} {x2 : Int32} {σ : oSt} (hP : iKptW P) (hc : cQoW P call)  (h : P σ) : PIo P (ob_X0_instance n call κ  x0 x1 x2 σ) := by
  unfold ob_X0_instance
  repeat' (with_reducible (first | assumption | (refine PIoW_gd ?_) | (refine PIoW_pf hP ?_ (by decide) (by with_unfolding_all rfl) (fun _ _ => ?_)) | (refine PIoW_si hP ?_ (fun _ _ => ?_)) | (refine PIoW_sj hP ?_ (fun _ _ => ?_)) | (refine PIoW_sr hP ?_ (fun _ _ => ?_)) | (refine PIoW_cy hP ?_ (fun _ _ => ?_)) | (refine PIoW_bn (fun _ => ?_)) | (refine PIoW_na hP ?_ (fun _ _ => ?_)) | (refine PIoW_no hP ?_ (fun _ _ => ?_)) | (refine PIoW_ite ?_ ?_) | (refine PIoW_some ?_) | (exact PIoW_none) | (refine pioW_oj_X0_instance_16 hP hc  ?_)))
theorem pioW_oj_X0_sayInstances_200 {k71 : Option Nat → Option Nat → Int32 → oSt → oRs} {x0 : Option Nat} {x1 : Option Nat} {x3 : Int32} {σ : oSt} (hP : iKptW P) (hc : cQoW P call) (hk71 : ∀ (a0 : Option Nat) (a1 : Option Nat) (a2 : Int32), ∀ σ, P σ → PIo P (k71 a0 a1 a2 σ)) (h : P σ) : PIo P (oj_X0_sayInstances_200 n call κ k71 x0 x1 x3 σ) := by
  unfold oj_X0_sayInstances_200
  repeat' (with_reducible (first | assumption | (refine PIoW_gd ?_) | (refine PIoW_pf hP ?_ (by decide) (by with_unfolding_all rfl) (fun _ _ => ?_)) | (refine PIoW_si hP ?_ (fun _ _ => ?_)) | (refine PIoW_sj hP ?_ (fun _ _ => ?_)) | (refine PIoW_sr hP ?_ (fun _ _ => ?_)) | (refine PIoW_cy hP ?_ (fun _ _ => ?_)) | (refine PIoW_bn (fun _ => ?_)) | (refine PIoW_na hP ?_ (fun _ _ => ?_)) | (refine PIoW_no hP ?_ (fun _ _ => ?_)) | (refine PIoW_ite ?_ ?_) | (refine PIoW_some ?_) | (exact PIoW_none) | (refine hk71 _ _ _ _ ?_)))
theorem pioW_ol_X0_sayInstances_160 {k71 : Option Nat → Option Nat → Int32 → oSt → oRs} (hP : iKptW P) (hc : cQoW P call) (hk71 : ∀ (a0 : Option Nat) (a1 : Option Nat) (a2 : Int32), ∀ σ, P σ → PIo P (k71 a0 a1 a2 σ)) : ∀ (t : Nat) (x0 : Option Nat) (x1 : Option Nat) (x2 : Int32) (x3 : Int32) (σ : oSt), P σ → PIo P (ol_X0_sayInstances_160 n call κ k71 t x0 x1 x2 x3 σ) := by
  intro t
  induction t with
  | zero => intros; exact PIoW_none
  | succ t ih =>
    intro x0 x1 x2 x3 σ h
    rw [ol_X0_sayInstances_160]
    repeat' (with_reducible (first | assumption | (refine PIoW_gd ?_) | (refine PIoW_pf hP ?_ (by decide) (by with_unfolding_all rfl) (fun _ _ => ?_)) | (refine PIoW_si hP ?_ (fun _ _ => ?_)) | (refine PIoW_sj hP ?_ (fun _ _ => ?_)) | (refine PIoW_sr hP ?_ (fun _ _ => ?_)) | (refine PIoW_cy hP ?_ (fun _ _ => ?_)) | (refine PIoW_bn (fun _ => ?_)) | (refine PIoW_na hP ?_ (fun _ _ => ?_)) | (refine PIoW_no hP ?_ (fun _ _ => ?_)) | (refine PIoW_ite ?_ ?_) | (refine PIoW_some ?_) | (exact PIoW_none) | (refine PIoW_cv (cQoW.c16 hc _ _ _ _ ?_) (fun _ _ => ?_)) | (refine PIoW_rn (cQoW.c25 hc _ _ _ _ ?_) (fun _ _ _ => ?_)) | (refine pioW_oj_X0_sayInstances_200 hP hc hk71 ?_) | (refine ih _ _ _ _ _ ?_) | (refine hk71 _ _ _ _ ?_)))
theorem pioW_oj_X0_sayInstances_141 {k71 : Option Nat → Option Nat → Int32 → oSt → oRs} {x0 : Option Nat} {x1 : Option Nat} {x3 : Int32} {σ : oSt} (hP : iKptW P) (hc : cQoW P call) (hk71 : ∀ (a0 : Option Nat) (a1 : Option Nat) (a2 : Int32), ∀ σ, P σ → PIo P (k71 a0 a1 a2 σ)) (h : P σ) : PIo P (oj_X0_sayInstances_141 n call κ k71 x0 x1 x3 σ) := by
  unfold oj_X0_sayInstances_141
  repeat' (with_reducible (first | assumption | (refine PIoW_gd ?_) | (refine PIoW_pf hP ?_ (by decide) (by with_unfolding_all rfl) (fun _ _ => ?_)) | (refine PIoW_si hP ?_ (fun _ _ => ?_)) | (refine PIoW_sj hP ?_ (fun _ _ => ?_)) | (refine PIoW_sr hP ?_ (fun _ _ => ?_)) | (refine PIoW_cy hP ?_ (fun _ _ => ?_)) | (refine PIoW_bn (fun _ => ?_)) | (refine PIoW_na hP ?_ (fun _ _ => ?_)) | (refine PIoW_no hP ?_ (fun _ _ => ?_)) | (refine PIoW_ite ?_ ?_) | (refine PIoW_some ?_) | (exact PIoW_none) | (refine pioW_ol_X0_sayInstances_160 hP hc hk71 _ _ _ _ _ _ ?_) | (refine pioW_oj_X0_sayInstances_200 hP hc hk71 ?_) | (refine hk71 _ _ _ _ ?_)))
theorem pioW_ol_X0_sayInstances_71  (hP : iKptW P) (hc : cQoW P call)  : ∀ (t : Nat) (x0 : Option Nat) (x1 : Option Nat) (x2 : Int32) (σ : oSt), P σ → PIo P (ol_X0_sayInstances_71 n call κ  t x0 x1 x2 σ) := by
  intro t
  induction t with
  | zero => intros; exact PIoW_none
  | succ t ih =>
    intro x0 x1 x2 σ h
    rw [ol_X0_sayInstances_71]
    repeat' (with_reducible (first | assumption | (refine PIoW_gd ?_) | (refine PIoW_pf hP ?_ (by decide) (by with_unfolding_all rfl) (fun _ _ => ?_)) | (refine PIoW_si hP ?_ (fun _ _ => ?_)) | (refine PIoW_sj hP ?_ (fun _ _ => ?_)) | (refine PIoW_sr hP ?_ (fun _ _ => ?_)) | (refine PIoW_cy hP ?_ (fun _ _ => ?_)) | (refine PIoW_bn (fun _ => ?_)) | (refine PIoW_na hP ?_ (fun _ _ => ?_)) | (refine PIoW_no hP ?_ (fun _ _ => ?_)) | (refine PIoW_ite ?_ ?_) | (refine PIoW_some ?_) | (exact PIoW_none) | (refine PIoW_cv (cQoW.c16 hc _ _ _ _ ?_) (fun _ _ => ?_)) | (refine PIoW_rn (cQoW.c11 hc _ _ _ _ ?_) (fun _ _ _ => ?_)) | (refine pioW_oj_X0_sayInstances_200 hP hc ih ?_) | (refine pioW_oj_X0_sayInstances_141 hP hc ih ?_)))
theorem pioW_oj_X0_sayInstances_56 {k4 : Option Nat → Option Nat → Int32 → Int32 → oSt → oRs} {x0 : Option Nat} {x1 : Option Nat} {x3 : Int32} {t0 : Int32} {t1 : Int32} {σ : oSt} (hP : iKptW P) (hc : cQoW P call) (hk4 : ∀ (a0 : Option Nat) (a1 : Option Nat) (a2 : Int32) (a3 : Int32), ∀ σ, P σ → PIo P (k4 a0 a1 a2 a3 σ)) (h : P σ) : PIo P (oj_X0_sayInstances_56 n call κ k4 x0 x1 x3 t0 t1 σ) := by
  unfold oj_X0_sayInstances_56
  repeat' (with_reducible (first | assumption | (refine PIoW_gd ?_) | (refine PIoW_pf hP ?_ (by decide) (by with_unfolding_all rfl) (fun _ _ => ?_)) | (refine PIoW_si hP ?_ (fun _ _ => ?_)) | (refine PIoW_sj hP ?_ (fun _ _ => ?_)) | (refine PIoW_sr hP ?_ (fun _ _ => ?_)) | (refine PIoW_cy hP ?_ (fun _ _ => ?_)) | (refine PIoW_bn (fun _ => ?_)) | (refine PIoW_na hP ?_ (fun _ _ => ?_)) | (refine PIoW_no hP ?_ (fun _ _ => ?_)) | (refine PIoW_ite ?_ ?_) | (refine PIoW_some ?_) | (exact PIoW_none) | (refine hk4 _ _ _ _ _ ?_)))
theorem pioW_ol_X0_sayInstances_4  (hP : iKptW P) (hc : cQoW P call)  : ∀ (t : Nat) (x0 : Option Nat) (x1 : Option Nat) (x2 : Int32) (x3 : Int32) (σ : oSt), P σ → PIo P (ol_X0_sayInstances_4 n call κ  t x0 x1 x2 x3 σ) := by
  intro t
  induction t with
  | zero => intros; exact PIoW_none
  | succ t ih =>
    intro x0 x1 x2 x3 σ h
    rw [ol_X0_sayInstances_4]
    repeat' (with_reducible (first | assumption | (refine PIoW_gd ?_) | (refine PIoW_pf hP ?_ (by decide) (by with_unfolding_all rfl) (fun _ _ => ?_)) | (refine PIoW_si hP ?_ (fun _ _ => ?_)) | (refine PIoW_sj hP ?_ (fun _ _ => ?_)) | (refine PIoW_sr hP ?_ (fun _ _ => ?_)) | (refine PIoW_cy hP ?_ (fun _ _ => ?_)) | (refine PIoW_bn (fun _ => ?_)) | (refine PIoW_na hP ?_ (fun _ _ => ?_)) | (refine PIoW_no hP ?_ (fun _ _ => ?_)) | (refine PIoW_ite ?_ ?_) | (refine PIoW_some ?_) | (exact PIoW_none) | (refine PIoW_cv (cQoW.c15 hc _ _ _ ?_) (fun _ _ => ?_)) | (refine pioW_ol_X0_sayInstances_71 hP hc  _ _ _ _ _ ?_) | (refine pioW_oj_X0_sayInstances_56 hP hc ih ?_)))
theorem pioW_ob_X0_sayInstances  {x0 : Option Nat} {x1 : Option Nat} {σ : oSt} (hP : iKptW P) (hc : cQoW P call)  (h : P σ) : PIo P (ob_X0_sayInstances n call κ  x0 x1 σ) := by
  unfold ob_X0_sayInstances
  repeat' (with_reducible (first | assumption | (refine PIoW_gd ?_) | (refine PIoW_pf hP ?_ (by decide) (by with_unfolding_all rfl) (fun _ _ => ?_)) | (refine PIoW_si hP ?_ (fun _ _ => ?_)) | (refine PIoW_sj hP ?_ (fun _ _ => ?_)) | (refine PIoW_sr hP ?_ (fun _ _ => ?_)) | (refine PIoW_cy hP ?_ (fun _ _ => ?_)) | (refine PIoW_bn (fun _ => ?_)) | (refine PIoW_na hP ?_ (fun _ _ => ?_)) | (refine PIoW_no hP ?_ (fun _ _ => ?_)) | (refine PIoW_ite ?_ ?_) | (refine PIoW_some ?_) | (exact PIoW_none) | (refine pioW_ol_X0_sayInstances_4 hP hc  _ _ _ _ _ _ ?_)))
theorem pioW_oj_X0_shape_205  {x0 : Option Nat} {x4 : Option Nat} {σ : oSt} (hP : iKptW P) (hc : cQoW P call)  (h : P σ) : PIo P (oj_X0_shape_205 n call κ  x0 x4 σ) := by
  unfold oj_X0_shape_205
  repeat' (with_reducible (first | assumption | (refine PIoW_gd ?_) | (refine PIoW_pf hP ?_ (by decide) (by with_unfolding_all rfl) (fun _ _ => ?_)) | (refine PIoW_si hP ?_ (fun _ _ => ?_)) | (refine PIoW_sj hP ?_ (fun _ _ => ?_)) | (refine PIoW_sr hP ?_ (fun _ _ => ?_)) | (refine PIoW_cy hP ?_ (fun _ _ => ?_)) | (refine PIoW_bn (fun _ => ?_)) | (refine PIoW_na hP ?_ (fun _ _ => ?_)) | (refine PIoW_no hP ?_ (fun _ _ => ?_)) | (refine PIoW_ite ?_ ?_) | (refine PIoW_some ?_) | (exact PIoW_none) | (refine PIoW_cv (cQoW.c26 hc _ _ _ ?_) (fun _ _ => ?_))))
theorem pioW_oj_X0_shape_175  {x0 : Option Nat} {x1 : Int32} {x2 : Option Nat} {x3 : Int32} {x4 : Option Nat} {x6 : Int32} {σ : oSt} (hP : iKptW P) (hc : cQoW P call)  (h : P σ) : PIo P (oj_X0_shape_175 n call κ  x0 x1 x2 x3 x4 x6 σ) := by
  unfold oj_X0_shape_175
  repeat' (with_reducible (first | assumption | (refine PIoW_gd ?_) | (refine PIoW_pf hP ?_ (by decide) (by with_unfolding_all rfl) (fun _ _ => ?_)) | (refine PIoW_si hP ?_ (fun _ _ => ?_)) | (refine PIoW_sj hP ?_ (fun _ _ => ?_)) | (refine PIoW_sr hP ?_ (fun _ _ => ?_)) | (refine PIoW_cy hP ?_ (fun _ _ => ?_)) | (refine PIoW_bn (fun _ => ?_)) | (refine PIoW_na hP ?_ (fun _ _ => ?_)) | (refine PIoW_no hP ?_ (fun _ _ => ?_)) | (refine PIoW_ite ?_ ?_) | (refine PIoW_some ?_) | (exact PIoW_none) | (refine PIoW_in (cQoW.c24 hc _ _ _ ?_) (fun _ _ _ => ?_)) | (refine PIoW_rn (cQoW.c27 hc _ _ _ _ _ ?_) (fun _ _ _ => ?_))))
theorem pioW_oj_X0_shape_106  {x0 : Option Nat} {x1 : Int32} {x2 : Option Nat} {x3 : Int32} {x4 : Option Nat} {t0 : Option Nat} {t1 : Option Nat} {σ : oSt} (hP : iKptW P) (hc : cQoW P call)  (h : P σ) : PIo P (oj_X0_shape_106 n call κ  x0 x1 x2 x3 x4 t0 t1 σ) := by
  unfold oj_X0_shape_106
  repeat' (with_reducible (first | assumption | (refine PIoW_gd ?_) | (refine PIoW_pf hP ?_ (by decide) (by with_unfolding_all rfl) (fun _ _ => ?_)) | (refine PIoW_si hP ?_ (fun _ _ => ?_)) | (refine PIoW_sj hP ?_ (fun _ _ => ?_)) | (refine PIoW_sr hP ?_ (fun _ _ => ?_)) | (refine PIoW_cy hP ?_ (fun _ _ => ?_)) | (refine PIoW_bn (fun _ => ?_)) | (refine PIoW_na hP ?_ (fun _ _ => ?_)) | (refine PIoW_no hP ?_ (fun _ _ => ?_)) | (refine PIoW_ite ?_ ?_) | (refine PIoW_some ?_) | (exact PIoW_none) | (refine PIoW_in (cQoW.c6 hc _ _ ?_) (fun _ _ _ => ?_)) | (refine pioW_oj_X0_shape_175 hP hc  ?_)))
theorem pioW_oj_X0_shape_51  {x0 : Option Nat} {x1 : Int32} {x2 : Option Nat} {x3 : Int32} {x4 : Option Nat} {t0 : Int32} {σ : oSt} (hP : iKptW P) (hc : cQoW P call)  (h : P σ) : PIo P (oj_X0_shape_51 n call κ  x0 x1 x2 x3 x4 t0 σ) := by
  unfold oj_X0_shape_51
  repeat' (with_reducible (first | assumption | (refine PIoW_gd ?_) | (refine PIoW_pf hP ?_ (by decide) (by with_unfolding_all rfl) (fun _ _ => ?_)) | (refine PIoW_si hP ?_ (fun _ _ => ?_)) | (refine PIoW_sj hP ?_ (fun _ _ => ?_)) | (refine PIoW_sr hP ?_ (fun _ _ => ?_)) | (refine PIoW_cy hP ?_ (fun _ _ => ?_)) | (refine PIoW_bn (fun _ => ?_)) | (refine PIoW_na hP ?_ (fun _ _ => ?_)) | (refine PIoW_no hP ?_ (fun _ _ => ?_)) | (refine PIoW_ite ?_ ?_) | (refine PIoW_some ?_) | (exact PIoW_none) | (refine PIoW_cv (cQoW.c7 hc _ _ _ _ ?_) (fun _ _ => ?_)) | (refine PIoW_in (cQoW.c23 hc _ _ _ ?_) (fun _ _ _ => ?_)) | (refine PIoW_rn (cQoW.c27 hc _ _ _ _ _ ?_) (fun _ _ _ => ?_)) | (refine PIoW_rn (cQoW.c234 hc _ _ _ ?_) (fun _ _ _ => ?_)) | (refine pioW_oj_X0_shape_106 hP hc  ?_)))
theorem pioW_oj_X0_shape_50  {x0 : Option Nat} {x1 : Int32} {x2 : Option Nat} {x3 : Int32} {x4 : Option Nat} {σ : oSt} (hP : iKptW P) (hc : cQoW P call)  (h : P σ) : PIo P (oj_X0_shape_50 n call κ  x0 x1 x2 x3 x4 σ) := by
  unfold oj_X0_shape_50
  repeat' (with_reducible (first | assumption | (refine PIoW_gd ?_) | (refine PIoW_pf hP ?_ (by decide) (by with_unfolding_all rfl) (fun _ _ => ?_)) | (refine PIoW_si hP ?_ (fun _ _ => ?_)) | (refine PIoW_sj hP ?_ (fun _ _ => ?_)) | (refine PIoW_sr hP ?_ (fun _ _ => ?_)) | (refine PIoW_cy hP ?_ (fun _ _ => ?_)) | (refine PIoW_bn (fun _ => ?_)) | (refine PIoW_na hP ?_ (fun _ _ => ?_)) | (refine PIoW_no hP ?_ (fun _ _ => ?_)) | (refine PIoW_ite ?_ ?_) | (refine PIoW_some ?_) | (exact PIoW_none) | (refine pioW_oj_X0_shape_51 hP hc  ?_)))
theorem pioW_ob_X0_shape  {x0 : Option Nat} {x1 : Int32} {x2 : Option Nat} {x3 : Int32} {σ : oSt} (hP : iKptW P) (hc : cQoW P call)  (h : P σ) : PIo P (ob_X0_shape n call κ  x0 x1 x2 x3 σ) := by
  unfold ob_X0_shape
  repeat' (with_reducible (first | assumption | (refine PIoW_gd ?_) | (refine PIoW_pf hP ?_ (by decide) (by with_unfolding_all rfl) (fun _ _ => ?_)) | (refine PIoW_si hP ?_ (fun _ _ => ?_)) | (refine PIoW_sj hP ?_ (fun _ _ => ?_)) | (refine PIoW_sr hP ?_ (fun _ _ => ?_)) | (refine PIoW_cy hP ?_ (fun _ _ => ?_)) | (refine PIoW_bn (fun _ => ?_)) | (refine PIoW_na hP ?_ (fun _ _ => ?_)) | (refine PIoW_no hP ?_ (fun _ _ => ?_)) | (refine PIoW_ite ?_ ?_) | (refine PIoW_some ?_) | (exact PIoW_none) | (refine PIoW_cv (cQoW.c1 hc _ _ _ ?_) (fun _ _ => ?_)) | (refine PIoW_in (cQoW.c22 hc _ _ _ ?_) (fun _ _ _ => ?_)) | (refine PIoW_in (cQoW.c236 hc _ _ ?_) (fun _ _ _ => ?_)) | (refine pioW_oj_X0_shape_205 hP hc  ?_) | (refine pioW_oj_X0_shape_50 hP hc  ?_) | (refine pioW_oj_X0_shape_51 hP hc  ?_)))
theorem pioW_oj_X0_template_103 {k59 : Option Nat → Int32 → Option Nat → Int32 → Option Nat → oSt → oRs} {x0 : Option Nat} {x1 : Int32} {x2 : Option Nat} {x4 : Int32} {x5 : Option Nat} {σ : oSt} (hP : iKptW P) (hc : cQoW P call) (hk59 : ∀ (a0 : Option Nat) (a1 : Int32) (a2 : Option Nat) (a3 : Int32) (a4 : Option Nat), ∀ σ, P σ → PIo P (k59 a0 a1 a2 a3 a4 σ)) (h : P σ) : PIo P (oj_X0_template_103 n call κ k59 x0 x1 x2 x4 x5 σ) := by
  unfold oj_X0_template_103
  repeat' (with_reducible (first | assumption | (refine PIoW_gd ?_) | (refine PIoW_pf hP ?_ (by decide) (by with_unfolding_all rfl) (fun _ _ => ?_)) | (refine PIoW_si hP ?_ (fun _ _ => ?_)) | (refine PIoW_sj hP ?_ (fun _ _ => ?_)) | (refine PIoW_sr hP ?_ (fun _ _ => ?_)) | (refine PIoW_cy hP ?_ (fun _ _ => ?_)) | (refine PIoW_bn (fun _ => ?_)) | (refine PIoW_na hP ?_ (fun _ _ => ?_)) | (refine PIoW_no hP ?_ (fun _ _ => ?_)) | (refine PIoW_ite ?_ ?_) | (refine PIoW_some ?_) | (exact PIoW_none) | (refine hk59 _ _ _ _ _ _ ?_)))
theorem pioW_ol_X0_template_59  (hP : iKptW P) (hc : cQoW P call)  : ∀ (t : Nat) (x0 : Option Nat) (x1 : Int32) (x2 : Option Nat) (x3 : Int32) (x4 : Option Nat) (σ : oSt), P σ → PIo P (ol_X0_template_59 n call κ  t x0 x1 x2 x3 x4 σ) := by
  intro t
  induction t with
  | zero => intros; exact PIoW_none
  | succ t ih =>
    intro x0 x1 x2 x3 x4 σ h
    rw [ol_X0_template_59]
    repeat' (with_reducible (first | assumption | (refine PIoW_gd ?_) | (refine PIoW_pf hP ?_ (by decide) (by with_unfolding_all rfl) (fun _ _ => ?_)) | (refine PIoW_si hP ?_ (fun _ _ => ?_)) | (refine PIoW_sj hP ?_ (fun _ _ => ?_)) | (refine PIoW_sr hP ?_ (fun _ _ => ?_)) | (refine PIoW_cy hP ?_ (fun _ _ => ?_)) | (refine PIoW_bn (fun _ => ?_)) | (refine PIoW_na hP ?_ (fun _ _ => ?_)) | (refine PIoW_no hP ?_ (fun _ _ => ?_)) | (refine PIoW_ite ?_ ?_) | (refine PIoW_some ?_) | (exact PIoW_none) | (refine PIoW_in (cQoW.c6 hc _ _ ?_) (fun _ _ _ => ?_)) | (refine PIoW_rn (cQoW.c27 hc _ _ _ _ _ ?_) (fun _ _ _ => ?_)) | (refine pioW_oj_X0_template_103 hP hc ih ?_)))
theorem pioW_oj_X0_template_37 {k6 : Option Nat → Int32 → Option Nat → Option Nat → Int32 → Option Nat → oSt → oRs} {x0 : Option Nat} {x1 : Int32} {x2 : Option Nat} {x3 : Option Nat} {x5 : Option Nat} {t0 : Int32} {t1 : Int32} {σ : oSt} (hP : iKptW P) (hc : cQoW P call) (hk6 : ∀ (a0 : Option Nat) (a1 : Int32) (a2 : Option Nat) (a3 : Option Nat) (a4 : Int32) (a5 : Option Nat), ∀ σ, P σ → PIo P (k6 a0 a1 a2 a3 a4 a5 σ)) (h : P σ) : PIo P (oj_X0_template_37 n call κ k6 x0 x1 x2 x3 x5 t0 t1 σ) := by
  unfold oj_X0_template_37
  repeat' (with_reducible (first | assumption | (refine PIoW_gd ?_) | (refine PIoW_pf hP ?_ (by decide) (by with_unfolding_all rfl) (fun _ _ => ?_)) | (refine PIoW_si hP ?_ (fun _ _ => ?_)) | (refine PIoW_sj hP ?_ (fun _ _ => ?_)) | (refine PIoW_sr hP ?_ (fun _ _ => ?_)) | (refine PIoW_cy hP ?_ (fun _ _ => ?_)) | (refine PIoW_bn (fun _ => ?_)) | (refine PIoW_na hP ?_ (fun _ _ => ?_)) | (refine PIoW_no hP ?_ (fun _ _ => ?_)) | (refine PIoW_ite ?_ ?_) | (refine PIoW_some ?_) | (exact PIoW_none) | (refine hk6 _ _ _ _ _ _ _ ?_)))
theorem pioW_oj_X0_template_36 {k6 : Option Nat → Int32 → Option Nat → Option Nat → Int32 → Option Nat → oSt → oRs} {x0 : Option Nat} {x1 : Int32} {x2 : Option Nat} {x3 : Option Nat} {x5 : Option Nat} {t0 : Int32} {σ : oSt} (hP : iKptW P) (hc : cQoW P call) (hk6 : ∀ (a0 : Option Nat) (a1 : Int32) (a2 : Option Nat) (a3 : Option Nat) (a4 : Int32) (a5 : Option Nat), ∀ σ, P σ → PIo P (k6 a0 a1 a2 a3 a4 a5 σ)) (h : P σ) : PIo P (oj_X0_template_36 n call κ k6 x0 x1 x2 x3 x5 t0 σ) := by
  unfold oj_X0_template_36
  repeat' (with_reducible (first | assumption | (refine PIoW_gd ?_) | (refine PIoW_pf hP ?_ (by decide) (by with_unfolding_all rfl) (fun _ _ => ?_)) | (refine PIoW_si hP ?_ (fun _ _ => ?_)) | (refine PIoW_sj hP ?_ (fun _ _ => ?_)) | (refine PIoW_sr hP ?_ (fun _ _ => ?_)) | (refine PIoW_cy hP ?_ (fun _ _ => ?_)) | (refine PIoW_bn (fun _ => ?_)) | (refine PIoW_na hP ?_ (fun _ _ => ?_)) | (refine PIoW_no hP ?_ (fun _ _ => ?_)) | (refine PIoW_ite ?_ ?_) | (refine PIoW_some ?_) | (exact PIoW_none) | (refine pioW_oj_X0_template_37 hP hc hk6 ?_) | (refine hk6 _ _ _ _ _ _ _ ?_)))
theorem pioW_ol_X0_template_6  (hP : iKptW P) (hc : cQoW P call)  : ∀ (t : Nat) (x0 : Option Nat) (x1 : Int32) (x2 : Option Nat) (x3 : Option Nat) (x4 : Int32) (x5 : Option Nat) (σ : oSt), P σ → PIo P (ol_X0_template_6 n call κ  t x0 x1 x2 x3 x4 x5 σ) := by
  intro t
  induction t with
  | zero => intros; exact PIoW_none
  | succ t ih =>
    intro x0 x1 x2 x3 x4 x5 σ h
    rw [ol_X0_template_6]
    repeat' (with_reducible (first | assumption | (refine PIoW_gd ?_) | (refine PIoW_pf hP ?_ (by decide) (by with_unfolding_all rfl) (fun _ _ => ?_)) | (refine PIoW_si hP ?_ (fun _ _ => ?_)) | (refine PIoW_sj hP ?_ (fun _ _ => ?_)) | (refine PIoW_sr hP ?_ (fun _ _ => ?_)) | (refine PIoW_cy hP ?_ (fun _ _ => ?_)) | (refine PIoW_bn (fun _ => ?_)) | (refine PIoW_na hP ?_ (fun _ _ => ?_)) | (refine PIoW_no hP ?_ (fun _ _ => ?_)) | (refine PIoW_ite ?_ ?_) | (refine PIoW_some ?_) | (exact PIoW_none) | (refine PIoW_in (cQoW.c6 hc _ _ ?_) (fun _ _ _ => ?_)) | (refine pioW_ol_X0_template_59 hP hc  _ _ _ _ _ _ _ ?_) | (refine pioW_oj_X0_template_36 hP hc ih ?_) | (refine pioW_oj_X0_template_37 hP hc ih ?_)))
theorem pioW_ob_X0_template  {x0 : Option Nat} {x1 : Int32} {x2 : Option Nat} {x3 : Option Nat} {σ : oSt} (hP : iKptW P) (hc : cQoW P call)  (h : P σ) : PIo P (ob_X0_template n call κ  x0 x1 x2 x3 σ) := by
  unfold ob_X0_template
  repeat' (with_reducible (first | assumption | (refine PIoW_gd ?_) | (refine PIoW_pf hP ?_ (by decide) (by with_unfolding_all rfl) (fun _ _ => ?_)) | (refine PIoW_si hP ?_ (fun _ _ => ?_)) | (refine PIoW_sj hP ?_ (fun _ _ => ?_)) | (refine PIoW_sr hP ?_ (fun _ _ => ?_)) | (refine PIoW_cy hP ?_ (fun _ _ => ?_)) | (refine PIoW_bn (fun _ => ?_)) | (refine PIoW_na hP ?_ (fun _ _ => ?_)) | (refine PIoW_no hP ?_ (fun _ _ => ?_)) | (refine PIoW_ite ?_ ?_) | (refine PIoW_some ?_) | (exact PIoW_none) | (refine pioW_ol_X0_template_6 hP hc  _ _ _ _ _ _ _ _ ?_)))
theorem pioW_ol_X0_fitBody_9  (hP : iKptW P) (hc : cQoW P call)  : ∀ (t : Nat) (x0 : Option Nat) (x1 : Option Nat) (x2 : Option Nat) (x3 : Option Nat) (x4 : Int32) (σ : oSt), P σ → PIo P (ol_X0_fitBody_9 n call κ  t x0 x1 x2 x3 x4 σ) := by
  intro t
  induction t with
  | zero => intros; exact PIoW_none
  | succ t ih =>
    intro x0 x1 x2 x3 x4 σ h
    rw [ol_X0_fitBody_9]
    repeat' (with_reducible (first | assumption | (refine PIoW_gd ?_) | (refine PIoW_pf hP ?_ (by decide) (by with_unfolding_all rfl) (fun _ _ => ?_)) | (refine PIoW_si hP ?_ (fun _ _ => ?_)) | (refine PIoW_sj hP ?_ (fun _ _ => ?_)) | (refine PIoW_sr hP ?_ (fun _ _ => ?_)) | (refine PIoW_cy hP ?_ (fun _ _ => ?_)) | (refine PIoW_bn (fun _ => ?_)) | (refine PIoW_na hP ?_ (fun _ _ => ?_)) | (refine PIoW_no hP ?_ (fun _ _ => ?_)) | (refine PIoW_ite ?_ ?_) | (refine PIoW_some ?_) | (exact PIoW_none) | (refine PIoW_cv (cQoW.c2 hc _ _ _ _ ?_) (fun _ _ => ?_)) | (refine PIoW_cv (cQoW.c12 hc _ _ _ _ _ ?_) (fun _ _ => ?_)) | (refine PIoW_in (cQoW.c236 hc _ _ ?_) (fun _ _ _ => ?_)) | (refine PIoW_rn (cQoW.c4 hc _ _ _ ?_) (fun _ _ _ => ?_)) | (refine PIoW_rn (cQoW.c30 hc _ _ _ _ ?_) (fun _ _ _ => ?_)) | (refine PIoW_rn (cQoW.c234 hc _ _ _ ?_) (fun _ _ _ => ?_)) | (refine ih _ _ _ _ _ _ ?_)))
theorem pioW_ob_X0_fitBody  {x0 : Option Nat} {x1 : Option Nat} {x2 : Option Nat} {x3 : Option Nat} {σ : oSt} (hP : iKptW P) (hc : cQoW P call)  (h : P σ) : PIo P (ob_X0_fitBody n call κ  x0 x1 x2 x3 σ) := by
  unfold ob_X0_fitBody
  repeat' (with_reducible (first | assumption | (refine PIoW_gd ?_) | (refine PIoW_pf hP ?_ (by decide) (by with_unfolding_all rfl) (fun _ _ => ?_)) | (refine PIoW_si hP ?_ (fun _ _ => ?_)) | (refine PIoW_sj hP ?_ (fun _ _ => ?_)) | (refine PIoW_sr hP ?_ (fun _ _ => ?_)) | (refine PIoW_cy hP ?_ (fun _ _ => ?_)) | (refine PIoW_bn (fun _ => ?_)) | (refine PIoW_na hP ?_ (fun _ _ => ?_)) | (refine PIoW_no hP ?_ (fun _ _ => ?_)) | (refine PIoW_ite ?_ ?_) | (refine PIoW_some ?_) | (exact PIoW_none) | (refine pioW_ol_X0_fitBody_9 hP hc  _ _ _ _ _ _ _ ?_)))
theorem pioW_oj_X0_walk_21  {x0 : Option Nat} {x1 : Option Nat} {x2 : Option Nat} {σ : oSt} (hP : iKptW P) (hc : cQoW P call)  (h : P σ) : PIo P (oj_X0_walk_21 n call κ  x0 x1 x2 σ) := by
  unfold oj_X0_walk_21
  repeat' (with_reducible (first | assumption | (refine PIoW_gd ?_) | (refine PIoW_pf hP ?_ (by decide) (by with_unfolding_all rfl) (fun _ _ => ?_)) | (refine PIoW_si hP ?_ (fun _ _ => ?_)) | (refine PIoW_sj hP ?_ (fun _ _ => ?_)) | (refine PIoW_sr hP ?_ (fun _ _ => ?_)) | (refine PIoW_cy hP ?_ (fun _ _ => ?_)) | (refine PIoW_bn (fun _ => ?_)) | (refine PIoW_na hP ?_ (fun _ _ => ?_)) | (refine PIoW_no hP ?_ (fun _ _ => ?_)) | (refine PIoW_ite ?_ ?_) | (refine PIoW_some ?_) | (exact PIoW_none) | (refine PIoW_cv (cQoW.c13 hc _ _ _ _ _ ?_) (fun _ _ => ?_)) | (refine PIoW_rn (cQoW.c20 hc _ _ ?_) (fun _ _ _ => ?_)) | (refine PIoW_rn (cQoW.c30 hc _ _ _ _ ?_) (fun _ _ _ => ?_)) | (refine PIoW_rn (cQoW.c31 hc _ _ _ _ ?_) (fun _ _ _ => ?_)) | (refine PIoW_rn (cQoW.c32 hc _ _ _ _ ?_) (fun _ _ _ => ?_)) | (refine PIoW_rn (cQoW.c33 hc _ _ _ _ ?_) (fun _ _ _ => ?_)) | (refine PIoW_rn (cQoW.c34 hc _ _ _ _ ?_) (fun _ _ _ => ?_)) | (refine PIoW_rn (cQoW.c35 hc _ _ _ _ ?_) (fun _ _ _ => ?_)) | (refine PIoW_rn (cQoW.c36 hc _ _ _ _ ?_) (fun _ _ _ => ?_))))
theorem pioW_ob_X0_walk  {x0 : Option Nat} {x1 : Option Nat} {x2 : Option Nat} {σ : oSt} (hP : iKptW P) (hc : cQoW P call)  (h : P σ) : PIo P (ob_X0_walk n call κ  x0 x1 x2 σ) := by
  unfold ob_X0_walk
  repeat' (with_reducible (first | assumption | (refine PIoW_gd ?_) | (refine PIoW_pf hP ?_ (by decide) (by with_unfolding_all rfl) (fun _ _ => ?_)) | (refine PIoW_si hP ?_ (fun _ _ => ?_)) | (refine PIoW_sj hP ?_ (fun _ _ => ?_)) | (refine PIoW_sr hP ?_ (fun _ _ => ?_)) | (refine PIoW_cy hP ?_ (fun _ _ => ?_)) | (refine PIoW_bn (fun _ => ?_)) | (refine PIoW_na hP ?_ (fun _ _ => ?_)) | (refine PIoW_no hP ?_ (fun _ _ => ?_)) | (refine PIoW_ite ?_ ?_) | (refine PIoW_some ?_) | (exact PIoW_none) | (refine PIoW_in (cQoW.c227 hc _ _ _ ?_) (fun _ _ _ => ?_)) | (refine pioW_oj_X0_walk_21 hP hc  ?_)))
theorem pioW_oj_X0_walkCall_90 {k11 : Option Nat → Option Nat → Option Nat → Option Nat → Int32 → oSt → oRs} {x0 : Option Nat} {x1 : Option Nat} {x2 : Option Nat} {x4 : Int32} {t0 : Option Nat} {t1 : Option Nat} {σ : oSt} (hP : iKptW P) (hc : cQoW P call) (hk11 : ∀ (a0 : Option Nat) (a1 : Option Nat) (a2 : Option Nat) (a3 : Option Nat) (a4 : Int32), ∀ σ, P σ → PIo P (k11 a0 a1 a2 a3 a4 σ)) (h : P σ) : PIo P (oj_X0_walkCall_90 n call κ k11 x0 x1 x2 x4 t0 t1 σ) := by
  unfold oj_X0_walkCall_90
  repeat' (with_reducible (first | assumption | (refine PIoW_gd ?_) | (refine PIoW_pf hP ?_ (by decide) (by with_unfolding_all rfl) (fun _ _ => ?_)) | (refine PIoW_si hP ?_ (fun _ _ => ?_)) | (refine PIoW_sj hP ?_ (fun _ _ => ?_)) | (refine PIoW_sr hP ?_ (fun _ _ => ?_)) | (refine PIoW_cy hP ?_ (fun _ _ => ?_)) | (refine PIoW_bn (fun _ => ?_)) | (refine PIoW_na hP ?_ (fun _ _ => ?_)) | (refine PIoW_no hP ?_ (fun _ _ => ?_)) | (refine PIoW_ite ?_ ?_) | (refine PIoW_some ?_) | (exact PIoW_none) | (refine PIoW_rn (cQoW.c4 hc _ _ _ ?_) (fun _ _ _ => ?_)) | (refine hk11 _ _ _ _ _ _ ?_)))
theorem pioW_ol_X0_walkCall_11  (hP : iKptW P) (hc : cQoW P call)  : ∀ (t : Nat) (x0 : Option Nat) (x1 : Option Nat) (x2 : Option Nat) (x3 : Option Nat) (x4 : Int32) (σ : oSt), P σ → PIo P (ol_X0_walkCall_11 n call κ  t x0 x1 x2 x3 x4 σ) := by
  intro t
  induction t with
  | zero => intros; exact PIoW_none
  | succ t ih =>
    intro x0 x1 x2 x3 x4 σ h
    rw [ol_X0_walkCall_11]
    repeat' (with_reducible (first | assumption | (refine PIoW_gd ?_) | (refine PIoW_pf hP ?_ (by decide) (by with_unfolding_all rfl) (fun _ _ => ?_)) | (refine PIoW_si hP ?_ (fun _ _ => ?_)) | (refine PIoW_sj hP ?_ (fun _ _ => ?_)) | (refine PIoW_sr hP ?_ (fun _ _ => ?_)) | (refine PIoW_cy hP ?_ (fun _ _ => ?_)) | (refine PIoW_bn (fun _ => ?_)) | (refine PIoW_na hP ?_ (fun _ _ => ?_)) | (refine PIoW_no hP ?_ (fun _ _ => ?_)) | (refine PIoW_ite ?_ ?_) | (refine PIoW_some ?_) | (exact PIoW_none) | (refine PIoW_cv (cQoW.c12 hc _ _ _ _ _ ?_) (fun _ _ => ?_)) | (refine PIoW_in (cQoW.c6 hc _ _ ?_) (fun _ _ _ => ?_)) | (refine PIoW_in (cQoW.c236 hc _ _ ?_) (fun _ _ _ => ?_)) | (refine PIoW_rn (cQoW.c5 hc _ _ ?_) (fun _ _ _ => ?_)) | (refine PIoW_rn (cQoW.c30 hc _ _ _ _ ?_) (fun _ _ _ => ?_)) | (refine PIoW_rn (cQoW.c234 hc _ _ _ ?_) (fun _ _ _ => ?_)) | (refine pioW_oj_X0_walkCall_90 hP hc ih ?_)))
theorem pioW_ob_X0_walkCall  {x0 : Option Nat} {x1 : Option Nat} {x2 : Option Nat} {σ : oSt} (hP : iKptW P) (hc : cQoW P call)  (h : P σ) : PIo P (ob_X0_walkCall n call κ  x0 x1 x2 σ) := by
  unfold ob_X0_walkCall
  repeat' (with_reducible (first | assumption | (refine PIoW_gd ?_) | (refine PIoW_pf hP ?_ (by decide) (by with_unfolding_all rfl) (fun _ _ => ?_)) | (refine PIoW_si hP ?_ (fun _ _ => ?_)) | (refine PIoW_sj hP ?_ (fun _ _ => ?_)) | (refine PIoW_sr hP ?_ (fun _ _ => ?_)) | (refine PIoW_cy hP ?_ (fun _ _ => ?_)) | (refine PIoW_bn (fun _ => ?_)) | (refine PIoW_na hP ?_ (fun _ _ => ?_)) | (refine PIoW_no hP ?_ (fun _ _ => ?_)) | (refine PIoW_ite ?_ ?_) | (refine PIoW_some ?_) | (exact PIoW_none) | (refine pioW_ol_X0_walkCall_11 hP hc  _ _ _ _ _ _ _ ?_)))
theorem pioW_ob_X0_walkFunction  {x0 : Option Nat} {x1 : Option Nat} {x2 : Option Nat} {σ : oSt} (hP : iKptW P) (hc : cQoW P call)  (h : P σ) : PIo P (ob_X0_walkFunction n call κ  x0 x1 x2 σ) := by
  unfold ob_X0_walkFunction
  repeat' (with_reducible (first | assumption | (refine PIoW_gd ?_) | (refine PIoW_pf hP ?_ (by decide) (by with_unfolding_all rfl) (fun _ _ => ?_)) | (refine PIoW_si hP ?_ (fun _ _ => ?_)) | (refine PIoW_sj hP ?_ (fun _ _ => ?_)) | (refine PIoW_sr hP ?_ (fun _ _ => ?_)) | (refine PIoW_cy hP ?_ (fun _ _ => ?_)) | (refine PIoW_bn (fun _ => ?_)) | (refine PIoW_na hP ?_ (fun _ _ => ?_)) | (refine PIoW_no hP ?_ (fun _ _ => ?_)) | (refine PIoW_ite ?_ ?_) | (refine PIoW_some ?_) | (exact PIoW_none) | (refine PIoW_cv (cQoW.c29 hc _ _ _ _ _ ?_) (fun _ _ => ?_)) | (refine PIoW_rn (cQoW.c28 hc _ _ _ _ _ ?_) (fun _ _ _ => ?_))))
theorem pioW_ob_X0_walkIf  {x0 : Option Nat} {x1 : Option Nat} {x2 : Option Nat} {σ : oSt} (hP : iKptW P) (hc : cQoW P call)  (h : P σ) : PIo P (ob_X0_walkIf n call κ  x0 x1 x2 σ) := by
  unfold ob_X0_walkIf
  repeat' (with_reducible (first | assumption | (refine PIoW_gd ?_) | (refine PIoW_pf hP ?_ (by decide) (by with_unfolding_all rfl) (fun _ _ => ?_)) | (refine PIoW_si hP ?_ (fun _ _ => ?_)) | (refine PIoW_sj hP ?_ (fun _ _ => ?_)) | (refine PIoW_sr hP ?_ (fun _ _ => ?_)) | (refine PIoW_cy hP ?_ (fun _ _ => ?_)) | (refine PIoW_bn (fun _ => ?_)) | (refine PIoW_na hP ?_ (fun _ _ => ?_)) | (refine PIoW_no hP ?_ (fun _ _ => ?_)) | (refine PIoW_ite ?_ ?_) | (refine PIoW_some ?_) | (exact PIoW_none) | (refine PIoW_cv (cQoW.c12 hc _ _ _ _ _ ?_) (fun _ _ => ?_)) | (refine PIoW_cv (cQoW.c13 hc _ _ _ _ _ ?_) (fun _ _ => ?_)) | (refine PIoW_rn (cQoW.c28 hc _ _ _ _ _ ?_) (fun _ _ _ => ?_)) | (refine PIoW_rn (cQoW.c30 hc _ _ _ _ ?_) (fun _ _ _ => ?_))))
theorem pioW_ob_X0_walkLet  {x0 : Option Nat} {x1 : Option Nat} {x2 : Option Nat} {σ : oSt} (hP : iKptW P) (hc : cQoW P call)  (h : P σ) : PIo P (ob_X0_walkLet n call κ  x0 x1 x2 σ) := by
  unfold ob_X0_walkLet
  repeat' (with_reducible (first | assumption | (refine PIoW_gd ?_) | (refine PIoW_pf hP ?_ (by decide) (by with_unfolding_all rfl) (fun _ _ => ?_)) | (refine PIoW_si hP ?_ (fun _ _ => ?_)) | (refine PIoW_sj hP ?_ (fun _ _ => ?_)) | (refine PIoW_sr hP ?_ (fun _ _ => ?_)) | (refine PIoW_cy hP ?_ (fun _ _ => ?_)) | (refine PIoW_bn (fun _ => ?_)) | (refine PIoW_na hP ?_ (fun _ _ => ?_)) | (refine PIoW_no hP ?_ (fun _ _ => ?_)) | (refine PIoW_ite ?_ ?_) | (refine PIoW_some ?_) | (exact PIoW_none) | (refine PIoW_cv (cQoW.c2 hc _ _ _ _ ?_) (fun _ _ => ?_)) | (refine PIoW_cv (cQoW.c12 hc _ _ _ _ _ ?_) (fun _ _ => ?_)) | (refine PIoW_rn (cQoW.c28 hc _ _ _ _ _ ?_) (fun _ _ _ => ?_)) | (refine PIoW_rn (cQoW.c30 hc _ _ _ _ ?_) (fun _ _ _ => ?_))))
theorem pioW_ob_X0_walkMatch  {x0 : Option Nat} {x1 : Option Nat} {x2 : Option Nat} {σ : oSt} (hP : iKptW P) (hc : cQoW P call)  (h : P σ) : PIo P (ob_X0_walkMatch n call κ  x0 x1 x2 σ) := by
  unfold ob_X0_walkMatch
  repeat' (with_reducible (first | assumption | (refine PIoW_gd ?_) | (refine PIoW_pf hP ?_ (by decide) (by with_unfolding_all rfl) (fun _ _ => ?_)) | (refine PIoW_si hP ?_ (fun _ _ => ?_)) | (refine PIoW_sj hP ?_ (fun _ _ => ?_)) | (refine PIoW_sr hP ?_ (fun _ _ => ?_)) | (refine PIoW_cy hP ?_ (fun _ _ => ?_)) | (refine PIoW_bn (fun _ => ?_)) | (refine PIoW_na hP ?_ (fun _ _ => ?_)) | (refine PIoW_no hP ?_ (fun _ _ => ?_)) | (refine PIoW_ite ?_ ?_) | (refine PIoW_some ?_) | (exact PIoW_none) | (refine PIoW_cv (cQoW.c1 hc _ _ _ ?_) (fun _ _ => ?_)) | (refine PIoW_cv (cQoW.c2 hc _ _ _ _ ?_) (fun _ _ => ?_)) | (refine PIoW_cv (cQoW.c12 hc _ _ _ _ _ ?_) (fun _ _ => ?_)) | (refine PIoW_cv (cQoW.c13 hc _ _ _ _ _ ?_) (fun _ _ => ?_)) | (refine PIoW_rn (cQoW.c11 hc _ _ _ _ ?_) (fun _ _ _ => ?_)) | (refine PIoW_rn (cQoW.c17 hc _ _ _ ?_) (fun _ _ _ => ?_)) | (refine PIoW_rn (cQoW.c28 hc _ _ _ _ _ ?_) (fun _ _ _ => ?_)) | (refine PIoW_rn (cQoW.c30 hc _ _ _ _ ?_) (fun _ _ _ => ?_)) | (refine PIoW_rn (cQoW.c234 hc _ _ _ ?_) (fun _ _ _ => ?_))))
theorem pioW_ob_X0_walkRec  {x0 : Option Nat} {x1 : Option Nat} {x2 : Option Nat} {σ : oSt} (hP : iKptW P) (hc : cQoW P call)  (h : P σ) : PIo P (ob_X0_walkRec n call κ  x0 x1 x2 σ) := by
  unfold ob_X0_walkRec
  repeat' (with_reducible (first | assumption | (refine PIoW_gd ?_) | (refine PIoW_pf hP ?_ (by decide) (by with_unfolding_all rfl) (fun _ _ => ?_)) | (refine PIoW_si hP ?_ (fun _ _ => ?_)) | (refine PIoW_sj hP ?_ (fun _ _ => ?_)) | (refine PIoW_sr hP ?_ (fun _ _ => ?_)) | (refine PIoW_cy hP ?_ (fun _ _ => ?_)) | (refine PIoW_bn (fun _ => ?_)) | (refine PIoW_na hP ?_ (fun _ _ => ?_)) | (refine PIoW_no hP ?_ (fun _ _ => ?_)) | (refine PIoW_ite ?_ ?_) | (refine PIoW_some ?_) | (exact PIoW_none) | (refine PIoW_cv (cQoW.c2 hc _ _ _ _ ?_) (fun _ _ => ?_)) | (refine PIoW_cv (cQoW.c12 hc _ _ _ _ _ ?_) (fun _ _ => ?_)) | (refine PIoW_cv (cQoW.c29 hc _ _ _ _ _ ?_) (fun _ _ => ?_)) | (refine PIoW_rn (cQoW.c28 hc _ _ _ _ _ ?_) (fun _ _ _ => ?_)) | (refine PIoW_rn (cQoW.c30 hc _ _ _ _ ?_) (fun _ _ _ => ?_))))
theorem pioW_ol_X0_gather_4  (hP : iKptW P) (hc : cQoW P call)  : ∀ (t : Nat) (x0 : Option Nat) (x1 : Option Nat) (x2 : Int32) (σ : oSt), P σ → PIo P (ol_X0_gather_4 n call κ  t x0 x1 x2 σ) := by
  intro t
  induction t with
  | zero => intros; exact PIoW_none
  | succ t ih =>
    intro x0 x1 x2 σ h
    rw [ol_X0_gather_4]
    repeat' (with_reducible (first | assumption | (refine PIoW_gd ?_) | (refine PIoW_pf hP ?_ (by decide) (by with_unfolding_all rfl) (fun _ _ => ?_)) | (refine PIoW_si hP ?_ (fun _ _ => ?_)) | (refine PIoW_sj hP ?_ (fun _ _ => ?_)) | (refine PIoW_sr hP ?_ (fun _ _ => ?_)) | (refine PIoW_cy hP ?_ (fun _ _ => ?_)) | (refine PIoW_bn (fun _ => ?_)) | (refine PIoW_na hP ?_ (fun _ _ => ?_)) | (refine PIoW_no hP ?_ (fun _ _ => ?_)) | (refine PIoW_ite ?_ ?_) | (refine PIoW_some ?_) | (exact PIoW_none) | (refine PIoW_cv (cQoW.c1 hc _ _ _ ?_) (fun _ _ => ?_)) | (refine PIoW_cv (cQoW.c2 hc _ _ _ _ ?_) (fun _ _ => ?_)) | (refine PIoW_rn (cQoW.c30 hc _ _ _ _ ?_) (fun _ _ _ => ?_)) | (refine PIoW_rn (cQoW.c234 hc _ _ _ ?_) (fun _ _ _ => ?_)) | (refine ih _ _ _ _ ?_)))
theorem pioW_ob_X0_gather  {x0 : Option Nat} {σ : oSt} (hP : iKptW P) (hc : cQoW P call)  (h : P σ) : PIo P (ob_X0_gather n call κ  x0 σ) := by
  unfold ob_X0_gather
  repeat' (with_reducible (first | assumption | (refine PIoW_gd ?_) | (refine PIoW_pf hP ?_ (by decide) (by with_unfolding_all rfl) (fun _ _ => ?_)) | (refine PIoW_si hP ?_ (fun _ _ => ?_)) | (refine PIoW_sj hP ?_ (fun _ _ => ?_)) | (refine PIoW_sr hP ?_ (fun _ _ => ?_)) | (refine PIoW_cy hP ?_ (fun _ _ => ?_)) | (refine PIoW_bn (fun _ => ?_)) | (refine PIoW_na hP ?_ (fun _ _ => ?_)) | (refine PIoW_no hP ?_ (fun _ _ => ?_)) | (refine PIoW_ite ?_ ?_) | (refine PIoW_some ?_) | (exact PIoW_none) | (refine pioW_ol_X0_gather_4 hP hc  _ _ _ _ _ ?_)))
theorem pioW_oj_X9_isFact_68   {σ : oSt} (hP : iKptW P) (hc : cQoW P call)  (h : P σ) : PIo P (oj_X9_isFact_68 n call κ   σ) := by
  unfold oj_X9_isFact_68
  repeat' (with_reducible (first | assumption | (refine PIoW_gd ?_) | (refine PIoW_pf hP ?_ (by decide) (by with_unfolding_all rfl) (fun _ _ => ?_)) | (refine PIoW_si hP ?_ (fun _ _ => ?_)) | (refine PIoW_sj hP ?_ (fun _ _ => ?_)) | (refine PIoW_sr hP ?_ (fun _ _ => ?_)) | (refine PIoW_cy hP ?_ (fun _ _ => ?_)) | (refine PIoW_bn (fun _ => ?_)) | (refine PIoW_na hP ?_ (fun _ _ => ?_)) | (refine PIoW_no hP ?_ (fun _ _ => ?_)) | (refine PIoW_ite ?_ ?_) | (refine PIoW_some ?_) | (exact PIoW_none)))
theorem pioW_ob_X9_isFact  {x0 : Option Nat} {σ : oSt} (hP : iKptW P) (hc : cQoW P call)  (h : P σ) : PIo P (ob_X9_isFact n call κ  x0 σ) := by
  unfold ob_X9_isFact
  repeat' (with_reducible (first | assumption | (refine PIoW_gd ?_) | (refine PIoW_pf hP ?_ (by decide) (by with_unfolding_all rfl) (fun _ _ => ?_)) | (refine PIoW_si hP ?_ (fun _ _ => ?_)) | (refine PIoW_sj hP ?_ (fun _ _ => ?_)) | (refine PIoW_sr hP ?_ (fun _ _ => ?_)) | (refine PIoW_cy hP ?_ (fun _ _ => ?_)) | (refine PIoW_bn (fun _ => ?_)) | (refine PIoW_na hP ?_ (fun _ _ => ?_)) | (refine PIoW_no hP ?_ (fun _ _ => ?_)) | (refine PIoW_ite ?_ ?_) | (refine PIoW_some ?_) | (exact PIoW_none) | (refine pioW_oj_X9_isFact_68 hP hc  ?_)))
theorem pioW_oj_X1_isFormed_90 {k28 : Option Nat → Int32 → Int32 → oSt → oRs} {x0 : Option Nat} {x2 : Int32} {t0 : Int32} {σ : oSt} (hP : iKptW P) (hc : cQoW P call) (hk28 : ∀ (a0 : Option Nat) (a1 : Int32) (a2 : Int32), ∀ σ, P σ → PIo P (k28 a0 a1 a2 σ)) (h : P σ) : PIo P (oj_X1_isFormed_90 n call κ k28 x0 x2 t0 σ) := by
  unfold oj_X1_isFormed_90
  repeat' (with_reducible (first | assumption | (refine PIoW_gd ?_) | (refine PIoW_pf hP ?_ (by decide) (by with_unfolding_all rfl) (fun _ _ => ?_)) | (refine PIoW_si hP ?_ (fun _ _ => ?_)) | (refine PIoW_sj hP ?_ (fun _ _ => ?_)) | (refine PIoW_sr hP ?_ (fun _ _ => ?_)) | (refine PIoW_cy hP ?_ (fun _ _ => ?_)) | (refine PIoW_bn (fun _ => ?_)) | (refine PIoW_na hP ?_ (fun _ _ => ?_)) | (refine PIoW_no hP ?_ (fun _ _ => ?_)) | (refine PIoW_ite ?_ ?_) | (refine PIoW_some ?_) | (exact PIoW_none) | (refine hk28 _ _ _ _ ?_)))
theorem pioW_oj_X1_isFormed_89 {k28 : Option Nat → Int32 → Int32 → oSt → oRs} {x0 : Option Nat} {x2 : Int32} {σ : oSt} (hP : iKptW P) (hc : cQoW P call) (hk28 : ∀ (a0 : Option Nat) (a1 : Int32) (a2 : Int32), ∀ σ, P σ → PIo P (k28 a0 a1 a2 σ)) (h : P σ) : PIo P (oj_X1_isFormed_89 n call κ k28 x0 x2 σ) := by
  unfold oj_X1_isFormed_89
  repeat' (with_reducible (first | assumption | (refine PIoW_gd ?_) | (refine PIoW_pf hP ?_ (by decide) (by with_unfolding_all rfl) (fun _ _ => ?_)) | (refine PIoW_si hP ?_ (fun _ _ => ?_)) | (refine PIoW_sj hP ?_ (fun _ _ => ?_)) | (refine PIoW_sr hP ?_ (fun _ _ => ?_)) | (refine PIoW_cy hP ?_ (fun _ _ => ?_)) | (refine PIoW_bn (fun _ => ?_)) | (refine PIoW_na hP ?_ (fun _ _ => ?_)) | (refine PIoW_no hP ?_ (fun _ _ => ?_)) | (refine PIoW_ite ?_ ?_) | (refine PIoW_some ?_) | (exact PIoW_none) | (refine pioW_oj_X1_isFormed_90 hP hc hk28 ?_) | (refine hk28 _ _ _ _ ?_)))
theorem pioW_oj_X1_isFormed_85 {k28 : Option Nat → Int32 → Int32 → oSt → oRs} {x0 : Option Nat} {x2 : Int32} {σ : oSt} (hP : iKptW P) (hc : cQoW P call) (hk28 : ∀ (a0 : Option Nat) (a1 : Int32) (a2 : Int32), ∀ σ, P σ → PIo P (k28 a0 a1 a2 σ)) (h : P σ) : PIo P (oj_X1_isFormed_85 n call κ k28 x0 x2 σ) := by
  unfold oj_X1_isFormed_85
  repeat' (with_reducible (first | assumption | (refine PIoW_gd ?_) | (refine PIoW_pf hP ?_ (by decide) (by with_unfolding_all rfl) (fun _ _ => ?_)) | (refine PIoW_si hP ?_ (fun _ _ => ?_)) | (refine PIoW_sj hP ?_ (fun _ _ => ?_)) | (refine PIoW_sr hP ?_ (fun _ _ => ?_)) | (refine PIoW_cy hP ?_ (fun _ _ => ?_)) | (refine PIoW_bn (fun _ => ?_)) | (refine PIoW_na hP ?_ (fun _ _ => ?_)) | (refine PIoW_no hP ?_ (fun _ _ => ?_)) | (refine PIoW_ite ?_ ?_) | (refine PIoW_some ?_) | (exact PIoW_none) | (refine pioW_oj_X1_isFormed_90 hP hc hk28 ?_) | (refine hk28 _ _ _ _ ?_)))
theorem pioW_ol_X1_isFormed_28  (hP : iKptW P) (hc : cQoW P call)  : ∀ (t : Nat) (x0 : Option Nat) (x1 : Int32) (x2 : Int32) (σ : oSt), P σ → PIo P (ol_X1_isFormed_28 n call κ  t x0 x1 x2 σ) := by
  intro t
  induction t with
  | zero => intros; exact PIoW_none
  | succ t ih =>
    intro x0 x1 x2 σ h
    rw [ol_X1_isFormed_28]
    repeat' (with_reducible (first | assumption | (refine PIoW_gd ?_) | (refine PIoW_pf hP ?_ (by decide) (by with_unfolding_all rfl) (fun _ _ => ?_)) | (refine PIoW_si hP ?_ (fun _ _ => ?_)) | (refine PIoW_sj hP ?_ (fun _ _ => ?_)) | (refine PIoW_sr hP ?_ (fun _ _ => ?_)) | (refine PIoW_cy hP ?_ (fun _ _ => ?_)) | (refine PIoW_bn (fun _ => ?_)) | (refine PIoW_na hP ?_ (fun _ _ => ?_)) | (refine PIoW_no hP ?_ (fun _ _ => ?_)) | (refine PIoW_ite ?_ ?_) | (refine PIoW_some ?_) | (exact PIoW_none) | (refine PIoW_in (cQoW.c38 hc _ _ ?_) (fun _ _ _ => ?_)) | (refine PIoW_in (cQoW.c236 hc _ _ ?_) (fun _ _ _ => ?_)) | (refine PIoW_rn (cQoW.c234 hc _ _ _ ?_) (fun _ _ _ => ?_)) | (refine pioW_oj_X1_isFormed_89 hP hc ih ?_) | (refine pioW_oj_X1_isFormed_85 hP hc ih ?_)))
theorem pioW_oj_X1_isFormed_25  {x0 : Option Nat} {t0 : Int32} {σ : oSt} (hP : iKptW P) (hc : cQoW P call)  (h : P σ) : PIo P (oj_X1_isFormed_25 n call κ  x0 t0 σ) := by
  unfold oj_X1_isFormed_25
  repeat' (with_reducible (first | assumption | (refine PIoW_gd ?_) | (refine PIoW_pf hP ?_ (by decide) (by with_unfolding_all rfl) (fun _ _ => ?_)) | (refine PIoW_si hP ?_ (fun _ _ => ?_)) | (refine PIoW_sj hP ?_ (fun _ _ => ?_)) | (refine PIoW_sr hP ?_ (fun _ _ => ?_)) | (refine PIoW_cy hP ?_ (fun _ _ => ?_)) | (refine PIoW_bn (fun _ => ?_)) | (refine PIoW_na hP ?_ (fun _ _ => ?_)) | (refine PIoW_no hP ?_ (fun _ _ => ?_)) | (refine PIoW_ite ?_ ?_) | (refine PIoW_some ?_) | (exact PIoW_none) | (refine pioW_ol_X1_isFormed_28 hP hc  _ _ _ _ _ ?_)))
theorem pioW_oj_X1_isFormed_20  {x0 : Option Nat} {σ : oSt} (hP : iKptW P) (hc : cQoW P call)  (h : P σ) : PIo P (oj_X1_isFormed_20 n call κ  x0 σ) := by
  unfold oj_X1_isFormed_20
  repeat' (with_reducible (first | assumption | (refine PIoW_gd ?_) | (refine PIoW_pf hP ?_ (by decide) (by with_unfolding_all rfl) (fun _ _ => ?_)) | (refine PIoW_si hP ?_ (fun _ _ => ?_)) | (refine PIoW_sj hP ?_ (fun _ _ => ?_)) | (refine PIoW_sr hP ?_ (fun _ _ => ?_)) | (refine PIoW_cy hP ?_ (fun _ _ => ?_)) | (refine PIoW_bn (fun _ => ?_)) | (refine PIoW_na hP ?_ (fun _ _ => ?_)) | (refine PIoW_no hP ?_ (fun _ _ => ?_)) | (refine PIoW_ite ?_ ?_) | (refine PIoW_some ?_) | (exact PIoW_none) | (refine pioW_oj_X1_isFormed_25 hP hc  ?_)))
theorem pioW_ob_X1_isFormed  {x0 : Option Nat} {σ : oSt} (hP : iKptW P) (hc : cQoW P call)  (h : P σ) : PIo P (ob_X1_isFormed n call κ  x0 σ) := by
  unfold ob_X1_isFormed
  repeat' (with_reducible (first | assumption | (refine PIoW_gd ?_) | (refine PIoW_pf hP ?_ (by decide) (by with_unfolding_all rfl) (fun _ _ => ?_)) | (refine PIoW_si hP ?_ (fun _ _ => ?_)) | (refine PIoW_sj hP ?_ (fun _ _ => ?_)) | (refine PIoW_sr hP ?_ (fun _ _ => ?_)) | (refine PIoW_cy hP ?_ (fun _ _ => ?_)) | (refine PIoW_bn (fun _ => ?_)) | (refine PIoW_na hP ?_ (fun _ _ => ?_)) | (refine PIoW_no hP ?_ (fun _ _ => ?_)) | (refine PIoW_ite ?_ ?_) | (refine PIoW_some ?_) | (exact PIoW_none) | (refine PIoW_in (cQoW.c38 hc _ _ ?_) (fun _ _ _ => ?_)) | (refine pioW_oj_X1_isFormed_25 hP hc  ?_) | (refine pioW_oj_X1_isFormed_20 hP hc  ?_)))
theorem pioW_ob_X6_makeRoom  {x0 : Option Nat} {x1 : Int32} {σ : oSt} (hP : iKptW P) (hc : cQoW P call)  (h : P σ) : PIo P (ob_X6_makeRoom n call κ  x0 x1 σ) := by
  unfold ob_X6_makeRoom
  repeat' (with_reducible (first | assumption | (refine PIoW_gd ?_) | (refine PIoW_pf hP ?_ (by decide) (by with_unfolding_all rfl) (fun _ _ => ?_)) | (refine PIoW_si hP ?_ (fun _ _ => ?_)) | (refine PIoW_sj hP ?_ (fun _ _ => ?_)) | (refine PIoW_sr hP ?_ (fun _ _ => ?_)) | (refine PIoW_cy hP ?_ (fun _ _ => ?_)) | (refine PIoW_bn (fun _ => ?_)) | (refine PIoW_na hP ?_ (fun _ _ => ?_)) | (refine PIoW_no hP ?_ (fun _ _ => ?_)) | (refine PIoW_ite ?_ ?_) | (refine PIoW_some ?_) | (exact PIoW_none) | (refine PIoW_rn (cQoW.c239 hc _ _ _ ?_) (fun _ _ _ => ?_))))
theorem pioW_ol_X6_reset_67  (hP : iKptW P) (hc : cQoW P call)  : ∀ (t : Nat) (x0 : Option Nat) (x1 : Int32) (σ : oSt), P σ → PIo P (ol_X6_reset_67 n call κ  t x0 x1 σ) := by
  intro t
  induction t with
  | zero => intros; exact PIoW_none
  | succ t ih =>
    intro x0 x1 σ h
    rw [ol_X6_reset_67]
    repeat' (with_reducible (first | assumption | (refine PIoW_gd ?_) | (refine PIoW_pf hP ?_ (by decide) (by with_unfolding_all rfl) (fun _ _ => ?_)) | (refine PIoW_si hP ?_ (fun _ _ => ?_)) | (refine PIoW_sj hP ?_ (fun _ _ => ?_)) | (refine PIoW_sr hP ?_ (fun _ _ => ?_)) | (refine PIoW_cy hP ?_ (fun _ _ => ?_)) | (refine PIoW_bn (fun _ => ?_)) | (refine PIoW_na hP ?_ (fun _ _ => ?_)) | (refine PIoW_no hP ?_ (fun _ _ => ?_)) | (refine PIoW_ite ?_ ?_) | (refine PIoW_some ?_) | (exact PIoW_none) | (refine ih _ _ _ ?_)))
theorem pioW_ol_X6_reset_37  (hP : iKptW P) (hc : cQoW P call)  : ∀ (t : Nat) (x0 : Option Nat) (x1 : Int32) (σ : oSt), P σ → PIo P (ol_X6_reset_37 n call κ  t x0 x1 σ) := by
  intro t
  induction t with
  | zero => intros; exact PIoW_none
  | succ t ih =>
    intro x0 x1 σ h
    rw [ol_X6_reset_37]
    repeat' (with_reducible (first | assumption | (refine PIoW_gd ?_) | (refine PIoW_pf hP ?_ (by decide) (by with_unfolding_all rfl) (fun _ _ => ?_)) | (refine PIoW_si hP ?_ (fun _ _ => ?_)) | (refine PIoW_sj hP ?_ (fun _ _ => ?_)) | (refine PIoW_sr hP ?_ (fun _ _ => ?_)) | (refine PIoW_cy hP ?_ (fun _ _ => ?_)) | (refine PIoW_bn (fun _ => ?_)) | (refine PIoW_na hP ?_ (fun _ _ => ?_)) | (refine PIoW_no hP ?_ (fun _ _ => ?_)) | (refine PIoW_ite ?_ ?_) | (refine PIoW_some ?_) | (exact PIoW_none) | (refine pioW_ol_X6_reset_67 hP hc  _ _ _ _ ?_) | (refine ih _ _ _ ?_)))
theorem pioW_ob_X6_reset  {x0 : Option Nat} {x1 : Int32} {σ : oSt} (hP : iKptW P) (hc : cQoW P call)  (h : P σ) : PIo P (ob_X6_reset n call κ  x0 x1 σ) := by
  unfold ob_X6_reset
  repeat' (with_reducible (first | assumption | (refine PIoW_gd ?_) | (refine PIoW_pf hP ?_ (by decide) (by with_unfolding_all rfl) (fun _ _ => ?_)) | (refine PIoW_si hP ?_ (fun _ _ => ?_)) | (refine PIoW_sj hP ?_ (fun _ _ => ?_)) | (refine PIoW_sr hP ?_ (fun _ _ => ?_)) | (refine PIoW_cy hP ?_ (fun _ _ => ?_)) | (refine PIoW_bn (fun _ => ?_)) | (refine PIoW_na hP ?_ (fun _ _ => ?_)) | (refine PIoW_no hP ?_ (fun _ _ => ?_)) | (refine PIoW_ite ?_ ?_) | (refine PIoW_some ?_) | (exact PIoW_none) | (refine PIoW_cv (cQoW.c40 hc _ _ _ ?_) (fun _ _ => ?_)) | (refine pioW_ol_X6_reset_37 hP hc  _ _ _ _ ?_)))
theorem pioW_oj_X6_lead_148 {k16 : Option Nat → Int32 → Int64 → Int32 → Int32 → oSt → oRs} {x0 : Option Nat} {x1 : Int32} {x3 : Int64} {x5 : Int32} {x6 : Int32} {σ : oSt} (hP : iKptW P) (hc : cQoW P call) (hk16 : ∀ (a0 : Option Nat) (a1 : Int32) (a2 : Int64) (a3 : Int32) (a4 : Int32), ∀ σ, P σ → PIo P (k16 a0 a1 a2 a3 a4 σ)) (h : P σ) : PIo P (oj_X6_lead_148 n call κ k16 x0 x1 x3 x5 x6 σ) := by
  unfold oj_X6_lead_148
  repeat' (with_reducible (first | assumption | (refine PIoW_gd ?_) | (refine PIoW_pf hP ?_ (by decide) (by with_unfolding_all rfl) (fun _ _ => ?_)) | (refine PIoW_si hP ?_ (fun _ _ => ?_)) | (refine PIoW_sj hP ?_ (fun _ _ => ?_)) | (refine PIoW_sr hP ?_ (fun _ _ => ?_)) | (refine PIoW_cy hP ?_ (fun _ _ => ?_)) | (refine PIoW_bn (fun _ => ?_)) | (refine PIoW_na hP ?_ (fun _ _ => ?_)) | (refine PIoW_no hP ?_ (fun _ _ => ?_)) | (refine PIoW_ite ?_ ?_) | (refine PIoW_some ?_) | (exact PIoW_none) | (refine hk16 _ _ _ _ _ _ ?_)))
theorem pioW_oj_X6_lead_142 {k16 : Option Nat → Int32 → Int64 → Int32 → Int32 → oSt → oRs} {k53 : Option Nat → Int32 → Int64 → Int32 → Int32 → Int32 → Int64 → Int32 → oSt → oRs} {x0 : Option Nat} {x1 : Int32} {x3 : Int64} {x5 : Int32} {x6 : Int32} {x7 : Int32} {x8 : Int64} {x10 : Int32} {σ : oSt} (hP : iKptW P) (hc : cQoW P call) (hk16 : ∀ (a0 : Option Nat) (a1 : Int32) (a2 : Int64) (a3 : Int32) (a4 : Int32), ∀ σ, P σ → PIo P (k16 a0 a1 a2 a3 a4 σ)) (hk53 : ∀ (a0 : Option Nat) (a1 : Int32) (a2 : Int64) (a3 : Int32) (a4 : Int32) (a5 : Int32) (a6 : Int64) (a7 : Int32), ∀ σ, P σ → PIo P (k53 a0 a1 a2 a3 a4 a5 a6 a7 σ)) (h : P σ) : PIo P (oj_X6_lead_142 n call κ k16 k53 x0 x1 x3 x5 x6 x7 x8 x10 σ) := by
  unfold oj_X6_lead_142
  repeat' (with_reducible (first | assumption | (refine PIoW_gd ?_) | (refine PIoW_pf hP ?_ (by decide) (by with_unfolding_all rfl) (fun _ _ => ?_)) | (refine PIoW_si hP ?_ (fun _ _ => ?_)) | (refine PIoW_sj hP ?_ (fun _ _ => ?_)) | (refine PIoW_sr hP ?_ (fun _ _ => ?_)) | (refine PIoW_cy hP ?_ (fun _ _ => ?_)) | (refine PIoW_bn (fun _ => ?_)) | (refine PIoW_na hP ?_ (fun _ _ => ?_)) | (refine PIoW_no hP ?_ (fun _ _ => ?_)) | (refine PIoW_ite ?_ ?_) | (refine PIoW_some ?_) | (exact PIoW_none) | (refine hk16 _ _ _ _ _ _ ?_) | (refine hk53 _ _ _ _ _ _ _ _ _ ?_)))
theorem pioW_ol_X6_lead_53 {k16 : Option Nat → Int32 → Int64 → Int32 → Int32 → oSt → oRs} (hP : iKptW P) (hc : cQoW P call) (hk16 : ∀ (a0 : Option Nat) (a1 : Int32) (a2 : Int64) (a3 : Int32) (a4 : Int32), ∀ σ, P σ → PIo P (k16 a0 a1 a2 a3 a4 σ)) : ∀ (t : Nat) (x0 : Option Nat) (x1 : Int32) (x2 : Int64) (x3 : Int32) (x4 : Int32) (x5 : Int32) (x6 : Int64) (x7 : Int32) (σ : oSt), P σ → PIo P (ol_X6_lead_53 n call κ k16 t x0 x1 x2 x3 x4 x5 x6 x7 σ) := by
  intro t
  induction t with
  | zero => intros; exact PIoW_none
  | succ t ih =>
    intro x0 x1 x2 x3 x4 x5 x6 x7 σ h
    rw [ol_X6_lead_53]
    repeat' (with_reducible (first | assumption | (refine PIoW_gd ?_) | (refine PIoW_pf hP ?_ (by decide) (by with_unfolding_all rfl) (fun _ _ => ?_)) | (refine PIoW_si hP ?_ (fun _ _ => ?_)) | (refine PIoW_sj hP ?_ (fun _ _ => ?_)) | (refine PIoW_sr hP ?_ (fun _ _ => ?_)) | (refine PIoW_cy hP ?_ (fun _ _ => ?_)) | (refine PIoW_bn (fun _ => ?_)) | (refine PIoW_na hP ?_ (fun _ _ => ?_)) | (refine PIoW_no hP ?_ (fun _ _ => ?_)) | (refine PIoW_ite ?_ ?_) | (refine PIoW_some ?_) | (exact PIoW_none) | (refine pioW_oj_X6_lead_148 hP hc hk16 ?_) | (refine pioW_oj_X6_lead_142 hP hc hk16 ih ?_) | (refine hk16 _ _ _ _ _ _ ?_)))
theorem pioW_ol_X6_lead_16  (hP : iKptW P) (hc : cQoW P call)  : ∀ (t : Nat) (x0 : Option Nat) (x1 : Int32) (x2 : Int64) (x3 : Int32) (x4 : Int32) (σ : oSt), P σ → PIo P (ol_X6_lead_16 n call κ  t x0 x1 x2 x3 x4 σ) := by
  intro t
  induction t with
  | zero => intros; exact PIoW_none
  | succ t ih =>
    intro x0 x1 x2 x3 x4 σ h
    rw [ol_X6_lead_16]
    repeat' (with_reducible (first | assumption | (refine PIoW_gd ?_) | (refine PIoW_pf hP ?_ (by decide) (by with_unfolding_all rfl) (fun _ _ => ?_)) | (refine PIoW_si hP ?_ (fun _ _ => ?_)) | (refine PIoW_sj hP ?_ (fun _ _ => ?_)) | (refine PIoW_sr hP ?_ (fun _ _ => ?_)) | (refine PIoW_cy hP ?_ (fun _ _ => ?_)) | (refine PIoW_bn (fun _ => ?_)) | (refine PIoW_na hP ?_ (fun _ _ => ?_)) | (refine PIoW_no hP ?_ (fun _ _ => ?_)) | (refine PIoW_ite ?_ ?_) | (refine PIoW_some ?_) | (exact PIoW_none) | (refine pioW_ol_X6_lead_53 hP hc ih _ _ _ _ _ _ _ _ _ _ ?_)))
theorem pioW_ob_X6_lead  {x0 : Option Nat} {x1 : Int32} {x2 : Int32} {x3 : Int64} {σ : oSt} (hP : iKptW P) (hc : cQoW P call)  (h : P σ) : PIo P (ob_X6_lead n call κ  x0 x1 x2 x3 σ) := by
  unfold ob_X6_lead
  repeat' (with_reducible (first | assumption | (refine PIoW_gd ?_) | (refine PIoW_pf hP ?_ (by decide) (by with_unfolding_all rfl) (fun _ _ => ?_)) | (refine PIoW_si hP ?_ (fun _ _ => ?_)) | (refine PIoW_sj hP ?_ (fun _ _ => ?_)) | (refine PIoW_sr hP ?_ (fun _ _ => ?_)) | (refine PIoW_cy hP ?_ (fun _ _ => ?_)) | (refine PIoW_bn (fun _ => ?_)) | (refine PIoW_na hP ?_ (fun _ _ => ?_)) | (refine PIoW_no hP ?_ (fun _ _ => ?_)) | (refine PIoW_ite ?_ ?_) | (refine PIoW_some ?_) | (exact PIoW_none) | (refine pioW_ol_X6_lead_16 hP hc  _ _ _ _ _ _ _ ?_)))
theorem pioW_oj_X6_tighten_278 {k98 : Option Nat → Int32 → oSt → oRs} {x0 : Option Nat} {x1 : Int32} {σ : oSt} (hP : iKptW P) (hc : cQoW P call) (hk98 : ∀ (a0 : Option Nat) (a1 : Int32), ∀ σ, P σ → PIo P (k98 a0 a1 σ)) (h : P σ) : PIo P (oj_X6_tighten_278 n call κ k98 x0 x1 σ) := by
  unfold oj_X6_tighten_278
  repeat' (with_reducible (first | assumption | (refine PIoW_gd ?_) | (refine PIoW_pf hP ?_ (by decide) (by with_unfolding_all rfl) (fun _ _ => ?_)) | (refine PIoW_si hP ?_ (fun _ _ => ?_)) | (refine PIoW_sj hP ?_ (fun _ _ => ?_)) | (refine PIoW_sr hP ?_ (fun _ _ => ?_)) | (refine PIoW_cy hP ?_ (fun _ _ => ?_)) | (refine PIoW_bn (fun _ => ?_)) | (refine PIoW_na hP ?_ (fun _ _ => ?_)) | (refine PIoW_no hP ?_ (fun _ _ => ?_)) | (refine PIoW_ite ?_ ?_) | (refine PIoW_some ?_) | (exact PIoW_none) | (refine hk98 _ _ _ ?_)))
theorem pioW_oj_X6_tighten_272 {k98 : Option Nat → Int32 → oSt → oRs} {k181 : Option Nat → Int32 → Int64 → Int32 → oSt → oRs} {x0 : Option Nat} {x1 : Int32} {x2 : Int64} {x4 : Int32} {σ : oSt} (hP : iKptW P) (hc : cQoW P call) (hk98 : ∀ (a0 : Option Nat) (a1 : Int32), ∀ σ, P σ → PIo P (k98 a0 a1 σ)) (hk181 : ∀ (a0 : Option Nat) (a1 : Int32) (a2 : Int64) (a3 : Int32), ∀ σ, P σ → PIo P (k181 a0 a1 a2 a3 σ)) (h : P σ) : PIo P (oj_X6_tighten_272 n call κ k98 k181 x0 x1 x2 x4 σ) := by
  unfold oj_X6_tighten_272
  repeat' (with_reducible (first | assumption | (refine PIoW_gd ?_) | (refine PIoW_pf hP ?_ (by decide) (by with_unfolding_all rfl) (fun _ _ => ?_)) | (refine PIoW_si hP ?_ (fun _ _ => ?_)) | (refine PIoW_sj hP ?_ (fun _ _ => ?_)) | (refine PIoW_sr hP ?_ (fun _ _ => ?_)) | (refine PIoW_cy hP ?_ (fun _ _ => ?_)) | (refine PIoW_bn (fun _ => ?_)) | (refine PIoW_na hP ?_ (fun _ _ => ?_)) | (refine PIoW_no hP ?_ (fun _ _ => ?_)) | (refine PIoW_ite ?_ ?_) | (refine PIoW_some ?_) | (exact PIoW_none) | (refine hk98 _ _ _ ?_) | (refine hk181 _ _ _ _ _ ?_)))
theorem pioW_ol_X6_tighten_181 {k98 : Option Nat → Int32 → oSt → oRs} (hP : iKptW P) (hc : cQoW P call) (hk98 : ∀ (a0 : Option Nat) (a1 : Int32), ∀ σ, P σ → PIo P (k98 a0 a1 σ)) : ∀ (t : Nat) (x0 : Option Nat) (x1 : Int32) (x2 : Int64) (x3 : Int32) (σ : oSt), P σ → PIo P (ol_X6_tighten_181 n call κ k98 t x0 x1 x2 x3 σ) := by
  intro t
  induction t with
  | zero => intros; exact PIoW_none
  | succ t ih =>
    intro x0 x1 x2 x3 σ h
    rw [ol_X6_tighten_181]
    repeat' (with_reducible (first | assumption | (refine PIoW_gd ?_) | (refine PIoW_pf hP ?_ (by decide) (by with_unfolding_all rfl) (fun _ _ => ?_)) | (refine PIoW_si hP ?_ (fun _ _ => ?_)) | (refine PIoW_sj hP ?_ (fun _ _ => ?_)) | (refine PIoW_sr hP ?_ (fun _ _ => ?_)) | (refine PIoW_cy hP ?_ (fun _ _ => ?_)) | (refine PIoW_bn (fun _ => ?_)) | (refine PIoW_na hP ?_ (fun _ _ => ?_)) | (refine PIoW_no hP ?_ (fun _ _ => ?_)) | (refine PIoW_ite ?_ ?_) | (refine PIoW_some ?_) | (exact PIoW_none) | (refine pioW_oj_X6_tighten_278 hP hc hk98 ?_) | (refine pioW_oj_X6_tighten_272 hP hc hk98 ih ?_) | (refine hk98 _ _ _ ?_)))
theorem pioW_oj_X6_tighten_175 {k98 : Option Nat → Int32 → oSt → oRs} {x0 : Option Nat} {x1 : Int32} {x2 : Int64} {t0 : Option Nat} {t1 : Int32} {σ : oSt} (hP : iKptW P) (hc : cQoW P call) (hk98 : ∀ (a0 : Option Nat) (a1 : Int32), ∀ σ, P σ → PIo P (k98 a0 a1 σ)) (h : P σ) : PIo P (oj_X6_tighten_175 n call κ k98 x0 x1 x2 t0 t1 σ) := by
  unfold oj_X6_tighten_175
  repeat' (with_reducible (first | assumption | (refine PIoW_gd ?_) | (refine PIoW_pf hP ?_ (by decide) (by with_unfolding_all rfl) (fun _ _ => ?_)) | (refine PIoW_si hP ?_ (fun _ _ => ?_)) | (refine PIoW_sj hP ?_ (fun _ _ => ?_)) | (refine PIoW_sr hP ?_ (fun _ _ => ?_)) | (refine PIoW_cy hP ?_ (fun _ _ => ?_)) | (refine PIoW_bn (fun _ => ?_)) | (refine PIoW_na hP ?_ (fun _ _ => ?_)) | (refine PIoW_no hP ?_ (fun _ _ => ?_)) | (refine PIoW_ite ?_ ?_) | (refine PIoW_some ?_) | (exact PIoW_none) | (refine pioW_ol_X6_tighten_181 hP hc hk98 _ _ _ _ _ _ ?_) | (refine hk98 _ _ _ ?_)))
theorem pioW_oj_X6_tighten_174 {k98 : Option Nat → Int32 → oSt → oRs} {x0 : Option Nat} {x1 : Int32} {x2 : Int64} {t0 : Option Nat} {σ : oSt} (hP : iKptW P) (hc : cQoW P call) (hk98 : ∀ (a0 : Option Nat) (a1 : Int32), ∀ σ, P σ → PIo P (k98 a0 a1 σ)) (h : P σ) : PIo P (oj_X6_tighten_174 n call κ k98 x0 x1 x2 t0 σ) := by
  unfold oj_X6_tighten_174
  repeat' (with_reducible (first | assumption | (refine PIoW_gd ?_) | (refine PIoW_pf hP ?_ (by decide) (by with_unfolding_all rfl) (fun _ _ => ?_)) | (refine PIoW_si hP ?_ (fun _ _ => ?_)) | (refine PIoW_sj hP ?_ (fun _ _ => ?_)) | (refine PIoW_sr hP ?_ (fun _ _ => ?_)) | (refine PIoW_cy hP ?_ (fun _ _ => ?_)) | (refine PIoW_bn (fun _ => ?_)) | (refine PIoW_na hP ?_ (fun _ _ => ?_)) | (refine PIoW_no hP ?_ (fun _ _ => ?_)) | (refine PIoW_ite ?_ ?_) | (refine PIoW_some ?_) | (exact PIoW_none) | (refine pioW_oj_X6_tighten_175 hP hc hk98 ?_) | (refine hk98 _ _ _ ?_)))
theorem pioW_ol_X6_tighten_98  (hP : iKptW P) (hc : cQoW P call)  : ∀ (t : Nat) (x0 : Option Nat) (x1 : Int32) (σ : oSt), P σ → PIo P (ol_X6_tighten_98 n call κ  t x0 x1 σ) := by
  intro t
  induction t with
  | zero => intros; exact PIoW_none
  | succ t ih =>
    intro x0 x1 σ h
    rw [ol_X6_tighten_98]
    repeat' (with_reducible (first | assumption | (refine PIoW_gd ?_) | (refine PIoW_pf hP ?_ (by decide) (by with_unfolding_all rfl) (fun _ _ => ?_)) | (refine PIoW_si hP ?_ (fun _ _ => ?_)) | (refine PIoW_sj hP ?_ (fun _ _ => ?_)) | (refine PIoW_sr hP ?_ (fun _ _ => ?_)) | (refine PIoW_cy hP ?_ (fun _ _ => ?_)) | (refine PIoW_bn (fun _ => ?_)) | (refine PIoW_na hP ?_ (fun _ _ => ?_)) | (refine PIoW_no hP ?_ (fun _ _ => ?_)) | (refine PIoW_ite ?_ ?_) | (refine PIoW_some ?_) | (exact PIoW_none) | (refine pioW_oj_X6_tighten_174 hP hc ih ?_) | (refine pioW_oj_X6_tighten_175 hP hc ih ?_)))
theorem pioW_oj_X6_tighten_96  {x0 : Option Nat} {σ : oSt} (hP : iKptW P) (hc : cQoW P call)  (h : P σ) : PIo P (oj_X6_tighten_96 n call κ  x0 σ) := by
  unfold oj_X6_tighten_96
  repeat' (with_reducible (first | assumption | (refine PIoW_gd ?_) | (refine PIoW_pf hP ?_ (by decide) (by with_unfolding_all rfl) (fun _ _ => ?_)) | (refine PIoW_si hP ?_ (fun _ _ => ?_)) | (refine PIoW_sj hP ?_ (fun _ _ => ?_)) | (refine PIoW_sr hP ?_ (fun _ _ => ?_)) | (refine PIoW_cy hP ?_ (fun _ _ => ?_)) | (refine PIoW_bn (fun _ => ?_)) | (refine PIoW_na hP ?_ (fun _ _ => ?_)) | (refine PIoW_no hP ?_ (fun _ _ => ?_)) | (refine PIoW_ite ?_ ?_) | (refine PIoW_some ?_) | (exact PIoW_none) | (refine pioW_ol_X6_tighten_98 hP hc  _ _ _ _ ?_)))
theorem pioW_oj_X6_tighten_87 {k2 : Option Nat → Int32 → oSt → oRs} {x0 : Option Nat} {x1 : Int32} {t0 : Option Nat} {t1 : Int32} {σ : oSt} (hP : iKptW P) (hc : cQoW P call) (hk2 : ∀ (a0 : Option Nat) (a1 : Int32), ∀ σ, P σ → PIo P (k2 a0 a1 σ)) (h : P σ) : PIo P (oj_X6_tighten_87 n call κ k2 x0 x1 t0 t1 σ) := by
  unfold oj_X6_tighten_87
  repeat' (with_reducible (first | assumption | (refine PIoW_gd ?_) | (refine PIoW_pf hP ?_ (by decide) (by with_unfolding_all rfl) (fun _ _ => ?_)) | (refine PIoW_si hP ?_ (fun _ _ => ?_)) | (refine PIoW_sj hP ?_ (fun _ _ => ?_)) | (refine PIoW_sr hP ?_ (fun _ _ => ?_)) | (refine PIoW_cy hP ?_ (fun _ _ => ?_)) | (refine PIoW_bn (fun _ => ?_)) | (refine PIoW_na hP ?_ (fun _ _ => ?_)) | (refine PIoW_no hP ?_ (fun _ _ => ?_)) | (refine PIoW_ite ?_ ?_) | (refine PIoW_some ?_) | (exact PIoW_none) | (refine hk2 _ _ _ ?_)))
theorem pioW_oj_X6_tighten_58 {k2 : Option Nat → Int32 → oSt → oRs} {x0 : Option Nat} {x1 : Int32} {σ : oSt} (hP : iKptW P) (hc : cQoW P call) (hk2 : ∀ (a0 : Option Nat) (a1 : Int32), ∀ σ, P σ → PIo P (k2 a0 a1 σ)) (h : P σ) : PIo P (oj_X6_tighten_58 n call κ k2 x0 x1 σ) := by
  unfold oj_X6_tighten_58
  repeat' (with_reducible (first | assumption | (refine PIoW_gd ?_) | (refine PIoW_pf hP ?_ (by decide) (by with_unfolding_all rfl) (fun _ _ => ?_)) | (refine PIoW_si hP ?_ (fun _ _ => ?_)) | (refine PIoW_sj hP ?_ (fun _ _ => ?_)) | (refine PIoW_sr hP ?_ (fun _ _ => ?_)) | (refine PIoW_cy hP ?_ (fun _ _ => ?_)) | (refine PIoW_bn (fun _ => ?_)) | (refine PIoW_na hP ?_ (fun _ _ => ?_)) | (refine PIoW_no hP ?_ (fun _ _ => ?_)) | (refine PIoW_ite ?_ ?_) | (refine PIoW_some ?_) | (exact PIoW_none) | (refine pioW_oj_X6_tighten_87 hP hc hk2 ?_) | (refine hk2 _ _ _ ?_)))
theorem pioW_ol_X6_tighten_2  (hP : iKptW P) (hc : cQoW P call)  : ∀ (t : Nat) (x0 : Option Nat) (x1 : Int32) (σ : oSt), P σ → PIo P (ol_X6_tighten_2 n call κ  t x0 x1 σ) := by
  intro t
  induction t with
  | zero => intros; exact PIoW_none
  | succ t ih =>
    intro x0 x1 σ h
    rw [ol_X6_tighten_2]
    repeat' (with_reducible (first | assumption | (refine PIoW_gd ?_) | (refine PIoW_pf hP ?_ (by decide) (by with_unfolding_all rfl) (fun _ _ => ?_)) | (refine PIoW_si hP ?_ (fun _ _ => ?_)) | (refine PIoW_sj hP ?_ (fun _ _ => ?_)) | (refine PIoW_sr hP ?_ (fun _ _ => ?_)) | (refine PIoW_cy hP ?_ (fun _ _ => ?_)) | (refine PIoW_bn (fun _ => ?_)) | (refine PIoW_na hP ?_ (fun _ _ => ?_)) | (refine PIoW_no hP ?_ (fun _ _ => ?_)) | (refine PIoW_ite ?_ ?_) | (refine PIoW_some ?_) | (exact PIoW_none) | (refine pioW_oj_X6_tighten_96 hP hc  ?_) | (refine pioW_oj_X6_tighten_58 hP hc ih ?_)))
theorem pioW_ob_X6_tighten  {x0 : Option Nat} {σ : oSt} (hP : iKptW P) (hc : cQoW P call)  (h : P σ) : PIo P (ob_X6_tighten n call κ  x0 σ) := by
  unfold ob_X6_tighten
  repeat' (with_reducible (first | assumption | (refine PIoW_gd ?_) | (refine PIoW_pf hP ?_ (by decide) (by with_unfolding_all rfl) (fun _ _ => ?_)) | (refine PIoW_si hP ?_ (fun _ _ => ?_)) | (refine PIoW_sj hP ?_ (fun _ _ => ?_)) | (refine PIoW_sr hP ?_ (fun _ _ => ?_)) | (refine PIoW_cy hP ?_ (fun _ _ => ?_)) | (refine PIoW_bn (fun _ => ?_)) | (refine PIoW_na hP ?_ (fun _ _ => ?_)) | (refine PIoW_no hP ?_ (fun _ _ => ?_)) | (refine PIoW_ite ?_ ?_) | (refine PIoW_some ?_) | (exact PIoW_none) | (refine pioW_ol_X6_tighten_2 hP hc  _ _ _ _ ?_)))
theorem pioW_oj_X6_limit_21  {t0 : Option Nat} {σ : oSt} (hP : iKptW P) (hc : cQoW P call)  (h : P σ) : PIo P (oj_X6_limit_21 n call κ  t0 σ) := by
  unfold oj_X6_limit_21
  repeat' (with_reducible (first | assumption | (refine PIoW_gd ?_) | (refine PIoW_pf hP ?_ (by decide) (by with_unfolding_all rfl) (fun _ _ => ?_)) | (refine PIoW_si hP ?_ (fun _ _ => ?_)) | (refine PIoW_sj hP ?_ (fun _ _ => ?_)) | (refine PIoW_sr hP ?_ (fun _ _ => ?_)) | (refine PIoW_cy hP ?_ (fun _ _ => ?_)) | (refine PIoW_bn (fun _ => ?_)) | (refine PIoW_na hP ?_ (fun _ _ => ?_)) | (refine PIoW_no hP ?_ (fun _ _ => ?_)) | (refine PIoW_ite ?_ ?_) | (refine PIoW_some ?_) | (exact PIoW_none)))
theorem pioW_ob_X6_limit  {x0 : Option Nat} {x1 : Int32} {x2 : Int32} {x3 : Int64} {σ : oSt} (hP : iKptW P) (hc : cQoW P call)  (h : P σ) : PIo P (ob_X6_limit n call κ  x0 x1 x2 x3 σ) := by
  unfold ob_X6_limit
  repeat' (with_reducible (first | assumption | (refine PIoW_gd ?_) | (refine PIoW_pf hP ?_ (by decide) (by with_unfolding_all rfl) (fun _ _ => ?_)) | (refine PIoW_si hP ?_ (fun _ _ => ?_)) | (refine PIoW_sj hP ?_ (fun _ _ => ?_)) | (refine PIoW_sr hP ?_ (fun _ _ => ?_)) | (refine PIoW_cy hP ?_ (fun _ _ => ?_)) | (refine PIoW_bn (fun _ => ?_)) | (refine PIoW_na hP ?_ (fun _ _ => ?_)) | (refine PIoW_no hP ?_ (fun _ _ => ?_)) | (refine PIoW_ite ?_ ?_) | (refine PIoW_some ?_) | (exact PIoW_none) | (refine PIoW_cv (cQoW.c42 hc _ _ _ _ _ ?_) (fun _ _ => ?_)) | (refine PIoW_cv (cQoW.c43 hc _ _ ?_) (fun _ _ => ?_)) | (refine pioW_oj_X6_limit_21 hP hc  ?_)))
theorem pioW_ol_X2_insteadOf_2  (hP : iKptW P) (hc : cQoW P call)  : ∀ (t : Nat) (x0 : Option Nat) (x1 : Option Nat) (x2 : Int32) (σ : oSt), P σ → PIo P (ol_X2_insteadOf_2 n call κ  t x0 x1 x2 σ) := by
  intro t
  induction t with
  | zero => intros; exact PIoW_none
  | succ t ih =>
    intro x0 x1 x2 σ h
    rw [ol_X2_insteadOf_2]
    repeat' (with_reducible (first | assumption | (refine PIoW_gd ?_) | (refine PIoW_pf hP ?_ (by decide) (by with_unfolding_all rfl) (fun _ _ => ?_)) | (refine PIoW_si hP ?_ (fun _ _ => ?_)) | (refine PIoW_sj hP ?_ (fun _ _ => ?_)) | (refine PIoW_sr hP ?_ (fun _ _ => ?_)) | (refine PIoW_cy hP ?_ (fun _ _ => ?_)) | (refine PIoW_bn (fun _ => ?_)) | (refine PIoW_na hP ?_ (fun _ _ => ?_)) | (refine PIoW_no hP ?_ (fun _ _ => ?_)) | (refine PIoW_ite ?_ ?_) | (refine PIoW_some ?_) | (exact PIoW_none) | (refine ih _ _ _ _ ?_)))
theorem pioW_ob_X2_insteadOf  {x0 : Option Nat} {x1 : Option Nat} {σ : oSt} (hP : iKptW P) (hc : cQoW P call)  (h : P σ) : PIo P (ob_X2_insteadOf n call κ  x0 x1 σ) := by
  unfold ob_X2_insteadOf
  repeat' (with_reducible (first | assumption | (refine PIoW_gd ?_) | (refine PIoW_pf hP ?_ (by decide) (by with_unfolding_all rfl) (fun _ _ => ?_)) | (refine PIoW_si hP ?_ (fun _ _ => ?_)) | (refine PIoW_sj hP ?_ (fun _ _ => ?_)) | (refine PIoW_sr hP ?_ (fun _ _ => ?_)) | (refine PIoW_cy hP ?_ (fun _ _ => ?_)) | (refine PIoW_bn (fun _ => ?_)) | (refine PIoW_na hP ?_ (fun _ _ => ?_)) | (refine PIoW_no hP ?_ (fun _ _ => ?_)) | (refine PIoW_ite ?_ ?_) | (refine PIoW_some ?_) | (exact PIoW_none) | (refine pioW_ol_X2_insteadOf_2 hP hc  _ _ _ _ _ ?_)))
theorem pioW_oj_X2_recall_128  {x0 : Option Nat} {x3 : Option Nat} {t0 : Option Nat} {t1 : Option Nat} {σ : oSt} (hP : iKptW P) (hc : cQoW P call)  (h : P σ) : PIo P (oj_X2_recall_128 n call κ  x0 x3 t0 t1 σ) := by
  unfold oj_X2_recall_128
  repeat' (with_reducible (first | assumption | (refine PIoW_gd ?_) | (refine PIoW_pf hP ?_ (by decide) (by with_unfolding_all rfl) (fun _ _ => ?_)) | (refine PIoW_si hP ?_ (fun _ _ => ?_)) | (refine PIoW_sj hP ?_ (fun _ _ => ?_)) | (refine PIoW_sr hP ?_ (fun _ _ => ?_)) | (refine PIoW_cy hP ?_ (fun _ _ => ?_)) | (refine PIoW_bn (fun _ => ?_)) | (refine PIoW_na hP ?_ (fun _ _ => ?_)) | (refine PIoW_no hP ?_ (fun _ _ => ?_)) | (refine PIoW_ite ?_ ?_) | (refine PIoW_some ?_) | (exact PIoW_none)))
theorem pioW_oj_X2_recall_65  {x0 : Option Nat} {x2 : Option Nat} {t0 : Option Nat} {t1 : Option Nat} {σ : oSt} (hP : iKptW P) (hc : cQoW P call)  (h : P σ) : PIo P (oj_X2_recall_65 n call κ  x0 x2 t0 t1 σ) := by
  unfold oj_X2_recall_65
  repeat' (with_reducible (first | assumption | (refine PIoW_gd ?_) | (refine PIoW_pf hP ?_ (by decide) (by with_unfolding_all rfl) (fun _ _ => ?_)) | (refine PIoW_si hP ?_ (fun _ _ => ?_)) | (refine PIoW_sj hP ?_ (fun _ _ => ?_)) | (refine PIoW_sr hP ?_ (fun _ _ => ?_)) | (refine PIoW_cy hP ?_ (fun _ _ => ?_)) | (refine PIoW_bn (fun _ => ?_)) | (refine PIoW_na hP ?_ (fun _ _ => ?_)) | (refine PIoW_no hP ?_ (fun _ _ => ?_)) | (refine PIoW_ite ?_ ?_) | (refine PIoW_some ?_) | (exact PIoW_none) | (refine PIoW_rn (cQoW.c45 hc _ _ _ ?_) (fun _ _ _ => ?_)) | (refine pioW_oj_X2_recall_128 hP hc  ?_)))
theorem pioW_ob_X2_recall  {x0 : Option Nat} {x1 : Int32} {σ : oSt} (hP : iKptW P) (hc : cQoW P call)  (h : P σ) : PIo P (ob_X2_recall n call κ  x0 x1 σ) := by
  unfold ob_X2_recall
  repeat' (with_reducible (first | assumption | (refine PIoW_gd ?_) | (refine PIoW_pf hP ?_ (by decide) (by with_unfolding_all rfl) (fun _ _ => ?_)) | (refine PIoW_si hP ?_ (fun _ _ => ?_)) | (refine PIoW_sj hP ?_ (fun _ _ => ?_)) | (refine PIoW_sr hP ?_ (fun _ _ => ?_)) | (refine PIoW_cy hP ?_ (fun _ _ => ?_)) | (refine PIoW_bn (fun _ => ?_)) | (refine PIoW_na hP ?_ (fun _ _ => ?_)) | (refine PIoW_no hP ?_ (fun _ _ => ?_)) | (refine PIoW_ite ?_ ?_) | (refine PIoW_some ?_) | (exact PIoW_none) | (refine pioW_oj_X2_recall_65 hP hc  ?_)))
theorem pioW_ob_X1_side  {x0 : Option Nat} {x1 : Int32} {σ : oSt} (hP : iKptW P) (hc : cQoW P call)  (h : P σ) : PIo P (ob_X1_side n call κ  x0 x1 σ) := by
  unfold ob_X1_side
  repeat' (with_reducible (first | assumption | (refine PIoW_gd ?_) | (refine PIoW_pf hP ?_ (by decide) (by with_unfolding_all rfl) (fun _ _ => ?_)) | (refine PIoW_si hP ?_ (fun _ _ => ?_)) | (refine PIoW_sj hP ?_ (fun _ _ => ?_)) | (refine PIoW_sr hP ?_ (fun _ _ => ?_)) | (refine PIoW_cy hP ?_ (fun _ _ => ?_)) | (refine PIoW_bn (fun _ => ?_)) | (refine PIoW_na hP ?_ (fun _ _ => ?_)) | (refine PIoW_no hP ?_ (fun _ _ => ?_)) | (refine PIoW_ite ?_ ?_) | (refine PIoW_some ?_) | (exact PIoW_none)))
theorem pioW_ob_X6_isLimited  {x0 : Option Nat} {x1 : Int32} {x2 : Int32} {x3 : Int64} {σ : oSt} (hP : iKptW P) (hc : cQoW P call)  (h : P σ) : PIo P (ob_X6_isLimited n call κ  x0 x1 x2 x3 σ) := by
  unfold ob_X6_isLimited
  repeat' (with_reducible (first | assumption | (refine PIoW_gd ?_) | (refine PIoW_pf hP ?_ (by decide) (by with_unfolding_all rfl) (fun _ _ => ?_)) | (refine PIoW_si hP ?_ (fun _ _ => ?_)) | (refine PIoW_sj hP ?_ (fun _ _ => ?_)) | (refine PIoW_sr hP ?_ (fun _ _ => ?_)) | (refine PIoW_cy hP ?_ (fun _ _ => ?_)) | (refine PIoW_bn (fun _ => ?_)) | (refine PIoW_na hP ?_ (fun _ _ => ?_)) | (refine PIoW_no hP ?_ (fun _ _ => ?_)) | (refine PIoW_ite ?_ ?_) | (refine PIoW_some ?_) | (exact PIoW_none)))
theorem pioW_oj_X1_meet_248 {k62 : Option Nat → Option Nat → Int32 → Int32 → Int32 → Int32 → Int32 → oSt → oRs} {x0 : Option Nat} {x1 : Option Nat} {x2 : Int32} {x3 : Int32} {x4 : Int32} {x5 : Int32} {x6 : Int32} {σ : oSt} (hP : iKptW P) (hc : cQoW P call) (hk62 : ∀ (a0 : Option Nat) (a1 : Option Nat) (a2 : Int32) (a3 : Int32) (a4 : Int32) (a5 : Int32) (a6 : Int32), ∀ σ, P σ → PIo P (k62 a0 a1 a2 a3 a4 a5 a6 σ)) (h : P σ) : PIo P (oj_X1_meet_248 n call κ k62 x0 x1 x2 x3 x4 x5 x6 σ) := by
  unfold oj_X1_meet_248
  repeat' (with_reducible (first | assumption | (refine PIoW_gd ?_) | (refine PIoW_pf hP ?_ (by decide) (by with_unfolding_all rfl) (fun _ _ => ?_)) | (refine PIoW_si hP ?_ (fun _ _ => ?_)) | (refine PIoW_sj hP ?_ (fun _ _ => ?_)) | (refine PIoW_sr hP ?_ (fun _ _ => ?_)) | (refine PIoW_cy hP ?_ (fun _ _ => ?_)) | (refine PIoW_bn (fun _ => ?_)) | (refine PIoW_na hP ?_ (fun _ _ => ?_)) | (refine PIoW_no hP ?_ (fun _ _ => ?_)) | (refine PIoW_ite ?_ ?_) | (refine PIoW_some ?_) | (exact PIoW_none) | (refine hk62 _ _ _ _ _ _ _ _ ?_)))
theorem pioW_oj_X1_meet_230 {k62 : Option Nat → Option Nat → Int32 → Int32 → Int32 → Int32 → Int32 → oSt → oRs} {x0 : Option Nat} {x1 : Option Nat} {x2 : Int32} {x3 : Int32} {x4 : Int32} {x5 : Int32} {x6 : Int32} {x7 : Int64} {x9 : Int32} {x10 : Int32} {x11 : Int32} {σ : oSt} (hP : iKptW P) (hc : cQoW P call) (hk62 : ∀ (a0 : Option Nat) (a1 : Option Nat) (a2 : Int32) (a3 : Int32) (a4 : Int32) (a5 : Int32) (a6 : Int32), ∀ σ, P σ → PIo P (k62 a0 a1 a2 a3 a4 a5 a6 σ)) (h : P σ) : PIo P (oj_X1_meet_230 n call κ k62 x0 x1 x2 x3 x4 x5 x6 x7 x9 x10 x11 σ) := by
  unfold oj_X1_meet_230
  repeat' (with_reducible (first | assumption | (refine PIoW_gd ?_) | (refine PIoW_pf hP ?_ (by decide) (by with_unfolding_all rfl) (fun _ _ => ?_)) | (refine PIoW_si hP ?_ (fun _ _ => ?_)) | (refine PIoW_sj hP ?_ (fun _ _ => ?_)) | (refine PIoW_sr hP ?_ (fun _ _ => ?_)) | (refine PIoW_cy hP ?_ (fun _ _ => ?_)) | (refine PIoW_bn (fun _ => ?_)) | (refine PIoW_na hP ?_ (fun _ _ => ?_)) | (refine PIoW_no hP ?_ (fun _ _ => ?_)) | (refine PIoW_ite ?_ ?_) | (refine PIoW_some ?_) | (exact PIoW_none) | (refine PIoW_cv (cQoW.c44 hc _ _ _ _ _ ?_) (fun _ _ => ?_)) | (refine pioW_oj_X1_meet_248 hP hc hk62 ?_) | (refine hk62 _ _ _ _ _ _ _ _ ?_)))
theorem pioW_oj_X1_meet_225 {k62 : Option Nat → Option Nat → Int32 → Int32 → Int32 → Int32 → Int32 → oSt → oRs} {x0 : Option Nat} {x1 : Option Nat} {x2 : Int32} {x3 : Int32} {x5 : Int32} {x6 : Int32} {t0 : Int32} {σ : oSt} (hP : iKptW P) (hc : cQoW P call) (hk62 : ∀ (a0 : Option Nat) (a1 : Option Nat) (a2 : Int32) (a3 : Int32) (a4 : Int32) (a5 : Int32) (a6 : Int32), ∀ σ, P σ → PIo P (k62 a0 a1 a2 a3 a4 a5 a6 σ)) (h : P σ) : PIo P (oj_X1_meet_225 n call κ k62 x0 x1 x2 x3 x5 x6 t0 σ) := by
  unfold oj_X1_meet_225
  repeat' (with_reducible (first | assumption | (refine PIoW_gd ?_) | (refine PIoW_pf hP ?_ (by decide) (by with_unfolding_all rfl) (fun _ _ => ?_)) | (refine PIoW_si hP ?_ (fun _ _ => ?_)) | (refine PIoW_sj hP ?_ (fun _ _ => ?_)) | (refine PIoW_sr hP ?_ (fun _ _ => ?_)) | (refine PIoW_cy hP ?_ (fun _ _ => ?_)) | (refine PIoW_bn (fun _ => ?_)) | (refine PIoW_na hP ?_ (fun _ _ => ?_)) | (refine PIoW_no hP ?_ (fun _ _ => ?_)) | (refine PIoW_ite ?_ ?_) | (refine PIoW_some ?_) | (exact PIoW_none) | (refine pioW_oj_X1_meet_248 hP hc hk62 ?_) | (refine hk62 _ _ _ _ _ _ _ _ ?_)))
theorem pioW_oj_X1_meet_224 {k62 : Option Nat → Option Nat → Int32 → Int32 → Int32 → Int32 → Int32 → oSt → oRs} {x0 : Option Nat} {x1 : Option Nat} {x2 : Int32} {x3 : Int32} {x5 : Int32} {x6 : Int32} {σ : oSt} (hP : iKptW P) (hc : cQoW P call) (hk62 : ∀ (a0 : Option Nat) (a1 : Option Nat) (a2 : Int32) (a3 : Int32) (a4 : Int32) (a5 : Int32) (a6 : Int32), ∀ σ, P σ → PIo P (k62 a0 a1 a2 a3 a4 a5 a6 σ)) (h : P σ) : PIo P (oj_X1_meet_224 n call κ k62 x0 x1 x2 x3 x5 x6 σ) := by
  unfold oj_X1_meet_224
  repeat' (with_reducible (first | assumption | (refine PIoW_gd ?_) | (refine PIoW_pf hP ?_ (by decide) (by with_unfolding_all rfl) (fun _ _ => ?_)) | (refine PIoW_si hP ?_ (fun _ _ => ?_)) | (refine PIoW_sj hP ?_ (fun _ _ => ?_)) | (refine PIoW_sr hP ?_ (fun _ _ => ?_)) | (refine PIoW_cy hP ?_ (fun _ _ => ?_)) | (refine PIoW_bn (fun _ => ?_)) | (refine PIoW_na hP ?_ (fun _ _ => ?_)) | (refine PIoW_no hP ?_ (fun _ _ => ?_)) | (refine PIoW_ite ?_ ?_) | (refine PIoW_some ?_) | (exact PIoW_none) | (refine pioW_oj_X1_meet_225 hP hc hk62 ?_) | (refine hk62 _ _ _ _ _ _ _ _ ?_)))
theorem pioW_oj_X1_meet_188 {k62 : Option Nat → Option Nat → Int32 → Int32 → Int32 → Int32 → Int32 → oSt → oRs} {x0 : Option Nat} {x1 : Option Nat} {x2 : Int32} {x3 : Int32} {x4 : Int32} {x5 : Int32} {x6 : Int32} {x7 : Int64} {x9 : Int32} {x10 : Int32} {t0 : Int32} {σ : oSt} (hP : iKptW P) (hc : cQoW P call) (hk62 : ∀ (a0 : Option Nat) (a1 : Option Nat) (a2 : Int32) (a3 : Int32) (a4 : Int32) (a5 : Int32) (a6 : Int32), ∀ σ, P σ → PIo P (k62 a0 a1 a2 a3 a4 a5 a6 σ)) (h : P σ) : PIo P (oj_X1_meet_188 n call κ k62 x0 x1 x2 x3 x4 x5 x6 x7 x9 x10 t0 σ) := by
  unfold oj_X1_meet_188
  repeat' (with_reducible (first | assumption | (refine PIoW_gd ?_) | (refine PIoW_pf hP ?_ (by decide) (by with_unfolding_all rfl) (fun _ _ => ?_)) | (refine PIoW_si hP ?_ (fun _ _ => ?_)) | (refine PIoW_sj hP ?_ (fun _ _ => ?_)) | (refine PIoW_sr hP ?_ (fun _ _ => ?_)) | (refine PIoW_cy hP ?_ (fun _ _ => ?_)) | (refine PIoW_bn (fun _ => ?_)) | (refine PIoW_na hP ?_ (fun _ _ => ?_)) | (refine PIoW_no hP ?_ (fun _ _ => ?_)) | (refine PIoW_ite ?_ ?_) | (refine PIoW_some ?_) | (exact PIoW_none) | (refine PIoW_in (cQoW.c48 hc _ _ _ _ _ ?_) (fun _ _ _ => ?_)) | (refine pioW_oj_X1_meet_230 hP hc hk62 ?_) | (refine pioW_oj_X1_meet_224 hP hc hk62 ?_) | (refine pioW_oj_X1_meet_225 hP hc hk62 ?_) | (refine hk62 _ _ _ _ _ _ _ _ ?_)))
theorem pioW_oj_X1_meet_183 {k62 : Option Nat → Option Nat → Int32 → Int32 → Int32 → Int32 → Int32 → oSt → oRs} {x0 : Option Nat} {x1 : Option Nat} {x2 : Int32} {x3 : Int32} {x4 : Int32} {x5 : Int32} {x6 : Int32} {x7 : Int64} {x9 : Int32} {x10 : Int32} {σ : oSt} (hP : iKptW P) (hc : cQoW P call) (hk62 : ∀ (a0 : Option Nat) (a1 : Option Nat) (a2 : Int32) (a3 : Int32) (a4 : Int32) (a5 : Int32) (a6 : Int32), ∀ σ, P σ → PIo P (k62 a0 a1 a2 a3 a4 a5 a6 σ)) (h : P σ) : PIo P (oj_X1_meet_183 n call κ k62 x0 x1 x2 x3 x4 x5 x6 x7 x9 x10 σ) := by
  unfold oj_X1_meet_183
  repeat' (with_reducible (first | assumption | (refine PIoW_gd ?_) | (refine PIoW_pf hP ?_ (by decide) (by with_unfolding_all rfl) (fun _ _ => ?_)) | (refine PIoW_si hP ?_ (fun _ _ => ?_)) | (refine PIoW_sj hP ?_ (fun _ _ => ?_)) | (refine PIoW_sr hP ?_ (fun _ _ => ?_)) | (refine PIoW_cy hP ?_ (fun _ _ => ?_)) | (refine PIoW_bn (fun _ => ?_)) | (refine PIoW_na hP ?_ (fun _ _ => ?_)) | (refine PIoW_no hP ?_ (fun _ _ => ?_)) | (refine PIoW_ite ?_ ?_) | (refine PIoW_some ?_) | (exact PIoW_none) | (refine pioW_oj_X1_meet_188 hP hc hk62 ?_) | (refine hk62 _ _ _ _ _ _ _ _ ?_)))
theorem pioW_oj_X1_meet_180 {k62 : Option Nat → Option Nat → Int32 → Int32 → Int32 → Int32 → Int32 → oSt → oRs} {x0 : Option Nat} {x1 : Option Nat} {x2 : Int32} {x3 : Int32} {x4 : Int32} {x5 : Int32} {x6 : Int32} {x7 : Int64} {x9 : Int32} {x10 : Int32} {t0 : Int32} {t1 : Int32} {σ : oSt} (hP : iKptW P) (hc : cQoW P call) (hk62 : ∀ (a0 : Option Nat) (a1 : Option Nat) (a2 : Int32) (a3 : Int32) (a4 : Int32) (a5 : Int32) (a6 : Int32), ∀ σ, P σ → PIo P (k62 a0 a1 a2 a3 a4 a5 a6 σ)) (h : P σ) : PIo P (oj_X1_meet_180 n call κ k62 x0 x1 x2 x3 x4 x5 x6 x7 x9 x10 t0 t1 σ) := by
  unfold oj_X1_meet_180
  repeat' (with_reducible (first | assumption | (refine PIoW_gd ?_) | (refine PIoW_pf hP ?_ (by decide) (by with_unfolding_all rfl) (fun _ _ => ?_)) | (refine PIoW_si hP ?_ (fun _ _ => ?_)) | (refine PIoW_sj hP ?_ (fun _ _ => ?_)) | (refine PIoW_sr hP ?_ (fun _ _ => ?_)) | (refine PIoW_cy hP ?_ (fun _ _ => ?_)) | (refine PIoW_bn (fun _ => ?_)) | (refine PIoW_na hP ?_ (fun _ _ => ?_)) | (refine PIoW_no hP ?_ (fun _ _ => ?_)) | (refine PIoW_ite ?_ ?_) | (refine PIoW_some ?_) | (exact PIoW_none) | (refine pioW_oj_X1_meet_183 hP hc hk62 ?_) | (refine pioW_oj_X1_meet_188 hP hc hk62 ?_) | (refine hk62 _ _ _ _ _ _ _ _ ?_)))
theorem pioW_oj_X1_meet_170 {k62 : Option Nat → Option Nat → Int32 → Int32 → Int32 → Int32 → Int32 → oSt → oRs} {x0 : Option Nat} {x1 : Option Nat} {x2 : Int32} {x3 : Int32} {x4 : Int32} {x5 : Int32} {x6 : Int32} {x7 : Int64} {x9 : Int32} {x10 : Int32} {t0 : Int32} {σ : oSt} (hP : iKptW P) (hc : cQoW P call) (hk62 : ∀ (a0 : Option Nat) (a1 : Option Nat) (a2 : Int32) (a3 : Int32) (a4 : Int32) (a5 : Int32) (a6 : Int32), ∀ σ, P σ → PIo P (k62 a0 a1 a2 a3 a4 a5 a6 σ)) (h : P σ) : PIo P (oj_X1_meet_170 n call κ k62 x0 x1 x2 x3 x4 x5 x6 x7 x9 x10 t0 σ) := by
  unfold oj_X1_meet_170
  repeat' (with_reducible (first | assumption | (refine PIoW_gd ?_) | (refine PIoW_pf hP ?_ (by decide) (by with_unfolding_all rfl) (fun _ _ => ?_)) | (refine PIoW_si hP ?_ (fun _ _ => ?_)) | (refine PIoW_sj hP ?_ (fun _ _ => ?_)) | (refine PIoW_sr hP ?_ (fun _ _ => ?_)) | (refine PIoW_cy hP ?_ (fun _ _ => ?_)) | (refine PIoW_bn (fun _ => ?_)) | (refine PIoW_na hP ?_ (fun _ _ => ?_)) | (refine PIoW_no hP ?_ (fun _ _ => ?_)) | (refine PIoW_ite ?_ ?_) | (refine PIoW_some ?_) | (exact PIoW_none) | (refine pioW_oj_X1_meet_180 hP hc hk62 ?_) | (refine hk62 _ _ _ _ _ _ _ _ ?_)))
theorem pioW_oj_X1_meet_165 {k62 : Option Nat → Option Nat → Int32 → Int32 → Int32 → Int32 → Int32 → oSt → oRs} {x0 : Option Nat} {x1 : Option Nat} {x2 : Int32} {x3 : Int32} {x4 : Int32} {x5 : Int32} {x6 : Int32} {x7 : Int64} {x9 : Int32} {x10 : Int32} {σ : oSt} (hP : iKptW P) (hc : cQoW P call) (hk62 : ∀ (a0 : Option Nat) (a1 : Option Nat) (a2 : Int32) (a3 : Int32) (a4 : Int32) (a5 : Int32) (a6 : Int32), ∀ σ, P σ → PIo P (k62 a0 a1 a2 a3 a4 a5 a6 σ)) (h : P σ) : PIo P (oj_X1_meet_165 n call κ k62 x0 x1 x2 x3 x4 x5 x6 x7 x9 x10 σ) := by
  unfold oj_X1_meet_165
  repeat' (with_reducible (first | assumption | (refine PIoW_gd ?_) | (refine PIoW_pf hP ?_ (by decide) (by with_unfolding_all rfl) (fun _ _ => ?_)) | (refine PIoW_si hP ?_ (fun _ _ => ?_)) | (refine PIoW_sj hP ?_ (fun _ _ => ?_)) | (refine PIoW_sr hP ?_ (fun _ _ => ?_)) | (refine PIoW_cy hP ?_ (fun _ _ => ?_)) | (refine PIoW_bn (fun _ => ?_)) | (refine PIoW_na hP ?_ (fun _ _ => ?_)) | (refine PIoW_no hP ?_ (fun _ _ => ?_)) | (refine PIoW_ite ?_ ?_) | (refine PIoW_some ?_) | (exact PIoW_none) | (refine pioW_oj_X1_meet_170 hP hc hk62 ?_) | (refine hk62 _ _ _ _ _ _ _ _ ?_)))
theorem pioW_oj_X1_meet_137 {k62 : Option Nat → Option Nat → Int32 → Int32 → Int32 → Int32 → Int32 → oSt → oRs} {x0 : Option Nat} {x1 : Option Nat} {x2 : Int32} {x3 : Int32} {x4 : Int32} {x5 : Int32} {x6 : Int32} {x7 : Int64} {x9 : Int32} {x10 : Int32} {σ : oSt} (hP : iKptW P) (hc : cQoW P call) (hk62 : ∀ (a0 : Option Nat) (a1 : Option Nat) (a2 : Int32) (a3 : Int32) (a4 : Int32) (a5 : Int32) (a6 : Int32), ∀ σ, P σ → PIo P (k62 a0 a1 a2 a3 a4 a5 a6 σ)) (h : P σ) : PIo P (oj_X1_meet_137 n call κ k62 x0 x1 x2 x3 x4 x5 x6 x7 x9 x10 σ) := by
  unfold oj_X1_meet_137
  repeat' (with_reducible (first | assumption | (refine PIoW_gd ?_) | (refine PIoW_pf hP ?_ (by decide) (by with_unfolding_all rfl) (fun _ _ => ?_)) | (refine PIoW_si hP ?_ (fun _ _ => ?_)) | (refine PIoW_sj hP ?_ (fun _ _ => ?_)) | (refine PIoW_sr hP ?_ (fun _ _ => ?_)) | (refine PIoW_cy hP ?_ (fun _ _ => ?_)) | (refine PIoW_bn (fun _ => ?_)) | (refine PIoW_na hP ?_ (fun _ _ => ?_)) | (refine PIoW_no hP ?_ (fun _ _ => ?_)) | (refine PIoW_ite ?_ ?_) | (refine PIoW_some ?_) | (exact PIoW_none) | (refine pioW_oj_X1_meet_183 hP hc hk62 ?_) | (refine pioW_oj_X1_meet_165 hP hc hk62 ?_) | (refine pioW_oj_X1_meet_170 hP hc hk62 ?_) | (refine hk62 _ _ _ _ _ _ _ _ ?_)))
theorem pioW_oj_X1_meet_95 {k62 : Option Nat → Option Nat → Int32 → Int32 → Int32 → Int32 → Int32 → oSt → oRs} {x0 : Option Nat} {x1 : Option Nat} {x2 : Int32} {x3 : Int32} {x4 : Int32} {x5 : Int32} {x6 : Int32} {x7 : Int64} {t0 : Int32} {t1 : Int32} {σ : oSt} (hP : iKptW P) (hc : cQoW P call) (hk62 : ∀ (a0 : Option Nat) (a1 : Option Nat) (a2 : Int32) (a3 : Int32) (a4 : Int32) (a5 : Int32) (a6 : Int32), ∀ σ, P σ → PIo P (k62 a0 a1 a2 a3 a4 a5 a6 σ)) (h : P σ) : PIo P (oj_X1_meet_95 n call κ k62 x0 x1 x2 x3 x4 x5 x6 x7 t0 t1 σ) := by
  unfold oj_X1_meet_95
  repeat' (with_reducible (first | assumption | (refine PIoW_gd ?_) | (refine PIoW_pf hP ?_ (by decide) (by with_unfolding_all rfl) (fun _ _ => ?_)) | (refine PIoW_si hP ?_ (fun _ _ => ?_)) | (refine PIoW_sj hP ?_ (fun _ _ => ?_)) | (refine PIoW_sr hP ?_ (fun _ _ => ?_)) | (refine PIoW_cy hP ?_ (fun _ _ => ?_)) | (refine PIoW_bn (fun _ => ?_)) | (refine PIoW_na hP ?_ (fun _ _ => ?_)) | (refine PIoW_no hP ?_ (fun _ _ => ?_)) | (refine PIoW_ite ?_ ?_) | (refine PIoW_some ?_) | (exact PIoW_none) | (refine PIoW_in (cQoW.c47 hc _ _ _ ?_) (fun _ _ _ => ?_)) | (refine pioW_oj_X1_meet_137 hP hc hk62 ?_) | (refine hk62 _ _ _ _ _ _ _ _ ?_)))
theorem pioW_ol_X1_meet_62  (hP : iKptW P) (hc : cQoW P call)  : ∀ (t : Nat) (x0 : Option Nat) (x1 : Option Nat) (x2 : Int32) (x3 : Int32) (x4 : Int32) (x5 : Int32) (x6 : Int32) (σ : oSt), P σ → PIo P (ol_X1_meet_62 n call κ  t x0 x1 x2 x3 x4 x5 x6 σ) := by
  intro t
  induction t with
  | zero => intros; exact PIoW_none
  | succ t ih =>
    intro x0 x1 x2 x3 x4 x5 x6 σ h
    rw [ol_X1_meet_62]
    repeat' (with_reducible (first | assumption | (refine PIoW_gd ?_) | (refine PIoW_pf hP ?_ (by decide) (by with_unfolding_all rfl) (fun _ _ => ?_)) | (refine PIoW_si hP ?_ (fun _ _ => ?_)) | (refine PIoW_sj hP ?_ (fun _ _ => ?_)) | (refine PIoW_sr hP ?_ (fun _ _ => ?_)) | (refine PIoW_cy hP ?_ (fun _ _ => ?_)) | (refine PIoW_bn (fun _ => ?_)) | (refine PIoW_na hP ?_ (fun _ _ => ?_)) | (refine PIoW_no hP ?_ (fun _ _ => ?_)) | (refine PIoW_ite ?_ ?_) | (refine PIoW_some ?_) | (exact PIoW_none) | (refine pioW_oj_X1_meet_95 hP hc ih ?_)))
theorem pioW_oj_X1_meet_57  {x0 : Option Nat} {x1 : Option Nat} {x2 : Int32} {x3 : Int32} {x4 : Int32} {t0 : Int32} {σ : oSt} (hP : iKptW P) (hc : cQoW P call)  (h : P σ) : PIo P (oj_X1_meet_57 n call κ  x0 x1 x2 x3 x4 t0 σ) := by
  unfold oj_X1_meet_57
  repeat' (with_reducible (first | assumption | (refine PIoW_gd ?_) | (refine PIoW_pf hP ?_ (by decide) (by with_unfolding_all rfl) (fun _ _ => ?_)) | (refine PIoW_si hP ?_ (fun _ _ => ?_)) | (refine PIoW_sj hP ?_ (fun _ _ => ?_)) | (refine PIoW_sr hP ?_ (fun _ _ => ?_)) | (refine PIoW_cy hP ?_ (fun _ _ => ?_)) | (refine PIoW_bn (fun _ => ?_)) | (refine PIoW_na hP ?_ (fun _ _ => ?_)) | (refine PIoW_no hP ?_ (fun _ _ => ?_)) | (refine PIoW_ite ?_ ?_) | (refine PIoW_some ?_) | (exact PIoW_none) | (refine pioW_ol_X1_meet_62 hP hc  _ _ _ _ _ _ _ _ _ ?_)))
theorem pioW_oj_X1_meet_52  {x0 : Option Nat} {x1 : Option Nat} {x2 : Int32} {x3 : Int32} {x4 : Int32} {σ : oSt} (hP : iKptW P) (hc : cQoW P call)  (h : P σ) : PIo P (oj_X1_meet_52 n call κ  x0 x1 x2 x3 x4 σ) := by
  unfold oj_X1_meet_52
  repeat' (with_reducible (first | assumption | (refine PIoW_gd ?_) | (refine PIoW_pf hP ?_ (by decide) (by with_unfolding_all rfl) (fun _ _ => ?_)) | (refine PIoW_si hP ?_ (fun _ _ => ?_)) | (refine PIoW_sj hP ?_ (fun _ _ => ?_)) | (refine PIoW_sr hP ?_ (fun _ _ => ?_)) | (refine PIoW_cy hP ?_ (fun _ _ => ?_)) | (refine PIoW_bn (fun _ => ?_)) | (refine PIoW_na hP ?_ (fun _ _ => ?_)) | (refine PIoW_no hP ?_ (fun _ _ => ?_)) | (refine PIoW_ite ?_ ?_) | (refine PIoW_some ?_) | (exact PIoW_none) | (refine pioW_oj_X1_meet_57 hP hc  ?_)))
theorem pioW_oj_X1_meet_31  {x0 : Option Nat} {x1 : Option Nat} {x2 : Int32} {x3 : Int32} {σ : oSt} (hP : iKptW P) (hc : cQoW P call)  (h : P σ) : PIo P (oj_X1_meet_31 n call κ  x0 x1 x2 x3 σ) := by
  unfold oj_X1_meet_31
  repeat' (with_reducible (first | assumption | (refine PIoW_gd ?_) | (refine PIoW_pf hP ?_ (by decide) (by with_unfolding_all rfl) (fun _ _ => ?_)) | (refine PIoW_si hP ?_ (fun _ _ => ?_)) | (refine PIoW_sj hP ?_ (fun _ _ => ?_)) | (refine PIoW_sr hP ?_ (fun _ _ => ?_)) | (refine PIoW_cy hP ?_ (fun _ _ => ?_)) | (refine PIoW_bn (fun _ => ?_)) | (refine PIoW_na hP ?_ (fun _ _ => ?_)) | (refine PIoW_no hP ?_ (fun _ _ => ?_)) | (refine PIoW_ite ?_ ?_) | (refine PIoW_some ?_) | (exact PIoW_none) | (refine pioW_oj_X1_meet_52 hP hc  ?_) | (refine pioW_oj_X1_meet_57 hP hc  ?_)))
theorem pioW_ob_X1_meet  {x0 : Option Nat} {x1 : Option Nat} {x2 : Int32} {x3 : Int32} {σ : oSt} (hP : iKptW P) (hc : cQoW P call)  (h : P σ) : PIo P (ob_X1_meet n call κ  x0 x1 x2 x3 σ) := by
  unfold ob_X1_meet
  repeat' (with_reducible (first | assumption | (refine PIoW_gd ?_) | (refine PIoW_pf hP ?_ (by decide) (by with_unfolding_all rfl) (fun _ _ => ?_)) | (refine PIoW_si hP ?_ (fun _ _ => ?_)) | (refine PIoW_sj hP ?_ (fun _ _ => ?_)) | (refine PIoW_sr hP ?_ (fun _ _ => ?_)) | (refine PIoW_cy hP ?_ (fun _ _ => ?_)) | (refine PIoW_bn (fun _ => ?_)) | (refine PIoW_na hP ?_ (fun _ _ => ?_)) | (refine PIoW_no hP ?_ (fun _ _ => ?_)) | (refine PIoW_ite ?_ ?_) | (refine PIoW_some ?_) | (exact PIoW_none) | (refine pioW_oj_X1_meet_31 hP hc  ?_)))
theorem pioW_ol_X1_learn_30  (hP : iKptW P) (hc : cQoW P call)  : ∀ (t : Nat) (x0 : Option Nat) (x1 : Option Nat) (x2 : Int32) (x3 : Int32) (σ : oSt), P σ → PIo P (ol_X1_learn_30 n call κ  t x0 x1 x2 x3 σ) := by
  intro t
  induction t with
  | zero => intros; exact PIoW_none
  | succ t ih =>
    intro x0 x1 x2 x3 σ h
    rw [ol_X1_learn_30]
    repeat' (with_reducible (first | assumption | (refine PIoW_gd ?_) | (refine PIoW_pf hP ?_ (by decide) (by with_unfolding_all rfl) (fun _ _ => ?_)) | (refine PIoW_si hP ?_ (fun _ _ => ?_)) | (refine PIoW_sj hP ?_ (fun _ _ => ?_)) | (refine PIoW_sr hP ?_ (fun _ _ => ?_)) | (refine PIoW_cy hP ?_ (fun _ _ => ?_)) | (refine PIoW_bn (fun _ => ?_)) | (refine PIoW_na hP ?_ (fun _ _ => ?_)) | (refine PIoW_no hP ?_ (fun _ _ => ?_)) | (refine PIoW_ite ?_ ?_) | (refine PIoW_some ?_) | (exact PIoW_none) | (refine PIoW_cv (cQoW.c46 hc _ _ _ ?_) (fun _ _ => ?_)) | (refine PIoW_in (cQoW.c49 hc _ _ _ _ _ ?_) (fun _ _ _ => ?_)) | (refine ih _ _ _ _ _ ?_)))
theorem pioW_oj_X1_learn_28  {x0 : Option Nat} {x1 : Option Nat} {x2 : Int32} {σ : oSt} (hP : iKptW P) (hc : cQoW P call)  (h : P σ) : PIo P (oj_X1_learn_28 n call κ  x0 x1 x2 σ) := by
  unfold oj_X1_learn_28
  repeat' (with_reducible (first | assumption | (refine PIoW_gd ?_) | (refine PIoW_pf hP ?_ (by decide) (by with_unfolding_all rfl) (fun _ _ => ?_)) | (refine PIoW_si hP ?_ (fun _ _ => ?_)) | (refine PIoW_sj hP ?_ (fun _ _ => ?_)) | (refine PIoW_sr hP ?_ (fun _ _ => ?_)) | (refine PIoW_cy hP ?_ (fun _ _ => ?_)) | (refine PIoW_bn (fun _ => ?_)) | (refine PIoW_na hP ?_ (fun _ _ => ?_)) | (refine PIoW_no hP ?_ (fun _ _ => ?_)) | (refine PIoW_ite ?_ ?_) | (refine PIoW_some ?_) | (exact PIoW_none) | (refine pioW_ol_X1_learn_30 hP hc  _ _ _ _ _ _ ?_)))
theorem pioW_ob_X1_learn  {x0 : Option Nat} {x1 : Option Nat} {x2 : Int32} {σ : oSt} (hP : iKptW P) (hc : cQoW P call)  (h : P σ) : PIo P (ob_X1_learn n call κ  x0 x1 x2 σ) := by
  unfold ob_X1_learn
  repeat' (with_reducible (first | assumption | (refine PIoW_gd ?_) | (refine PIoW_pf hP ?_ (by decide) (by with_unfolding_all rfl) (fun _ _ => ?_)) | (refine PIoW_si hP ?_ (fun _ _ => ?_)) | (refine PIoW_sj hP ?_ (fun _ _ => ?_)) | (refine PIoW_sr hP ?_ (fun _ _ => ?_)) | (refine PIoW_cy hP ?_ (fun _ _ => ?_)) | (refine PIoW_bn (fun _ => ?_)) | (refine PIoW_na hP ?_ (fun _ _ => ?_)) | (refine PIoW_no hP ?_ (fun _ _ => ?_)) | (refine PIoW_ite ?_ ?_) | (refine PIoW_some ?_) | (exact PIoW_none) | (refine PIoW_cv (cQoW.c44 hc _ _ _ _ _ ?_) (fun _ _ => ?_)) | (refine pioW_oj_X1_learn_28 hP hc  ?_)))
theorem pioW_ob_X1_postpone  {x0 : Option Nat} {x1 : Option Nat} {x2 : Int32} {σ : oSt} (hP : iKptW P) (hc : cQoW P call)  (h : P σ) : PIo P (ob_X1_postpone n call κ  x0 x1 x2 σ) := by
  unfold ob_X1_postpone
  repeat' (with_reducible (first | assumption | (refine PIoW_gd ?_) | (refine PIoW_pf hP ?_ (by decide) (by with_unfolding_all rfl) (fun _ _ => ?_)) | (refine PIoW_si hP ?_ (fun _ _ => ?_)) | (refine PIoW_sj hP ?_ (fun _ _ => ?_)) | (refine PIoW_sr hP ?_ (fun _ _ => ?_)) | (refine PIoW_cy hP ?_ (fun _ _ => ?_)) | (refine PIoW_bn (fun _ => ?_)) | (refine PIoW_na hP ?_ (fun _ _ => ?_)) | (refine PIoW_no hP ?_ (fun _ _ => ?_)) | (refine PIoW_ite ?_ ?_) | (refine PIoW_some ?_) | (exact PIoW_none)))
theorem pioW_oj_X1_choose_38 {k2 : Option Nat → Option Nat → Int32 → Int32 → oSt → oRs} {x0 : Option Nat} {x1 : Option Nat} {x2 : Int32} {x3 : Int32} {σ : oSt} (hP : iKptW P) (hc : cQoW P call) (hk2 : ∀ (a0 : Option Nat) (a1 : Option Nat) (a2 : Int32) (a3 : Int32), ∀ σ, P σ → PIo P (k2 a0 a1 a2 a3 σ)) (h : P σ) : PIo P (oj_X1_choose_38 n call κ k2 x0 x1 x2 x3 σ) := by
  unfold oj_X1_choose_38
  repeat' (with_reducible (first | assumption | (refine PIoW_gd ?_) | (refine PIoW_pf hP ?_ (by decide) (by with_unfolding_all rfl) (fun _ _ => ?_)) | (refine PIoW_si hP ?_ (fun _ _ => ?_)) | (refine PIoW_sj hP ?_ (fun _ _ => ?_)) | (refine PIoW_sr hP ?_ (fun _ _ => ?_)) | (refine PIoW_cy hP ?_ (fun _ _ => ?_)) | (refine PIoW_bn (fun _ => ?_)) | (refine PIoW_na hP ?_ (fun _ _ => ?_)) | (refine PIoW_no hP ?_ (fun _ _ => ?_)) | (refine PIoW_ite ?_ ?_) | (refine PIoW_some ?_) | (exact PIoW_none) | (refine hk2 _ _ _ _ _ ?_)))
theorem pioW_ol_X1_choose_2  (hP : iKptW P) (hc : cQoW P call)  : ∀ (t : Nat) (x0 : Option Nat) (x1 : Option Nat) (x2 : Int32) (x3 : Int32) (σ : oSt), P σ → PIo P (ol_X1_choose_2 n call κ  t x0 x1 x2 x3 σ) := by
  intro t
  induction t with
  | zero => intros; exact PIoW_none
  | succ t ih =>
    intro x0 x1 x2 x3 σ h
    rw [ol_X1_choose_2]
    repeat' (with_reducible (first | assumption | (refine PIoW_gd ?_) | (refine PIoW_pf hP ?_ (by decide) (by with_unfolding_all rfl) (fun _ _ => ?_)) | (refine PIoW_si hP ?_ (fun _ _ => ?_)) | (refine PIoW_sj hP ?_ (fun _ _ => ?_)) | (refine PIoW_sr hP ?_ (fun _ _ => ?_)) | (refine PIoW_cy hP ?_ (fun _ _ => ?_)) | (refine PIoW_bn (fun _ => ?_)) | (refine PIoW_na hP ?_ (fun _ _ => ?_)) | (refine PIoW_no hP ?_ (fun _ _ => ?_)) | (refine PIoW_ite ?_ ?_) | (refine PIoW_some ?_) | (exact PIoW_none) | (refine pioW_oj_X1_choose_38 hP hc ih ?_)))
theorem pioW_ob_X1_choose  {x0 : Option Nat} {x1 : Option Nat} {x2 : Int32} {σ : oSt} (hP : iKptW P) (hc : cQoW P call)  (h : P σ) : PIo P (ob_X1_choose n call κ  x0 x1 x2 σ) := by
  unfold ob_X1_choose
  repeat' (with_reducible (first | assumption | (refine PIoW_gd ?_) | (refine PIoW_pf hP ?_ (by decide) (by with_unfolding_all rfl) (fun _ _ => ?_)) | (refine PIoW_si hP ?_ (fun _ _ => ?_)) | (refine PIoW_sj hP ?_ (fun _ _ => ?_)) | (refine PIoW_sr hP ?_ (fun _ _ => ?_)) | (refine PIoW_cy hP ?_ (fun _ _ => ?_)) | (refine PIoW_bn (fun _ => ?_)) | (refine PIoW_na hP ?_ (fun _ _ => ?_)) | (refine PIoW_no hP ?_ (fun _ _ => ?_)) | (refine PIoW_ite ?_ ?_) | (refine PIoW_some ?_) | (exact PIoW_none) | (refine pioW_ol_X1_choose_2 hP hc  _ _ _ _ _ _ ?_)))
theorem pioW_ob_X1_opposite  {x0 : Int32} {σ : oSt} (hP : iKptW P) (hc : cQoW P call)  (h : P σ) : PIo P (ob_X1_opposite n call κ  x0 σ) := by
  unfold ob_X1_opposite
  repeat' (with_reducible (first | assumption | (refine PIoW_gd ?_) | (refine PIoW_pf hP ?_ (by decide) (by with_unfolding_all rfl) (fun _ _ => ?_)) | (refine PIoW_si hP ?_ (fun _ _ => ?_)) | (refine PIoW_sj hP ?_ (fun _ _ => ?_)) | (refine PIoW_sr hP ?_ (fun _ _ => ?_)) | (refine PIoW_cy hP ?_ (fun _ _ => ?_)) | (refine PIoW_bn (fun _ => ?_)) | (refine PIoW_na hP ?_ (fun _ _ => ?_)) | (refine PIoW_no hP ?_ (fun _ _ => ?_)) | (refine PIoW_ite ?_ ?_) | (refine PIoW_some ?_) | (exact PIoW_none)))
theorem pioW_oj_X1_limit_170  {x0 : Option Nat} {x4 : Int64} {x6 : Int32} {x7 : Int32} {t0 : Int32} {σ : oSt} (hP : iKptW P) (hc : cQoW P call)  (h : P σ) : PIo P (oj_X1_limit_170 n call κ  x0 x4 x6 x7 t0 σ) := by
  unfold oj_X1_limit_170
  repeat' (with_reducible (first | assumption | (refine PIoW_gd ?_) | (refine PIoW_pf hP ?_ (by decide) (by with_unfolding_all rfl) (fun _ _ => ?_)) | (refine PIoW_si hP ?_ (fun _ _ => ?_)) | (refine PIoW_sj hP ?_ (fun _ _ => ?_)) | (refine PIoW_sr hP ?_ (fun _ _ => ?_)) | (refine PIoW_cy hP ?_ (fun _ _ => ?_)) | (refine PIoW_bn (fun _ => ?_)) | (refine PIoW_na hP ?_ (fun _ _ => ?_)) | (refine PIoW_no hP ?_ (fun _ _ => ?_)) | (refine PIoW_ite ?_ ?_) | (refine PIoW_some ?_) | (exact PIoW_none) | (refine PIoW_cv (cQoW.c44 hc _ _ _ _ _ ?_) (fun _ _ => ?_))))
theorem pioW_oj_X1_limit_169  {x0 : Option Nat} {x4 : Int64} {x6 : Int32} {x7 : Int32} {σ : oSt} (hP : iKptW P) (hc : cQoW P call)  (h : P σ) : PIo P (oj_X1_limit_169 n call κ  x0 x4 x6 x7 σ) := by
  unfold oj_X1_limit_169
  repeat' (with_reducible (first | assumption | (refine PIoW_gd ?_) | (refine PIoW_pf hP ?_ (by decide) (by with_unfolding_all rfl) (fun _ _ => ?_)) | (refine PIoW_si hP ?_ (fun _ _ => ?_)) | (refine PIoW_sj hP ?_ (fun _ _ => ?_)) | (refine PIoW_sr hP ?_ (fun _ _ => ?_)) | (refine PIoW_cy hP ?_ (fun _ _ => ?_)) | (refine PIoW_bn (fun _ => ?_)) | (refine PIoW_na hP ?_ (fun _ _ => ?_)) | (refine PIoW_no hP ?_ (fun _ _ => ?_)) | (refine PIoW_ite ?_ ?_) | (refine PIoW_some ?_) | (exact PIoW_none) | (refine pioW_oj_X1_limit_170 hP hc  ?_)))
theorem pioW_oj_X1_limit_46  {t0 : Option Nat} {t1 : Int32} {σ : oSt} (hP : iKptW P) (hc : cQoW P call)  (h : P σ) : PIo P (oj_X1_limit_46 n call κ  t0 t1 σ) := by
  unfold oj_X1_limit_46
  repeat' (with_reducible (first | assumption | (refine PIoW_gd ?_) | (refine PIoW_pf hP ?_ (by decide) (by with_unfolding_all rfl) (fun _ _ => ?_)) | (refine PIoW_si hP ?_ (fun _ _ => ?_)) | (refine PIoW_sj hP ?_ (fun _ _ => ?_)) | (refine PIoW_sr hP ?_ (fun _ _ => ?_)) | (refine PIoW_cy hP ?_ (fun _ _ => ?_)) | (refine PIoW_bn (fun _ => ?_)) | (refine PIoW_na hP ?_ (fun _ _ => ?_)) | (refine PIoW_no hP ?_ (fun _ _ => ?_)) | (refine PIoW_ite ?_ ?_) | (refine PIoW_some ?_) | (exact PIoW_none)))
theorem pioW_oj_X1_limit_41  {t0 : Option Nat} {σ : oSt} (hP : iKptW P) (hc : cQoW P call)  (h : P σ) : PIo P (oj_X1_limit_41 n call κ  t0 σ) := by
  unfold oj_X1_limit_41
  repeat' (with_reducible (first | assumption | (refine PIoW_gd ?_) | (refine PIoW_pf hP ?_ (by decide) (by with_unfolding_all rfl) (fun _ _ => ?_)) | (refine PIoW_si hP ?_ (fun _ _ => ?_)) | (refine PIoW_sj hP ?_ (fun _ _ => ?_)) | (refine PIoW_sr hP ?_ (fun _ _ => ?_)) | (refine PIoW_cy hP ?_ (fun _ _ => ?_)) | (refine PIoW_bn (fun _ => ?_)) | (refine PIoW_na hP ?_ (fun _ _ => ?_)) | (refine PIoW_no hP ?_ (fun _ _ => ?_)) | (refine PIoW_ite ?_ ?_) | (refine PIoW_some ?_) | (exact PIoW_none) | (refine pioW_oj_X1_limit_46 hP hc  ?_)))
theorem pioW_ob_X1_limit  {x0 : Option Nat} {x1 : Option Nat} {x2 : Int32} {x3 : Int32} {σ : oSt} (hP : iKptW P) (hc : cQoW P call)  (h : P σ) : PIo P (ob_X1_limit n call κ  x0 x1 x2 x3 σ) := by
  unfold ob_X1_limit
  repeat' (with_reducible (first | assumption | (refine PIoW_gd ?_) | (refine PIoW_pf hP ?_ (by decide) (by with_unfolding_all rfl) (fun _ _ => ?_)) | (refine PIoW_si hP ?_ (fun _ _ => ?_)) | (refine PIoW_sj hP ?_ (fun _ _ => ?_)) | (refine PIoW_sr hP ?_ (fun _ _ => ?_)) | (refine PIoW_cy hP ?_ (fun _ _ => ?_)) | (refine PIoW_bn (fun _ => ?_)) | (refine PIoW_na hP ?_ (fun _ _ => ?_)) | (refine PIoW_no hP ?_ (fun _ _ => ?_)) | (refine PIoW_ite ?_ ?_) | (refine PIoW_some ?_) | (exact PIoW_none) | (refine PIoW_in (cQoW.c38 hc _ _ ?_) (fun _ _ _ => ?_)) | (refine PIoW_in (cQoW.c47 hc _ _ _ ?_) (fun _ _ _ => ?_)) | (refine pioW_oj_X1_limit_46 hP hc  ?_) | (refine pioW_oj_X1_limit_41 hP hc  ?_) | (refine pioW_oj_X1_limit_170 hP hc  ?_) | (refine pioW_oj_X1_limit_169 hP hc  ?_)))
theorem pioW_oj_X1_compare_65  {x0 : Option Nat} {x1 : Option Nat} {x3 : Int32} {σ : oSt} (hP : iKptW P) (hc : cQoW P call)  (h : P σ) : PIo P (oj_X1_compare_65 n call κ  x0 x1 x3 σ) := by
  unfold oj_X1_compare_65
  repeat' (with_reducible (first | assumption | (refine PIoW_gd ?_) | (refine PIoW_pf hP ?_ (by decide) (by with_unfolding_all rfl) (fun _ _ => ?_)) | (refine PIoW_si hP ?_ (fun _ _ => ?_)) | (refine PIoW_sj hP ?_ (fun _ _ => ?_)) | (refine PIoW_sr hP ?_ (fun _ _ => ?_)) | (refine PIoW_cy hP ?_ (fun _ _ => ?_)) | (refine PIoW_bn (fun _ => ?_)) | (refine PIoW_na hP ?_ (fun _ _ => ?_)) | (refine PIoW_no hP ?_ (fun _ _ => ?_)) | (refine PIoW_ite ?_ ?_) | (refine PIoW_some ?_) | (exact PIoW_none) | (refine PIoW_cv (cQoW.c54 hc _ _ _ _ _ ?_) (fun _ _ => ?_))))
theorem pioW_oj_X1_compare_62  {x0 : Option Nat} {x1 : Option Nat} {x3 : Int32} {t0 : Option Nat} {t1 : Option Nat} {t2 : Int32} {t3 : Int32} {σ : oSt} (hP : iKptW P) (hc : cQoW P call)  (h : P σ) : PIo P (oj_X1_compare_62 n call κ  x0 x1 x3 t0 t1 t2 t3 σ) := by
  unfold oj_X1_compare_62
  repeat' (with_reducible (first | assumption | (refine PIoW_gd ?_) | (refine PIoW_pf hP ?_ (by decide) (by with_unfolding_all rfl) (fun _ _ => ?_)) | (refine PIoW_si hP ?_ (fun _ _ => ?_)) | (refine PIoW_sj hP ?_ (fun _ _ => ?_)) | (refine PIoW_sr hP ?_ (fun _ _ => ?_)) | (refine PIoW_cy hP ?_ (fun _ _ => ?_)) | (refine PIoW_bn (fun _ => ?_)) | (refine PIoW_na hP ?_ (fun _ _ => ?_)) | (refine PIoW_no hP ?_ (fun _ _ => ?_)) | (refine PIoW_ite ?_ ?_) | (refine PIoW_some ?_) | (exact PIoW_none) | (refine PIoW_cv (cQoW.c54 hc _ _ _ _ _ ?_) (fun _ _ => ?_)) | (refine pioW_oj_X1_compare_65 hP hc  ?_)))
theorem pioW_oj_X1_compare_18  {x0 : Option Nat} {x1 : Option Nat} {x2 : Int32} {t0 : Int32} {σ : oSt} (hP : iKptW P) (hc : cQoW P call)  (h : P σ) : PIo P (oj_X1_compare_18 n call κ  x0 x1 x2 t0 σ) := by
  unfold oj_X1_compare_18
  repeat' (with_reducible (first | assumption | (refine PIoW_gd ?_) | (refine PIoW_pf hP ?_ (by decide) (by with_unfolding_all rfl) (fun _ _ => ?_)) | (refine PIoW_si hP ?_ (fun _ _ => ?_)) | (refine PIoW_sj hP ?_ (fun _ _ => ?_)) | (refine PIoW_sr hP ?_ (fun _ _ => ?_)) | (refine PIoW_cy hP ?_ (fun _ _ => ?_)) | (refine PIoW_bn (fun _ => ?_)) | (refine PIoW_na hP ?_ (fun _ _ => ?_)) | (refine PIoW_no hP ?_ (fun _ _ => ?_)) | (refine PIoW_ite ?_ ?_) | (refine PIoW_some ?_) | (exact PIoW_none) | (refine PIoW_cv (cQoW.c51 hc _ _ _ _ ?_) (fun _ _ => ?_)) | (refine pioW_oj_X1_compare_65 hP hc  ?_) | (refine pioW_oj_X1_compare_62 hP hc  ?_)))
theorem pioW_ob_X1_compare  {x0 : Option Nat} {x1 : Option Nat} {x2 : Int32} {σ : oSt} (hP : iKptW P) (hc : cQoW P call)  (h : P σ) : PIo P (ob_X1_compare n call κ  x0 x1 x2 σ) := by
  unfold ob_X1_compare
  repeat' (with_reducible (first | assumption | (refine PIoW_gd ?_) | (refine PIoW_pf hP ?_ (by decide) (by with_unfolding_all rfl) (fun _ _ => ?_)) | (refine PIoW_si hP ?_ (fun _ _ => ?_)) | (refine PIoW_sj hP ?_ (fun _ _ => ?_)) | (refine PIoW_sr hP ?_ (fun _ _ => ?_)) | (refine PIoW_cy hP ?_ (fun _ _ => ?_)) | (refine PIoW_bn (fun _ => ?_)) | (refine PIoW_na hP ?_ (fun _ _ => ?_)) | (refine PIoW_no hP ?_ (fun _ _ => ?_)) | (refine PIoW_ite ?_ ?_) | (refine PIoW_some ?_) | (exact PIoW_none) | (refine PIoW_in (cQoW.c53 hc _ _ ?_) (fun _ _ _ => ?_)) | (refine pioW_oj_X1_compare_18 hP hc  ?_)))
theorem pioW_oj_X1_assume_196  {t0 : Option Nat} {σ : oSt} (hP : iKptW P) (hc : cQoW P call)  (h : P σ) : PIo P (oj_X1_assume_196 n call κ  t0 σ) := by
  unfold oj_X1_assume_196
  repeat' (with_reducible (first | assumption | (refine PIoW_gd ?_) | (refine PIoW_pf hP ?_ (by decide) (by with_unfolding_all rfl) (fun _ _ => ?_)) | (refine PIoW_si hP ?_ (fun _ _ => ?_)) | (refine PIoW_sj hP ?_ (fun _ _ => ?_)) | (refine PIoW_sr hP ?_ (fun _ _ => ?_)) | (refine PIoW_cy hP ?_ (fun _ _ => ?_)) | (refine PIoW_bn (fun _ => ?_)) | (refine PIoW_na hP ?_ (fun _ _ => ?_)) | (refine PIoW_no hP ?_ (fun _ _ => ?_)) | (refine PIoW_ite ?_ ?_) | (refine PIoW_some ?_) | (exact PIoW_none)))
theorem pioW_oj_X1_assume_192  {x2 : Int32} {t0 : Option Nat} {t1 : Int32} {σ : oSt} (hP : iKptW P) (hc : cQoW P call)  (h : P σ) : PIo P (oj_X1_assume_192 n call κ  x2 t0 t1 σ) := by
  unfold oj_X1_assume_192
  repeat' (with_reducible (first | assumption | (refine PIoW_gd ?_) | (refine PIoW_pf hP ?_ (by decide) (by with_unfolding_all rfl) (fun _ _ => ?_)) | (refine PIoW_si hP ?_ (fun _ _ => ?_)) | (refine PIoW_sj hP ?_ (fun _ _ => ?_)) | (refine PIoW_sr hP ?_ (fun _ _ => ?_)) | (refine PIoW_cy hP ?_ (fun _ _ => ?_)) | (refine PIoW_bn (fun _ => ?_)) | (refine PIoW_na hP ?_ (fun _ _ => ?_)) | (refine PIoW_no hP ?_ (fun _ _ => ?_)) | (refine PIoW_ite ?_ ?_) | (refine PIoW_some ?_) | (exact PIoW_none) | (refine pioW_oj_X1_assume_196 hP hc  ?_)))
theorem pioW_ol_X1_assume_106  (hP : iKptW P) (hc : cQoW P call)  : ∀ (t : Nat) (x0 : Option Nat) (x1 : Option Nat) (x2 : Int32) (x3 : Int32) (σ : oSt), P σ → PIo P (ol_X1_assume_106 n call κ  t x0 x1 x2 x3 σ) := by
  intro t
  induction t with
  | zero => intros; exact PIoW_none
  | succ t ih =>
    intro x0 x1 x2 x3 σ h
    rw [ol_X1_assume_106]
    repeat' (with_reducible (first | assumption | (refine PIoW_gd ?_) | (refine PIoW_pf hP ?_ (by decide) (by with_unfolding_all rfl) (fun _ _ => ?_)) | (refine PIoW_si hP ?_ (fun _ _ => ?_)) | (refine PIoW_sj hP ?_ (fun _ _ => ?_)) | (refine PIoW_sr hP ?_ (fun _ _ => ?_)) | (refine PIoW_cy hP ?_ (fun _ _ => ?_)) | (refine PIoW_bn (fun _ => ?_)) | (refine PIoW_na hP ?_ (fun _ _ => ?_)) | (refine PIoW_no hP ?_ (fun _ _ => ?_)) | (refine PIoW_ite ?_ ?_) | (refine PIoW_some ?_) | (exact PIoW_none) | (refine PIoW_cv (cQoW.c56 hc _ _ _ _ ?_) (fun _ _ => ?_)) | (refine PIoW_in (cQoW.c236 hc _ _ ?_) (fun _ _ _ => ?_)) | (refine PIoW_rn (cQoW.c234 hc _ _ _ ?_) (fun _ _ _ => ?_)) | (refine ih _ _ _ _ _ ?_)))
theorem pioW_oj_X1_assume_91  {x0 : Option Nat} {x1 : Option Nat} {x2 : Int32} {t0 : Int32} {σ : oSt} (hP : iKptW P) (hc : cQoW P call)  (h : P σ) : PIo P (oj_X1_assume_91 n call κ  x0 x1 x2 t0 σ) := by
  unfold oj_X1_assume_91
  repeat' (with_reducible (first | assumption | (refine PIoW_gd ?_) | (refine PIoW_pf hP ?_ (by decide) (by with_unfolding_all rfl) (fun _ _ => ?_)) | (refine PIoW_si hP ?_ (fun _ _ => ?_)) | (refine PIoW_sj hP ?_ (fun _ _ => ?_)) | (refine PIoW_sr hP ?_ (fun _ _ => ?_)) | (refine PIoW_cy hP ?_ (fun _ _ => ?_)) | (refine PIoW_bn (fun _ => ?_)) | (refine PIoW_na hP ?_ (fun _ _ => ?_)) | (refine PIoW_no hP ?_ (fun _ _ => ?_)) | (refine PIoW_ite ?_ ?_) | (refine PIoW_some ?_) | (exact PIoW_none) | (refine PIoW_cv (cQoW.c51 hc _ _ _ _ ?_) (fun _ _ => ?_)) | (refine pioW_ol_X1_assume_106 hP hc  _ _ _ _ _ _ ?_)))
theorem pioW_oj_X1_assume_70  {t0 : Option Nat} {t1 : Option Nat} {t2 : Int32} {σ : oSt} (hP : iKptW P) (hc : cQoW P call)  (h : P σ) : PIo P (oj_X1_assume_70 n call κ  t0 t1 t2 σ) := by
  unfold oj_X1_assume_70
  repeat' (with_reducible (first | assumption | (refine PIoW_gd ?_) | (refine PIoW_pf hP ?_ (by decide) (by with_unfolding_all rfl) (fun _ _ => ?_)) | (refine PIoW_si hP ?_ (fun _ _ => ?_)) | (refine PIoW_sj hP ?_ (fun _ _ => ?_)) | (refine PIoW_sr hP ?_ (fun _ _ => ?_)) | (refine PIoW_cy hP ?_ (fun _ _ => ?_)) | (refine PIoW_bn (fun _ => ?_)) | (refine PIoW_na hP ?_ (fun _ _ => ?_)) | (refine PIoW_no hP ?_ (fun _ _ => ?_)) | (refine PIoW_ite ?_ ?_) | (refine PIoW_some ?_) | (exact PIoW_none) | (refine PIoW_cv (cQoW.c56 hc _ _ _ _ ?_) (fun _ _ => ?_))))
theorem pioW_ob_X1_assume  {x0 : Option Nat} {x1 : Option Nat} {x2 : Int32} {σ : oSt} (hP : iKptW P) (hc : cQoW P call)  (h : P σ) : PIo P (ob_X1_assume n call κ  x0 x1 x2 σ) := by
  unfold ob_X1_assume
  repeat' (with_reducible (first | assumption | (refine PIoW_gd ?_) | (refine PIoW_pf hP ?_ (by decide) (by with_unfolding_all rfl) (fun _ _ => ?_)) | (refine PIoW_si hP ?_ (fun _ _ => ?_)) | (refine PIoW_sj hP ?_ (fun _ _ => ?_)) | (refine PIoW_sr hP ?_ (fun _ _ => ?_)) | (refine PIoW_cy hP ?_ (fun _ _ => ?_)) | (refine PIoW_bn (fun _ => ?_)) | (refine PIoW_na hP ?_ (fun _ _ => ?_)) | (refine PIoW_no hP ?_ (fun _ _ => ?_)) | (refine PIoW_ite ?_ ?_) | (refine PIoW_some ?_) | (exact PIoW_none) | (refine PIoW_cv (cQoW.c52 hc _ _ _ _ ?_) (fun _ _ => ?_)) | (refine PIoW_cv (cQoW.c55 hc _ _ _ _ ?_) (fun _ _ => ?_)) | (refine pioW_oj_X1_assume_70 hP hc  ?_) | (refine pioW_oj_X1_assume_91 hP hc  ?_) | (refine pioW_oj_X1_assume_192 hP hc  ?_) | (refine pioW_oj_X1_assume_196 hP hc  ?_)))
theorem pioW_oj_X1_begin_176 {k104 : Option Nat → Option Nat → oSt → oRs} {x0 : Option Nat} {x4 : Option Nat} {σ : oSt} (hP : iKptW P) (hc : cQoW P call) (hk104 : ∀ (a0 : Option Nat) (a1 : Option Nat), ∀ σ, P σ → PIo P (k104 a0 a1 σ)) (h : P σ) : PIo P (oj_X1_begin_176 n call κ k104 x0 x4 σ) := by
  unfold oj_X1_begin_176
  repeat' (with_reducible (first | assumption | (refine PIoW_gd ?_) | (refine PIoW_pf hP ?_ (by decide) (by with_unfolding_all rfl) (fun _ _ => ?_)) | (refine PIoW_si hP ?_ (fun _ _ => ?_)) | (refine PIoW_sj hP ?_ (fun _ _ => ?_)) | (refine PIoW_sr hP ?_ (fun _ _ => ?_)) | (refine PIoW_cy hP ?_ (fun _ _ => ?_)) | (refine PIoW_bn (fun _ => ?_)) | (refine PIoW_na hP ?_ (fun _ _ => ?_)) | (refine PIoW_no hP ?_ (fun _ _ => ?_)) | (refine PIoW_ite ?_ ?_) | (refine PIoW_some ?_) | (exact PIoW_none) | (refine hk104 _ _ _ ?_)))
theorem pioW_ol_X1_begin_104  (hP : iKptW P) (hc : cQoW P call)  : ∀ (t : Nat) (x0 : Option Nat) (x1 : Option Nat) (σ : oSt), P σ → PIo P (ol_X1_begin_104 n call κ  t x0 x1 σ) := by
  intro t
  induction t with
  | zero => intros; exact PIoW_none
  | succ t ih =>
    intro x0 x1 σ h
    rw [ol_X1_begin_104]
    repeat' (with_reducible (first | assumption | (refine PIoW_gd ?_) | (refine PIoW_pf hP ?_ (by decide) (by with_unfolding_all rfl) (fun _ _ => ?_)) | (refine PIoW_si hP ?_ (fun _ _ => ?_)) | (refine PIoW_sj hP ?_ (fun _ _ => ?_)) | (refine PIoW_sr hP ?_ (fun _ _ => ?_)) | (refine PIoW_cy hP ?_ (fun _ _ => ?_)) | (refine PIoW_bn (fun _ => ?_)) | (refine PIoW_na hP ?_ (fun _ _ => ?_)) | (refine PIoW_no hP ?_ (fun _ _ => ?_)) | (refine PIoW_ite ?_ ?_) | (refine PIoW_some ?_) | (exact PIoW_none) | (refine PIoW_cv (cQoW.c50 hc _ _ _ _ ?_) (fun _ _ => ?_)) | (refine PIoW_cv (cQoW.c56 hc _ _ _ _ ?_) (fun _ _ => ?_)) | (refine PIoW_in (cQoW.c6 hc _ _ ?_) (fun _ _ _ => ?_)) | (refine pioW_oj_X1_begin_176 hP hc ih ?_)))
theorem pioW_oj_X1_begin_101  {x0 : Option Nat} {x1 : Option Nat} {σ : oSt} (hP : iKptW P) (hc : cQoW P call)  (h : P σ) : PIo P (oj_X1_begin_101 n call κ  x0 x1 σ) := by
  unfold oj_X1_begin_101
  repeat' (with_reducible (first | assumption | (refine PIoW_gd ?_) | (refine PIoW_pf hP ?_ (by decide) (by with_unfolding_all rfl) (fun _ _ => ?_)) | (refine PIoW_si hP ?_ (fun _ _ => ?_)) | (refine PIoW_sj hP ?_ (fun _ _ => ?_)) | (refine PIoW_sr hP ?_ (fun _ _ => ?_)) | (refine PIoW_cy hP ?_ (fun _ _ => ?_)) | (refine PIoW_bn (fun _ => ?_)) | (refine PIoW_na hP ?_ (fun _ _ => ?_)) | (refine PIoW_no hP ?_ (fun _ _ => ?_)) | (refine PIoW_ite ?_ ?_) | (refine PIoW_some ?_) | (exact PIoW_none) | (refine pioW_ol_X1_begin_104 hP hc  _ _ _ _ ?_)))
theorem pioW_oj_X1_begin_73 {k25 : Option Nat → Option Nat → Option Nat → Int32 → Option Nat → oSt → oRs} {x0 : Option Nat} {x1 : Option Nat} {x2 : Option Nat} {x3 : Int32} {x4 : Option Nat} {σ : oSt} (hP : iKptW P) (hc : cQoW P call) (hk25 : ∀ (a0 : Option Nat) (a1 : Option Nat) (a2 : Option Nat) (a3 : Int32) (a4 : Option Nat), ∀ σ, P σ → PIo P (k25 a0 a1 a2 a3 a4 σ)) (h : P σ) : PIo P (oj_X1_begin_73 n call κ k25 x0 x1 x2 x3 x4 σ) := by
  unfold oj_X1_begin_73
  repeat' (with_reducible (first | assumption | (refine PIoW_gd ?_) | (refine PIoW_pf hP ?_ (by decide) (by with_unfolding_all rfl) (fun _ _ => ?_)) | (refine PIoW_si hP ?_ (fun _ _ => ?_)) | (refine PIoW_sj hP ?_ (fun _ _ => ?_)) | (refine PIoW_sr hP ?_ (fun _ _ => ?_)) | (refine PIoW_cy hP ?_ (fun _ _ => ?_)) | (refine PIoW_bn (fun _ => ?_)) | (refine PIoW_na hP ?_ (fun _ _ => ?_)) | (refine PIoW_no hP ?_ (fun _ _ => ?_)) | (refine PIoW_ite ?_ ?_) | (refine PIoW_some ?_) | (exact PIoW_none) | (refine hk25 _ _ _ _ _ _ ?_)))
theorem pioW_ol_X1_begin_25  (hP : iKptW P) (hc : cQoW P call)  : ∀ (t : Nat) (x0 : Option Nat) (x1 : Option Nat) (x2 : Option Nat) (x3 : Int32) (x4 : Option Nat) (σ : oSt), P σ → PIo P (ol_X1_begin_25 n call κ  t x0 x1 x2 x3 x4 σ) := by
  intro t
  induction t with
  | zero => intros; exact PIoW_none
  | succ t ih =>
    intro x0 x1 x2 x3 x4 σ h
    rw [ol_X1_begin_25]
    repeat' (with_reducible (first | assumption | (refine PIoW_gd ?_) | (refine PIoW_pf hP ?_ (by decide) (by with_unfolding_all rfl) (fun _ _ => ?_)) | (refine PIoW_si hP ?_ (fun _ _ => ?_)) | (refine PIoW_sj hP ?_ (fun _ _ => ?_)) | (refine PIoW_sr hP ?_ (fun _ _ => ?_)) | (refine PIoW_cy hP ?_ (fun _ _ => ?_)) | (refine PIoW_bn (fun _ => ?_)) | (refine PIoW_na hP ?_ (fun _ _ => ?_)) | (refine PIoW_no hP ?_ (fun _ _ => ?_)) | (refine PIoW_ite ?_ ?_) | (refine PIoW_some ?_) | (exact PIoW_none) | (refine PIoW_cv (cQoW.c41 hc _ _ _ ?_) (fun _ _ => ?_)) | (refine PIoW_cv (cQoW.c50 hc _ _ _ _ ?_) (fun _ _ => ?_)) | (refine PIoW_in (cQoW.c6 hc _ _ ?_) (fun _ _ _ => ?_)) | (refine pioW_oj_X1_begin_101 hP hc  ?_) | (refine pioW_oj_X1_begin_73 hP hc ih ?_)))
theorem pioW_ob_X1_begin  {x0 : Option Nat} {x1 : Option Nat} {x2 : Option Nat} {σ : oSt} (hP : iKptW P) (hc : cQoW P call)  (h : P σ) : PIo P (ob_X1_begin n call κ  x0 x1 x2 σ) := by
  unfold ob_X1_begin
  repeat' (with_reducible (first | assumption | (refine PIoW_gd ?_) | (refine PIoW_pf hP ?_ (by decide) (by with_unfolding_all rfl) (fun _ _ => ?_)) | (refine PIoW_si hP ?_ (fun _ _ => ?_)) | (refine PIoW_sj hP ?_ (fun _ _ => ?_)) | (refine PIoW_sr hP ?_ (fun _ _ => ?_)) | (refine PIoW_cy hP ?_ (fun _ _ => ?_)) | (refine PIoW_bn (fun _ => ?_)) | (refine PIoW_na hP ?_ (fun _ _ => ?_)) | (refine PIoW_no hP ?_ (fun _ _ => ?_)) | (refine PIoW_ite ?_ ?_) | (refine PIoW_some ?_) | (exact PIoW_none) | (refine pioW_ol_X1_begin_25 hP hc  _ _ _ _ _ _ _ ?_)))
theorem pioW_oj_X6_close_90  {x0 : Option Nat} {σ : oSt} (hP : iKptW P) (hc : cQoW P call)  (h : P σ) : PIo P (oj_X6_close_90 n call κ  x0 σ) := by
  unfold oj_X6_close_90
  repeat' (with_reducible (first | assumption | (refine PIoW_gd ?_) | (refine PIoW_pf hP ?_ (by decide) (by with_unfolding_all rfl) (fun _ _ => ?_)) | (refine PIoW_si hP ?_ (fun _ _ => ?_)) | (refine PIoW_sj hP ?_ (fun _ _ => ?_)) | (refine PIoW_sr hP ?_ (fun _ _ => ?_)) | (refine PIoW_cy hP ?_ (fun _ _ => ?_)) | (refine PIoW_bn (fun _ => ?_)) | (refine PIoW_na hP ?_ (fun _ _ => ?_)) | (refine PIoW_no hP ?_ (fun _ _ => ?_)) | (refine PIoW_ite ?_ ?_) | (refine PIoW_some ?_) | (exact PIoW_none) | (refine PIoW_cv (cQoW.c43 hc _ _ ?_) (fun _ _ => ?_))))
theorem pioW_oj_X6_close_75 {k7 : Option Nat → Int32 → oSt → oRs} {k31 : Option Nat → Int32 → Int32 → oSt → oRs} {x0 : Option Nat} {x1 : Int32} {x2 : Int32} {t0 : Option Nat} {t1 : Int32} {σ : oSt} (hP : iKptW P) (hc : cQoW P call) (hk7 : ∀ (a0 : Option Nat) (a1 : Int32), ∀ σ, P σ → PIo P (k7 a0 a1 σ)) (hk31 : ∀ (a0 : Option Nat) (a1 : Int32) (a2 : Int32), ∀ σ, P σ → PIo P (k31 a0 a1 a2 σ)) (h : P σ) : PIo P (oj_X6_close_75 n call κ k7 k31 x0 x1 x2 t0 t1 σ) := by
  unfold oj_X6_close_75
  repeat' (with_reducible (first | assumption | (refine PIoW_gd ?_) | (refine PIoW_pf hP ?_ (by decide) (by with_unfolding_all rfl) (fun _ _ => ?_)) | (refine PIoW_si hP ?_ (fun _ _ => ?_)) | (refine PIoW_sj hP ?_ (fun _ _ => ?_)) | (refine PIoW_sr hP ?_ (fun _ _ => ?_)) | (refine PIoW_cy hP ?_ (fun _ _ => ?_)) | (refine PIoW_bn (fun _ => ?_)) | (refine PIoW_na hP ?_ (fun _ _ => ?_)) | (refine PIoW_no hP ?_ (fun _ _ => ?_)) | (refine PIoW_ite ?_ ?_) | (refine PIoW_some ?_) | (exact PIoW_none) | (refine hk7 _ _ _ ?_) | (refine hk31 _ _ _ _ ?_)))
theorem pioW_oj_X6_close_70 {k7 : Option Nat → Int32 → oSt → oRs} {k31 : Option Nat → Int32 → Int32 → oSt → oRs} {x0 : Option Nat} {x1 : Int32} {x2 : Int32} {t0 : Option Nat} {σ : oSt} (hP : iKptW P) (hc : cQoW P call) (hk7 : ∀ (a0 : Option Nat) (a1 : Int32), ∀ σ, P σ → PIo P (k7 a0 a1 σ)) (hk31 : ∀ (a0 : Option Nat) (a1 : Int32) (a2 : Int32), ∀ σ, P σ → PIo P (k31 a0 a1 a2 σ)) (h : P σ) : PIo P (oj_X6_close_70 n call κ k7 k31 x0 x1 x2 t0 σ) := by
  unfold oj_X6_close_70
  repeat' (with_reducible (first | assumption | (refine PIoW_gd ?_) | (refine PIoW_pf hP ?_ (by decide) (by with_unfolding_all rfl) (fun _ _ => ?_)) | (refine PIoW_si hP ?_ (fun _ _ => ?_)) | (refine PIoW_sj hP ?_ (fun _ _ => ?_)) | (refine PIoW_sr hP ?_ (fun _ _ => ?_)) | (refine PIoW_cy hP ?_ (fun _ _ => ?_)) | (refine PIoW_bn (fun _ => ?_)) | (refine PIoW_na hP ?_ (fun _ _ => ?_)) | (refine PIoW_no hP ?_ (fun _ _ => ?_)) | (refine PIoW_ite ?_ ?_) | (refine PIoW_some ?_) | (exact PIoW_none) | (refine pioW_oj_X6_close_75 hP hc hk7 hk31 ?_) | (refine hk7 _ _ _ ?_) | (refine hk31 _ _ _ _ ?_)))
theorem pioW_ol_X6_close_31 {k7 : Option Nat → Int32 → oSt → oRs} (hP : iKptW P) (hc : cQoW P call) (hk7 : ∀ (a0 : Option Nat) (a1 : Int32), ∀ σ, P σ → PIo P (k7 a0 a1 σ)) : ∀ (t : Nat) (x0 : Option Nat) (x1 : Int32) (x2 : Int32) (σ : oSt), P σ → PIo P (ol_X6_close_31 n call κ k7 t x0 x1 x2 σ) := by
  intro t
  induction t with
  | zero => intros; exact PIoW_none
  | succ t ih =>
    intro x0 x1 x2 σ h
    rw [ol_X6_close_31]
    repeat' (with_reducible (first | assumption | (refine PIoW_gd ?_) | (refine PIoW_pf hP ?_ (by decide) (by with_unfolding_all rfl) (fun _ _ => ?_)) | (refine PIoW_si hP ?_ (fun _ _ => ?_)) | (refine PIoW_sj hP ?_ (fun _ _ => ?_)) | (refine PIoW_sr hP ?_ (fun _ _ => ?_)) | (refine PIoW_cy hP ?_ (fun _ _ => ?_)) | (refine PIoW_bn (fun _ => ?_)) | (refine PIoW_na hP ?_ (fun _ _ => ?_)) | (refine PIoW_no hP ?_ (fun _ _ => ?_)) | (refine PIoW_ite ?_ ?_) | (refine PIoW_some ?_) | (exact PIoW_none) | (refine pioW_oj_X6_close_75 hP hc hk7 ih ?_) | (refine pioW_oj_X6_close_70 hP hc hk7 ih ?_) | (refine hk7 _ _ _ ?_)))
theorem pioW_ol_X6_close_7  (hP : iKptW P) (hc : cQoW P call)  : ∀ (t : Nat) (x0 : Option Nat) (x1 : Int32) (σ : oSt), P σ → PIo P (ol_X6_close_7 n call κ  t x0 x1 σ) := by
  intro t
  induction t with
  | zero => intros; exact PIoW_none
  | succ t ih =>
    intro x0 x1 σ h
    rw [ol_X6_close_7]
    repeat' (with_reducible (first | assumption | (refine PIoW_gd ?_) | (refine PIoW_pf hP ?_ (by decide) (by with_unfolding_all rfl) (fun _ _ => ?_)) | (refine PIoW_si hP ?_ (fun _ _ => ?_)) | (refine PIoW_sj hP ?_ (fun _ _ => ?_)) | (refine PIoW_sr hP ?_ (fun _ _ => ?_)) | (refine PIoW_cy hP ?_ (fun _ _ => ?_)) | (refine PIoW_bn (fun _ => ?_)) | (refine PIoW_na hP ?_ (fun _ _ => ?_)) | (refine PIoW_no hP ?_ (fun _ _ => ?_)) | (refine PIoW_ite ?_ ?_) | (refine PIoW_some ?_) | (exact PIoW_none) | (refine PIoW_cv (cQoW.c42 hc _ _ _ _ _ ?_) (fun _ _ => ?_)) | (refine pioW_oj_X6_close_90 hP hc  ?_) | (refine pioW_ol_X6_close_31 hP hc ih _ _ _ _ _ ?_)))
theorem pioW_ob_X6_close  {x0 : Option Nat} {σ : oSt} (hP : iKptW P) (hc : cQoW P call)  (h : P σ) : PIo P (ob_X6_close n call κ  x0 σ) := by
  unfold ob_X6_close
  repeat' (with_reducible (first | assumption | (refine PIoW_gd ?_) | (refine PIoW_pf hP ?_ (by decide) (by with_unfolding_all rfl) (fun _ _ => ?_)) | (refine PIoW_si hP ?_ (fun _ _ => ?_)) | (refine PIoW_sj hP ?_ (fun _ _ => ?_)) | (refine PIoW_sr hP ?_ (fun _ _ => ?_)) | (refine PIoW_cy hP ?_ (fun _ _ => ?_)) | (refine PIoW_bn (fun _ => ?_)) | (refine PIoW_na hP ?_ (fun _ _ => ?_)) | (refine PIoW_no hP ?_ (fun _ _ => ?_)) | (refine PIoW_ite ?_ ?_) | (refine PIoW_some ?_) | (exact PIoW_none) | (refine pioW_ol_X6_close_7 hP hc  _ _ _ _ ?_)))
theorem pioW_oj_X1_conclude_81 {k25 : Option Nat → Option Nat → Int32 → Int32 → oSt → oRs} {x0 : Option Nat} {x1 : Option Nat} {x2 : Int32} {x3 : Int32} {σ : oSt} (hP : iKptW P) (hc : cQoW P call) (hk25 : ∀ (a0 : Option Nat) (a1 : Option Nat) (a2 : Int32) (a3 : Int32), ∀ σ, P σ → PIo P (k25 a0 a1 a2 a3 σ)) (h : P σ) : PIo P (oj_X1_conclude_81 n call κ k25 x0 x1 x2 x3 σ) := by
  unfold oj_X1_conclude_81
  repeat' (with_reducible (first | assumption | (refine PIoW_gd ?_) | (refine PIoW_pf hP ?_ (by decide) (by with_unfolding_all rfl) (fun _ _ => ?_)) | (refine PIoW_si hP ?_ (fun _ _ => ?_)) | (refine PIoW_sj hP ?_ (fun _ _ => ?_)) | (refine PIoW_sr hP ?_ (fun _ _ => ?_)) | (refine PIoW_cy hP ?_ (fun _ _ => ?_)) | (refine PIoW_bn (fun _ => ?_)) | (refine PIoW_na hP ?_ (fun _ _ => ?_)) | (refine PIoW_no hP ?_ (fun _ _ => ?_)) | (refine PIoW_ite ?_ ?_) | (refine PIoW_some ?_) | (exact PIoW_none) | (refine hk25 _ _ _ _ _ ?_)))
theorem pioW_ol_X1_conclude_25  (hP : iKptW P) (hc : cQoW P call)  : ∀ (t : Nat) (x0 : Option Nat) (x1 : Option Nat) (x2 : Int32) (x3 : Int32) (σ : oSt), P σ → PIo P (ol_X1_conclude_25 n call κ  t x0 x1 x2 x3 σ) := by
  intro t
  induction t with
  | zero => intros; exact PIoW_none
  | succ t ih =>
    intro x0 x1 x2 x3 σ h
    rw [ol_X1_conclude_25]
    repeat' (with_reducible (first | assumption | (refine PIoW_gd ?_) | (refine PIoW_pf hP ?_ (by decide) (by with_unfolding_all rfl) (fun _ _ => ?_)) | (refine PIoW_si hP ?_ (fun _ _ => ?_)) | (refine PIoW_sj hP ?_ (fun _ _ => ?_)) | (refine PIoW_sr hP ?_ (fun _ _ => ?_)) | (refine PIoW_cy hP ?_ (fun _ _ => ?_)) | (refine PIoW_bn (fun _ => ?_)) | (refine PIoW_na hP ?_ (fun _ _ => ?_)) | (refine PIoW_no hP ?_ (fun _ _ => ?_)) | (refine PIoW_ite ?_ ?_) | (refine PIoW_some ?_) | (exact PIoW_none) | (refine PIoW_cv (cQoW.c46 hc _ _ _ ?_) (fun _ _ => ?_)) | (refine PIoW_in (cQoW.c49 hc _ _ _ _ _ ?_) (fun _ _ _ => ?_)) | (refine pioW_oj_X1_conclude_81 hP hc ih ?_)))
theorem pioW_ob_X1_conclude  {x0 : Option Nat} {σ : oSt} (hP : iKptW P) (hc : cQoW P call)  (h : P σ) : PIo P (ob_X1_conclude n call κ  x0 σ) := by
  unfold ob_X1_conclude
  repeat' (with_reducible (first | assumption | (refine PIoW_gd ?_) | (refine PIoW_pf hP ?_ (by decide) (by with_unfolding_all rfl) (fun _ _ => ?_)) | (refine PIoW_si hP ?_ (fun _ _ => ?_)) | (refine PIoW_sj hP ?_ (fun _ _ => ?_)) | (refine PIoW_sr hP ?_ (fun _ _ => ?_)) | (refine PIoW_cy hP ?_ (fun _ _ => ?_)) | (refine PIoW_bn (fun _ => ?_)) | (refine PIoW_na hP ?_ (fun _ _ => ?_)) | (refine PIoW_no hP ?_ (fun _ _ => ?_)) | (refine PIoW_ite ?_ ?_) | (refine PIoW_some ?_) | (exact PIoW_none) | (refine pioW_ol_X1_conclude_25 hP hc  _ _ _ _ _ _ ?_)))
theorem pioW_ob_X1_isDecided  {x0 : Option Nat} {σ : oSt} (hP : iKptW P) (hc : cQoW P call)  (h : P σ) : PIo P (ob_X1_isDecided n call κ  x0 σ) := by
  unfold ob_X1_isDecided
  repeat' (with_reducible (first | assumption | (refine PIoW_gd ?_) | (refine PIoW_pf hP ?_ (by decide) (by with_unfolding_all rfl) (fun _ _ => ?_)) | (refine PIoW_si hP ?_ (fun _ _ => ?_)) | (refine PIoW_sj hP ?_ (fun _ _ => ?_)) | (refine PIoW_sr hP ?_ (fun _ _ => ?_)) | (refine PIoW_cy hP ?_ (fun _ _ => ?_)) | (refine PIoW_bn (fun _ => ?_)) | (refine PIoW_na hP ?_ (fun _ _ => ?_)) | (refine PIoW_no hP ?_ (fun _ _ => ?_)) | (refine PIoW_ite ?_ ?_) | (refine PIoW_some ?_) | (exact PIoW_none)))
theorem pioW_ob_X6_rise  {x0 : Option Nat} {σ : oSt} (hP : iKptW P) (hc : cQoW P call)  (h : P σ) : PIo P (ob_X6_rise n call κ  x0 σ) := by
  unfold ob_X6_rise
  repeat' (with_reducible (first | assumption | (refine PIoW_gd ?_) | (refine PIoW_pf hP ?_ (by decide) (by with_unfolding_all rfl) (fun _ _ => ?_)) | (refine PIoW_si hP ?_ (fun _ _ => ?_)) | (refine PIoW_sj hP ?_ (fun _ _ => ?_)) | (refine PIoW_sr hP ?_ (fun _ _ => ?_)) | (refine PIoW_cy hP ?_ (fun _ _ => ?_)) | (refine PIoW_bn (fun _ => ?_)) | (refine PIoW_na hP ?_ (fun _ _ => ?_)) | (refine PIoW_no hP ?_ (fun _ _ => ?_)) | (refine PIoW_ite ?_ ?_) | (refine PIoW_some ?_) | (exact PIoW_none) | (refine PIoW_cv (cQoW.c40 hc _ _ _ ?_) (fun _ _ => ?_))))
theorem pioW_ob_X6_sink  {x0 : Option Nat} {σ : oSt} (hP : iKptW P) (hc : cQoW P call)  (h : P σ) : PIo P (ob_X6_sink n call κ  x0 σ) := by
  unfold ob_X6_sink
  repeat' (with_reducible (first | assumption | (refine PIoW_gd ?_) | (refine PIoW_pf hP ?_ (by decide) (by with_unfolding_all rfl) (fun _ _ => ?_)) | (refine PIoW_si hP ?_ (fun _ _ => ?_)) | (refine PIoW_sj hP ?_ (fun _ _ => ?_)) | (refine PIoW_sr hP ?_ (fun _ _ => ?_)) | (refine PIoW_cy hP ?_ (fun _ _ => ?_)) | (refine PIoW_bn (fun _ => ?_)) | (refine PIoW_na hP ?_ (fun _ _ => ?_)) | (refine PIoW_no hP ?_ (fun _ _ => ?_)) | (refine PIoW_ite ?_ ?_) | (refine PIoW_some ?_) | (exact PIoW_none)))
theorem pioW_oj_X1_explore_146 {k76 : Option Nat → Int32 → Option Nat → Int32 → Int32 → Int32 → Int32 → Int32 → oSt → oRs} {x0 : Option Nat} {x1 : Int32} {x2 : Option Nat} {x3 : Int32} {x4 : Int32} {x5 : Int32} {x6 : Int32} {x7 : Int32} {σ : oSt} (hP : iKptW P) (hc : cQoW P call) (hk76 : ∀ (a0 : Option Nat) (a1 : Int32) (a2 : Option Nat) (a3 : Int32) (a4 : Int32) (a5 : Int32) (a6 : Int32) (a7 : Int32), ∀ σ, P σ → PIo P (k76 a0 a1 a2 a3 a4 a5 a6 a7 σ)) (h : P σ) : PIo P (oj_X1_explore_146 n call κ k76 x0 x1 x2 x3 x4 x5 x6 x7 σ) := by
  unfold oj_X1_explore_146
  repeat' (with_reducible (first | assumption | (refine PIoW_gd ?_) | (refine PIoW_pf hP ?_ (by decide) (by with_unfolding_all rfl) (fun _ _ => ?_)) | (refine PIoW_si hP ?_ (fun _ _ => ?_)) | (refine PIoW_sj hP ?_ (fun _ _ => ?_)) | (refine PIoW_sr hP ?_ (fun _ _ => ?_)) | (refine PIoW_cy hP ?_ (fun _ _ => ?_)) | (refine PIoW_bn (fun _ => ?_)) | (refine PIoW_na hP ?_ (fun _ _ => ?_)) | (refine PIoW_no hP ?_ (fun _ _ => ?_)) | (refine PIoW_ite ?_ ?_) | (refine PIoW_some ?_) | (exact PIoW_none) | (refine PIoW_cv (cQoW.c62 hc _ _ ?_) (fun _ _ => ?_)) | (refine PIoW_cv (cQoW.c63 hc _ _ _ ?_) (fun _ _ => ?_)) | (refine hk76 _ _ _ _ _ _ _ _ _ ?_)))
theorem pioW_oj_X1_explore_122 {k76 : Option Nat → Int32 → Option Nat → Int32 → Int32 → Int32 → Int32 → Int32 → oSt → oRs} {x0 : Option Nat} {x1 : Int32} {x2 : Option Nat} {x3 : Int32} {x4 : Int32} {x5 : Int32} {x6 : Int32} {x7 : Int32} {t0 : Option Nat} {t1 : Option Nat} {t2 : Int32} {σ : oSt} (hP : iKptW P) (hc : cQoW P call) (hk76 : ∀ (a0 : Option Nat) (a1 : Int32) (a2 : Option Nat) (a3 : Int32) (a4 : Int32) (a5 : Int32) (a6 : Int32) (a7 : Int32), ∀ σ, P σ → PIo P (k76 a0 a1 a2 a3 a4 a5 a6 a7 σ)) (h : P σ) : PIo P (oj_X1_explore_122 n call κ k76 x0 x1 x2 x3 x4 x5 x6 x7 t0 t1 t2 σ) := by
  unfold oj_X1_explore_122
  repeat' (with_reducible (first | assumption | (refine PIoW_gd ?_) | (refine PIoW_pf hP ?_ (by decide) (by with_unfolding_all rfl) (fun _ _ => ?_)) | (refine PIoW_si hP ?_ (fun _ _ => ?_)) | (refine PIoW_sj hP ?_ (fun _ _ => ?_)) | (refine PIoW_sr hP ?_ (fun _ _ => ?_)) | (refine PIoW_cy hP ?_ (fun _ _ => ?_)) | (refine PIoW_bn (fun _ => ?_)) | (refine PIoW_na hP ?_ (fun _ _ => ?_)) | (refine PIoW_no hP ?_ (fun _ _ => ?_)) | (refine PIoW_ite ?_ ?_) | (refine PIoW_some ?_) | (exact PIoW_none) | (refine PIoW_cv (cQoW.c54 hc _ _ _ _ _ ?_) (fun _ _ => ?_)) | (refine pioW_oj_X1_explore_146 hP hc hk76 ?_) | (refine hk76 _ _ _ _ _ _ _ _ _ ?_)))
theorem pioW_ol_X1_explore_76  (hP : iKptW P) (hc : cQoW P call)  : ∀ (t : Nat) (x0 : Option Nat) (x1 : Int32) (x2 : Option Nat) (x3 : Int32) (x4 : Int32) (x5 : Int32) (x6 : Int32) (x7 : Int32) (σ : oSt), P σ → PIo P (ol_X1_explore_76 n call κ  t x0 x1 x2 x3 x4 x5 x6 x7 σ) := by
  intro t
  induction t with
  | zero => intros; exact PIoW_none
  | succ t ih =>
    intro x0 x1 x2 x3 x4 x5 x6 x7 σ h
    rw [ol_X1_explore_76]
    repeat' (with_reducible (first | assumption | (refine PIoW_gd ?_) | (refine PIoW_pf hP ?_ (by decide) (by with_unfolding_all rfl) (fun _ _ => ?_)) | (refine PIoW_si hP ?_ (fun _ _ => ?_)) | (refine PIoW_sj hP ?_ (fun _ _ => ?_)) | (refine PIoW_sr hP ?_ (fun _ _ => ?_)) | (refine PIoW_cy hP ?_ (fun _ _ => ?_)) | (refine PIoW_bn (fun _ => ?_)) | (refine PIoW_na hP ?_ (fun _ _ => ?_)) | (refine PIoW_no hP ?_ (fun _ _ => ?_)) | (refine PIoW_ite ?_ ?_) | (refine PIoW_some ?_) | (exact PIoW_none) | (refine PIoW_cv (cQoW.c56 hc _ _ _ _ ?_) (fun _ _ => ?_)) | (refine PIoW_cv (cQoW.c61 hc _ _ ?_) (fun _ _ => ?_)) | (refine PIoW_in (cQoW.c60 hc _ _ ?_) (fun _ _ _ => ?_)) | (refine PIoW_rn (cQoW.c234 hc _ _ _ ?_) (fun _ _ _ => ?_)) | (refine pioW_oj_X1_explore_122 hP hc ih ?_) | (refine pioW_oj_X1_explore_146 hP hc ih ?_)))
theorem pioW_oj_X1_explore_71  {x0 : Option Nat} {x1 : Int32} {x2 : Option Nat} {x3 : Int32} {x4 : Int32} {x5 : Int32} {t0 : Int32} {σ : oSt} (hP : iKptW P) (hc : cQoW P call)  (h : P σ) : PIo P (oj_X1_explore_71 n call κ  x0 x1 x2 x3 x4 x5 t0 σ) := by
  unfold oj_X1_explore_71
  repeat' (with_reducible (first | assumption | (refine PIoW_gd ?_) | (refine PIoW_pf hP ?_ (by decide) (by with_unfolding_all rfl) (fun _ _ => ?_)) | (refine PIoW_si hP ?_ (fun _ _ => ?_)) | (refine PIoW_sj hP ?_ (fun _ _ => ?_)) | (refine PIoW_sr hP ?_ (fun _ _ => ?_)) | (refine PIoW_cy hP ?_ (fun _ _ => ?_)) | (refine PIoW_bn (fun _ => ?_)) | (refine PIoW_na hP ?_ (fun _ _ => ?_)) | (refine PIoW_no hP ?_ (fun _ _ => ?_)) | (refine PIoW_ite ?_ ?_) | (refine PIoW_some ?_) | (exact PIoW_none) | (refine pioW_ol_X1_explore_76 hP hc  _ _ _ _ _ _ _ _ _ _ ?_)))
theorem pioW_ob_X1_explore  {x0 : Option Nat} {x1 : Int32} {σ : oSt} (hP : iKptW P) (hc : cQoW P call)  (h : P σ) : PIo P (ob_X1_explore n call κ  x0 x1 σ) := by
  unfold ob_X1_explore
  repeat' (with_reducible (first | assumption | (refine PIoW_gd ?_) | (refine PIoW_pf hP ?_ (by decide) (by with_unfolding_all rfl) (fun _ _ => ?_)) | (refine PIoW_si hP ?_ (fun _ _ => ?_)) | (refine PIoW_sj hP ?_ (fun _ _ => ?_)) | (refine PIoW_sr hP ?_ (fun _ _ => ?_)) | (refine PIoW_cy hP ?_ (fun _ _ => ?_)) | (refine PIoW_bn (fun _ => ?_)) | (refine PIoW_na hP ?_ (fun _ _ => ?_)) | (refine PIoW_no hP ?_ (fun _ _ => ?_)) | (refine PIoW_ite ?_ ?_) | (refine PIoW_some ?_) | (exact PIoW_none) | (refine PIoW_cv (cQoW.c59 hc _ _ ?_) (fun _ _ => ?_)) | (refine PIoW_in (cQoW.c236 hc _ _ ?_) (fun _ _ _ => ?_)) | (refine pioW_oj_X1_explore_71 hP hc  ?_)))
theorem pioW_oj_X1_isSure_18  {x0 : Option Nat} {x1 : Option Nat} {x2 : Option Nat} {t0 : Option Nat} {t1 : Int32} {σ : oSt} (hP : iKptW P) (hc : cQoW P call)  (h : P σ) : PIo P (oj_X1_isSure_18 n call κ  x0 x1 x2 t0 t1 σ) := by
  unfold oj_X1_isSure_18
  repeat' (with_reducible (first | assumption | (refine PIoW_gd ?_) | (refine PIoW_pf hP ?_ (by decide) (by with_unfolding_all rfl) (fun _ _ => ?_)) | (refine PIoW_si hP ?_ (fun _ _ => ?_)) | (refine PIoW_sj hP ?_ (fun _ _ => ?_)) | (refine PIoW_sr hP ?_ (fun _ _ => ?_)) | (refine PIoW_cy hP ?_ (fun _ _ => ?_)) | (refine PIoW_bn (fun _ => ?_)) | (refine PIoW_na hP ?_ (fun _ _ => ?_)) | (refine PIoW_no hP ?_ (fun _ _ => ?_)) | (refine PIoW_ite ?_ ?_) | (refine PIoW_some ?_) | (exact PIoW_none) | (refine PIoW_cv (cQoW.c56 hc _ _ _ _ ?_) (fun _ _ => ?_)) | (refine PIoW_cv (cQoW.c57 hc _ _ _ _ ?_) (fun _ _ => ?_)) | (refine PIoW_cv (cQoW.c58 hc _ _ ?_) (fun _ _ => ?_)) | (refine PIoW_cv (cQoW.c63 hc _ _ _ ?_) (fun _ _ => ?_))))
theorem pioW_ob_X1_isSure  {x0 : Option Nat} {x1 : Option Nat} {x2 : Option Nat} {σ : oSt} (hP : iKptW P) (hc : cQoW P call)  (h : P σ) : PIo P (ob_X1_isSure n call κ  x0 x1 x2 σ) := by
  unfold ob_X1_isSure
  repeat' (with_reducible (first | assumption | (refine PIoW_gd ?_) | (refine PIoW_pf hP ?_ (by decide) (by with_unfolding_all rfl) (fun _ _ => ?_)) | (refine PIoW_si hP ?_ (fun _ _ => ?_)) | (refine PIoW_sj hP ?_ (fun _ _ => ?_)) | (refine PIoW_sr hP ?_ (fun _ _ => ?_)) | (refine PIoW_cy hP ?_ (fun _ _ => ?_)) | (refine PIoW_bn (fun _ => ?_)) | (refine PIoW_na hP ?_ (fun _ _ => ?_)) | (refine PIoW_no hP ?_ (fun _ _ => ?_)) | (refine PIoW_ite ?_ ?_) | (refine PIoW_some ?_) | (exact PIoW_none) | (refine PIoW_in (cQoW.c39 hc _ _ ?_) (fun _ _ _ => ?_)) | (refine pioW_oj_X1_isSure_18 hP hc  ?_)))
theorem pioW_oj_X0_findDoubt_69 {k2 : Option Nat → Int32 → oSt → oRs} {x0 : Option Nat} {x1 : Int32} {σ : oSt} (hP : iKptW P) (hc : cQoW P call) (hk2 : ∀ (a0 : Option Nat) (a1 : Int32), ∀ σ, P σ → PIo P (k2 a0 a1 σ)) (h : P σ) : PIo P (oj_X0_findDoubt_69 n call κ k2 x0 x1 σ) := by
  unfold oj_X0_findDoubt_69
  repeat' (with_reducible (first | assumption | (refine PIoW_gd ?_) | (refine PIoW_pf hP ?_ (by decide) (by with_unfolding_all rfl) (fun _ _ => ?_)) | (refine PIoW_si hP ?_ (fun _ _ => ?_)) | (refine PIoW_sj hP ?_ (fun _ _ => ?_)) | (refine PIoW_sr hP ?_ (fun _ _ => ?_)) | (refine PIoW_cy hP ?_ (fun _ _ => ?_)) | (refine PIoW_bn (fun _ => ?_)) | (refine PIoW_na hP ?_ (fun _ _ => ?_)) | (refine PIoW_no hP ?_ (fun _ _ => ?_)) | (refine PIoW_ite ?_ ?_) | (refine PIoW_some ?_) | (exact PIoW_none) | (refine hk2 _ _ _ ?_)))
theorem pioW_oj_X0_findDoubt_43 {k2 : Option Nat → Int32 → oSt → oRs} {x0 : Option Nat} {x1 : Int32} {x2 : Option Nat} {σ : oSt} (hP : iKptW P) (hc : cQoW P call) (hk2 : ∀ (a0 : Option Nat) (a1 : Int32), ∀ σ, P σ → PIo P (k2 a0 a1 σ)) (h : P σ) : PIo P (oj_X0_findDoubt_43 n call κ k2 x0 x1 x2 σ) := by
  unfold oj_X0_findDoubt_43
  repeat' (with_reducible (first | assumption | (refine PIoW_gd ?_) | (refine PIoW_pf hP ?_ (by decide) (by with_unfolding_all rfl) (fun _ _ => ?_)) | (refine PIoW_si hP ?_ (fun _ _ => ?_)) | (refine PIoW_sj hP ?_ (fun _ _ => ?_)) | (refine PIoW_sr hP ?_ (fun _ _ => ?_)) | (refine PIoW_cy hP ?_ (fun _ _ => ?_)) | (refine PIoW_bn (fun _ => ?_)) | (refine PIoW_na hP ?_ (fun _ _ => ?_)) | (refine PIoW_no hP ?_ (fun _ _ => ?_)) | (refine PIoW_ite ?_ ?_) | (refine PIoW_some ?_) | (exact PIoW_none) | (refine PIoW_in (cQoW.c64 hc _ _ _ _ ?_) (fun _ _ _ => ?_)) | (refine pioW_oj_X0_findDoubt_69 hP hc hk2 ?_) | (refine hk2 _ _ _ ?_)))
theorem pioW_ol_X0_findDoubt_2  (hP : iKptW P) (hc : cQoW P call)  : ∀ (t : Nat) (x0 : Option Nat) (x1 : Int32) (σ : oSt), P σ → PIo P (ol_X0_findDoubt_2 n call κ  t x0 x1 σ) := by
  intro t
  induction t with
  | zero => intros; exact PIoW_none
  | succ t ih =>
    intro x0 x1 σ h
    rw [ol_X0_findDoubt_2]
    repeat' (with_reducible (first | assumption | (refine PIoW_gd ?_) | (refine PIoW_pf hP ?_ (by decide) (by with_unfolding_all rfl) (fun _ _ => ?_)) | (refine PIoW_si hP ?_ (fun _ _ => ?_)) | (refine PIoW_sj hP ?_ (fun _ _ => ?_)) | (refine PIoW_sr hP ?_ (fun _ _ => ?_)) | (refine PIoW_cy hP ?_ (fun _ _ => ?_)) | (refine PIoW_bn (fun _ => ?_)) | (refine PIoW_na hP ?_ (fun _ _ => ?_)) | (refine PIoW_no hP ?_ (fun _ _ => ?_)) | (refine PIoW_ite ?_ ?_) | (refine PIoW_some ?_) | (exact PIoW_none) | (refine PIoW_in (cQoW.c236 hc _ _ ?_) (fun _ _ _ => ?_)) | (refine PIoW_rn (cQoW.c234 hc _ _ _ ?_) (fun _ _ _ => ?_)) | (refine pioW_oj_X0_findDoubt_43 hP hc ih ?_) | (refine pioW_oj_X0_findDoubt_69 hP hc ih ?_)))
theorem pioW_ob_X0_findDoubt  {x0 : Option Nat} {σ : oSt} (hP : iKptW P) (hc : cQoW P call)  (h : P σ) : PIo P (ob_X0_findDoubt n call κ  x0 σ) := by
  unfold ob_X0_findDoubt
  repeat' (with_reducible (first | assumption | (refine PIoW_gd ?_) | (refine PIoW_pf hP ?_ (by decide) (by with_unfolding_all rfl) (fun _ _ => ?_)) | (refine PIoW_si hP ?_ (fun _ _ => ?_)) | (refine PIoW_sj hP ?_ (fun _ _ => ?_)) | (refine PIoW_sr hP ?_ (fun _ _ => ?_)) | (refine PIoW_cy hP ?_ (fun _ _ => ?_)) | (refine PIoW_bn (fun _ => ?_)) | (refine PIoW_na hP ?_ (fun _ _ => ?_)) | (refine PIoW_no hP ?_ (fun _ _ => ?_)) | (refine PIoW_ite ?_ ?_) | (refine PIoW_some ?_) | (exact PIoW_none) | (refine pioW_ol_X0_findDoubt_2 hP hc  _ _ _ _ ?_)))
theorem pioW_oj_X0_lastChange_69 {k30 : Int32 → Option Nat → oSt → oRs} {x2 : Int32} {x3 : Option Nat} {σ : oSt} (hP : iKptW P) (hc : cQoW P call) (hk30 : ∀ (a0 : Int32) (a1 : Option Nat), ∀ σ, P σ → PIo P (k30 a0 a1 σ)) (h : P σ) : PIo P (oj_X0_lastChange_69 n call κ k30 x2 x3 σ) := by
  unfold oj_X0_lastChange_69
  repeat' (with_reducible (first | assumption | (refine PIoW_gd ?_) | (refine PIoW_pf hP ?_ (by decide) (by with_unfolding_all rfl) (fun _ _ => ?_)) | (refine PIoW_si hP ?_ (fun _ _ => ?_)) | (refine PIoW_sj hP ?_ (fun _ _ => ?_)) | (refine PIoW_sr hP ?_ (fun _ _ => ?_)) | (refine PIoW_cy hP ?_ (fun _ _ => ?_)) | (refine PIoW_bn (fun _ => ?_)) | (refine PIoW_na hP ?_ (fun _ _ => ?_)) | (refine PIoW_no hP ?_ (fun _ _ => ?_)) | (refine PIoW_ite ?_ ?_) | (refine PIoW_some ?_) | (exact PIoW_none) | (refine hk30 _ _ _ ?_)))
theorem pioW_ol_X0_lastChange_30  (hP : iKptW P) (hc : cQoW P call)  : ∀ (t : Nat) (x0 : Int32) (x1 : Option Nat) (σ : oSt), P σ → PIo P (ol_X0_lastChange_30 n call κ  t x0 x1 σ) := by
  intro t
  induction t with
  | zero => intros; exact PIoW_none
  | succ t ih =>
    intro x0 x1 σ h
    rw [ol_X0_lastChange_30]
    repeat' (with_reducible (first | assumption | (refine PIoW_gd ?_) | (refine PIoW_pf hP ?_ (by decide) (by with_unfolding_all rfl) (fun _ _ => ?_)) | (refine PIoW_si hP ?_ (fun _ _ => ?_)) | (refine PIoW_sj hP ?_ (fun _ _ => ?_)) | (refine PIoW_sr hP ?_ (fun _ _ => ?_)) | (refine PIoW_cy hP ?_ (fun _ _ => ?_)) | (refine PIoW_bn (fun _ => ?_)) | (refine PIoW_na hP ?_ (fun _ _ => ?_)) | (refine PIoW_no hP ?_ (fun _ _ => ?_)) | (refine PIoW_ite ?_ ?_) | (refine PIoW_some ?_) | (exact PIoW_none) | (refine pioW_oj_X0_lastChange_69 hP hc ih ?_)))
theorem pioW_ob_X0_lastChange  {x0 : Option Nat} {x1 : Int32} {σ : oSt} (hP : iKptW P) (hc : cQoW P call)  (h : P σ) : PIo P (ob_X0_lastChange n call κ  x0 x1 σ) := by
  unfold ob_X0_lastChange
  repeat' (with_reducible (first | assumption | (refine PIoW_gd ?_) | (refine PIoW_pf hP ?_ (by decide) (by with_unfolding_all rfl) (fun _ _ => ?_)) | (refine PIoW_si hP ?_ (fun _ _ => ?_)) | (refine PIoW_sj hP ?_ (fun _ _ => ?_)) | (refine PIoW_sr hP ?_ (fun _ _ => ?_)) | (refine PIoW_cy hP ?_ (fun _ _ => ?_)) | (refine PIoW_bn (fun _ => ?_)) | (refine PIoW_na hP ?_ (fun _ _ => ?_)) | (refine PIoW_no hP ?_ (fun _ _ => ?_)) | (refine PIoW_ite ?_ ?_) | (refine PIoW_some ?_) | (exact PIoW_none) | (refine PIoW_rn (cQoW.c234 hc _ _ _ ?_) (fun _ _ _ => ?_)) | (refine pioW_ol_X0_lastChange_30 hP hc  _ _ _ _ ?_)))
theorem pioW_ob_X1_weaken  {x0 : Option Nat} {x1 : Option Nat} {x2 : Option Nat} {x3 : Option Nat} {σ : oSt} (hP : iKptW P) (hc : cQoW P call)  (h : P σ) : PIo P (ob_X1_weaken n call κ  x0 x1 x2 x3 σ) := by
  unfold ob_X1_weaken
  repeat' (with_reducible (first | assumption | (refine PIoW_gd ?_) | (refine PIoW_pf hP ?_ (by decide) (by with_unfolding_all rfl) (fun _ _ => ?_)) | (refine PIoW_si hP ?_ (fun _ _ => ?_)) | (refine PIoW_sj hP ?_ (fun _ _ => ?_)) | (refine PIoW_sr hP ?_ (fun _ _ => ?_)) | (refine PIoW_cy hP ?_ (fun _ _ => ?_)) | (refine PIoW_bn (fun _ => ?_)) | (refine PIoW_na hP ?_ (fun _ _ => ?_)) | (refine PIoW_no hP ?_ (fun _ _ => ?_)) | (refine PIoW_ite ?_ ?_) | (refine PIoW_some ?_) | (exact PIoW_none) | (refine PIoW_cv (cQoW.c57 hc _ _ _ _ ?_) (fun _ _ => ?_)) | (refine PIoW_cv (cQoW.c58 hc _ _ ?_) (fun _ _ => ?_)) | (refine PIoW_cv (cQoW.c63 hc _ _ _ ?_) (fun _ _ => ?_))))
theorem pioW_oj_X0_weakenAll_140 {k17 : Option Nat → Option Nat → Int32 → Int32 → Int32 → oSt → oRs} {k33 : Option Nat → Option Nat → Int32 → Int32 → Int32 → Int32 → oSt → oRs} {x0 : Option Nat} {x1 : Option Nat} {x2 : Int32} {x3 : Int32} {x4 : Int32} {x5 : Int32} {σ : oSt} (hP : iKptW P) (hc : cQoW P call) (hk17 : ∀ (a0 : Option Nat) (a1 : Option Nat) (a2 : Int32) (a3 : Int32) (a4 : Int32), ∀ σ, P σ → PIo P (k17 a0 a1 a2 a3 a4 σ)) (hk33 : ∀ (a0 : Option Nat) (a1 : Option Nat) (a2 : Int32) (a3 : Int32) (a4 : Int32) (a5 : Int32), ∀ σ, P σ → PIo P (k33 a0 a1 a2 a3 a4 a5 σ)) (h : P σ) : PIo P (oj_X0_weakenAll_140 n call κ k17 k33 x0 x1 x2 x3 x4 x5 σ) := by
  unfold oj_X0_weakenAll_140
  repeat' (with_reducible (first | assumption | (refine PIoW_gd ?_) | (refine PIoW_pf hP ?_ (by decide) (by with_unfolding_all rfl) (fun _ _ => ?_)) | (refine PIoW_si hP ?_ (fun _ _ => ?_)) | (refine PIoW_sj hP ?_ (fun _ _ => ?_)) | (refine PIoW_sr hP ?_ (fun _ _ => ?_)) | (refine PIoW_cy hP ?_ (fun _ _ => ?_)) | (refine PIoW_bn (fun _ => ?_)) | (refine PIoW_na hP ?_ (fun _ _ => ?_)) | (refine PIoW_no hP ?_ (fun _ _ => ?_)) | (refine PIoW_ite ?_ ?_) | (refine PIoW_some ?_) | (exact PIoW_none) | (refine hk17 _ _ _ _ _ _ ?_) | (refine hk33 _ _ _ _ _ _ _ ?_)))
theorem pioW_ol_X0_weakenAll_33 {k17 : Option Nat → Option Nat → Int32 → Int32 → Int32 → oSt → oRs} (hP : iKptW P) (hc : cQoW P call) (hk17 : ∀ (a0 : Option Nat) (a1 : Option Nat) (a2 : Int32) (a3 : Int32) (a4 : Int32), ∀ σ, P σ → PIo P (k17 a0 a1 a2 a3 a4 σ)) : ∀ (t : Nat) (x0 : Option Nat) (x1 : Option Nat) (x2 : Int32) (x3 : Int32) (x4 : Int32) (x5 : Int32) (σ : oSt), P σ → PIo P (ol_X0_weakenAll_33 n call κ k17 t x0 x1 x2 x3 x4 x5 σ) := by
  intro t
  induction t with
  | zero => intros; exact PIoW_none
  | succ t ih =>
    intro x0 x1 x2 x3 x4 x5 σ h
    rw [ol_X0_weakenAll_33]
    repeat' (with_reducible (first | assumption | (refine PIoW_gd ?_) | (refine PIoW_pf hP ?_ (by decide) (by with_unfolding_all rfl) (fun _ _ => ?_)) | (refine PIoW_si hP ?_ (fun _ _ => ?_)) | (refine PIoW_sj hP ?_ (fun _ _ => ?_)) | (refine PIoW_sr hP ?_ (fun _ _ => ?_)) | (refine PIoW_cy hP ?_ (fun _ _ => ?_)) | (refine PIoW_bn (fun _ => ?_)) | (refine PIoW_na hP ?_ (fun _ _ => ?_)) | (refine PIoW_no hP ?_ (fun _ _ => ?_)) | (refine PIoW_ite ?_ ?_) | (refine PIoW_some ?_) | (exact PIoW_none) | (refine PIoW_in (cQoW.c66 hc _ _ _ ?_) (fun _ _ _ => ?_)) | (refine PIoW_in (cQoW.c67 hc _ _ _ _ _ ?_) (fun _ _ _ => ?_)) | (refine PIoW_rn (cQoW.c234 hc _ _ _ ?_) (fun _ _ _ => ?_)) | (refine pioW_oj_X0_weakenAll_140 hP hc hk17 ih ?_) | (refine hk17 _ _ _ _ _ _ ?_)))
theorem pioW_ol_X0_weakenAll_17  (hP : iKptW P) (hc : cQoW P call)  : ∀ (t : Nat) (x0 : Option Nat) (x1 : Option Nat) (x2 : Int32) (x3 : Int32) (x4 : Int32) (σ : oSt), P σ → PIo P (ol_X0_weakenAll_17 n call κ  t x0 x1 x2 x3 x4 σ) := by
  intro t
  induction t with
  | zero => intros; exact PIoW_none
  | succ t ih =>
    intro x0 x1 x2 x3 x4 σ h
    rw [ol_X0_weakenAll_17]
    repeat' (with_reducible (first | assumption | (refine PIoW_gd ?_) | (refine PIoW_pf hP ?_ (by decide) (by with_unfolding_all rfl) (fun _ _ => ?_)) | (refine PIoW_si hP ?_ (fun _ _ => ?_)) | (refine PIoW_sj hP ?_ (fun _ _ => ?_)) | (refine PIoW_sr hP ?_ (fun _ _ => ?_)) | (refine PIoW_cy hP ?_ (fun _ _ => ?_)) | (refine PIoW_bn (fun _ => ?_)) | (refine PIoW_na hP ?_ (fun _ _ => ?_)) | (refine PIoW_no hP ?_ (fun _ _ => ?_)) | (refine PIoW_ite ?_ ?_) | (refine PIoW_some ?_) | (exact PIoW_none) | (refine pioW_ol_X0_weakenAll_33 hP hc ih _ _ _ _ _ _ _ _ ?_)))
theorem pioW_ob_X0_weakenAll  {x0 : Option Nat} {σ : oSt} (hP : iKptW P) (hc : cQoW P call)  (h : P σ) : PIo P (ob_X0_weakenAll n call κ  x0 σ) := by
  unfold ob_X0_weakenAll
  repeat' (with_reducible (first | assumption | (refine PIoW_gd ?_) | (refine PIoW_pf hP ?_ (by decide) (by with_unfolding_all rfl) (fun _ _ => ?_)) | (refine PIoW_si hP ?_ (fun _ _ => ?_)) | (refine PIoW_sj hP ?_ (fun _ _ => ?_)) | (refine PIoW_sr hP ?_ (fun _ _ => ?_)) | (refine PIoW_cy hP ?_ (fun _ _ => ?_)) | (refine PIoW_bn (fun _ => ?_)) | (refine PIoW_na hP ?_ (fun _ _ => ?_)) | (refine PIoW_no hP ?_ (fun _ _ => ?_)) | (refine PIoW_ite ?_ ?_) | (refine PIoW_some ?_) | (exact PIoW_none) | (refine PIoW_in (cQoW.c236 hc _ _ ?_) (fun _ _ _ => ?_)) | (refine pioW_ol_X0_weakenAll_17 hP hc  _ _ _ _ _ _ _ ?_)))
theorem pioW_oj_X12_accepted_60  {x0 : Option Nat} {σ : oSt} (hP : iKptW P) (hc : cQoW P call)  (h : P σ) : PIo P (oj_X12_accepted_60 n call κ  x0 σ) := by
  unfold oj_X12_accepted_60
  repeat' (with_reducible (first | assumption | (refine PIoW_gd ?_) | (refine PIoW_pf hP ?_ (by decide) (by with_unfolding_all rfl) (fun _ _ => ?_)) | (refine PIoW_si hP ?_ (fun _ _ => ?_)) | (refine PIoW_sj hP ?_ (fun _ _ => ?_)) | (refine PIoW_sr hP ?_ (fun _ _ => ?_)) | (refine PIoW_cy hP ?_ (fun _ _ => ?_)) | (refine PIoW_bn (fun _ => ?_)) | (refine PIoW_na hP ?_ (fun _ _ => ?_)) | (refine PIoW_no hP ?_ (fun _ _ => ?_)) | (refine PIoW_ite ?_ ?_) | (refine PIoW_some ?_) | (exact PIoW_none)))
theorem pioW_ob_X12_accepted  {x0 : Option Nat} {σ : oSt} (hP : iKptW P) (hc : cQoW P call)  (h : P σ) : PIo P (ob_X12_accepted n call κ  x0 σ) := by
  unfold ob_X12_accepted
  repeat' (with_reducible (first | assumption | (refine PIoW_gd ?_) | (refine PIoW_pf hP ?_ (by decide) (by with_unfolding_all rfl) (fun _ _ => ?_)) | (refine PIoW_si hP ?_ (fun _ _ => ?_)) | (refine PIoW_sj hP ?_ (fun _ _ => ?_)) | (refine PIoW_sr hP ?_ (fun _ _ => ?_)) | (refine PIoW_cy hP ?_ (fun _ _ => ?_)) | (refine PIoW_bn (fun _ => ?_)) | (refine PIoW_na hP ?_ (fun _ _ => ?_)) | (refine PIoW_no hP ?_ (fun _ _ => ?_)) | (refine PIoW_ite ?_ ?_) | (refine PIoW_some ?_) | (exact PIoW_none) | (refine PIoW_cv (cQoW.c0 hc _ _ _ _ _ ?_) (fun _ _ => ?_)) | (refine PIoW_cv (cQoW.c37 hc _ _ ?_) (fun _ _ => ?_)) | (refine PIoW_cv (cQoW.c65 hc _ _ ?_) (fun _ _ => ?_)) | (refine PIoW_cv (cQoW.c68 hc _ _ ?_) (fun _ _ => ?_)) | (refine pioW_oj_X12_accepted_60 hP hc  ?_)))
theorem pioW_ob_J15_checkIndex_7cf53  {x0 : Int32} {x1 : Int32} {σ : oSt} (hP : iKptW P) (hc : cQoW P call)  (h : P σ) : PIo P (ob_J15_checkIndex_7cf53 n call κ  x0 x1 σ) := by
  unfold ob_J15_checkIndex_7cf53
  repeat' (with_reducible (first | assumption | (refine PIoW_gd ?_) | (refine PIoW_pf hP ?_ (by decide) (by with_unfolding_all rfl) (fun _ _ => ?_)) | (refine PIoW_si hP ?_ (fun _ _ => ?_)) | (refine PIoW_sj hP ?_ (fun _ _ => ?_)) | (refine PIoW_sr hP ?_ (fun _ _ => ?_)) | (refine PIoW_cy hP ?_ (fun _ _ => ?_)) | (refine PIoW_bn (fun _ => ?_)) | (refine PIoW_na hP ?_ (fun _ _ => ?_)) | (refine PIoW_no hP ?_ (fun _ _ => ?_)) | (refine PIoW_ite ?_ ?_) | (refine PIoW_some ?_) | (exact PIoW_none) | (refine PIoW_in (cQoW.c206 hc _ _ _ _ ?_) (fun _ _ _ => ?_))))
theorem pioW_oj_J3_checkIndex_8e157_9  {x0 : Int32} {x1 : Int32} {x2 : Option Nat} {σ : oSt} (hP : iKptW P) (hc : cQoW P call)  (h : P σ) : PIo P (oj_J3_checkIndex_8e157_9 n call κ  x0 x1 x2 σ) := by
  unfold oj_J3_checkIndex_8e157_9
  repeat' (with_reducible (first | assumption | (refine PIoW_gd ?_) | (refine PIoW_pf hP ?_ (by decide) (by with_unfolding_all rfl) (fun _ _ => ?_)) | (refine PIoW_si hP ?_ (fun _ _ => ?_)) | (refine PIoW_sj hP ?_ (fun _ _ => ?_)) | (refine PIoW_sr hP ?_ (fun _ _ => ?_)) | (refine PIoW_cy hP ?_ (fun _ _ => ?_)) | (refine PIoW_bn (fun _ => ?_)) | (refine PIoW_na hP ?_ (fun _ _ => ?_)) | (refine PIoW_no hP ?_ (fun _ _ => ?_)) | (refine PIoW_ite ?_ ?_) | (refine PIoW_some ?_) | (exact PIoW_none)))
theorem pioW_ob_J3_checkIndex_8e157  {x0 : Int32} {x1 : Int32} {x2 : Option Nat} {σ : oSt} (hP : iKptW P) (hc : cQoW P call)  (h : P σ) : PIo P (ob_J3_checkIndex_8e157 n call κ  x0 x1 x2 σ) := by
  unfold ob_J3_checkIndex_8e157
  repeat' (with_reducible (first | assumption | (refine PIoW_gd ?_) | (refine PIoW_pf hP ?_ (by decide) (by with_unfolding_all rfl) (fun _ _ => ?_)) | (refine PIoW_si hP ?_ (fun _ _ => ?_)) | (refine PIoW_sj hP ?_ (fun _ _ => ?_)) | (refine PIoW_sr hP ?_ (fun _ _ => ?_)) | (refine PIoW_cy hP ?_ (fun _ _ => ?_)) | (refine PIoW_bn (fun _ => ?_)) | (refine PIoW_na hP ?_ (fun _ _ => ?_)) | (refine PIoW_no hP ?_ (fun _ _ => ?_)) | (refine PIoW_ite ?_ ?_) | (refine PIoW_some ?_) | (exact PIoW_none) | (refine pioW_oj_J3_checkIndex_8e157_9 hP hc  ?_)))
theorem pioW_ob_Jx4a65c_init_da8c8  {x0 : Option Nat} {σ : oSt} (hP : iKptW P) (hc : cQoW P call)  (h : P σ) : PIo P (ob_Jx4a65c_init_da8c8 n call κ  x0 σ) := by
  unfold ob_Jx4a65c_init_da8c8
  repeat' (with_reducible (first | assumption | (refine PIoW_gd ?_) | (refine PIoW_pf hP ?_ (by decide) (by with_unfolding_all rfl) (fun _ _ => ?_)) | (refine PIoW_si hP ?_ (fun _ _ => ?_)) | (refine PIoW_sj hP ?_ (fun _ _ => ?_)) | (refine PIoW_sr hP ?_ (fun _ _ => ?_)) | (refine PIoW_cy hP ?_ (fun _ _ => ?_)) | (refine PIoW_bn (fun _ => ?_)) | (refine PIoW_na hP ?_ (fun _ _ => ?_)) | (refine PIoW_no hP ?_ (fun _ _ => ?_)) | (refine PIoW_ite ?_ ?_) | (refine PIoW_some ?_) | (exact PIoW_none) | (refine PIoW_cv (cQoW.c225 hc _ _ ?_) (fun _ _ => ?_))))
theorem pioW_ob_Jxc12de_init_da8c8  {x0 : Option Nat} {σ : oSt} (hP : iKptW P) (hc : cQoW P call)  (h : P σ) : PIo P (ob_Jxc12de_init_da8c8 n call κ  x0 σ) := by
  unfold ob_Jxc12de_init_da8c8
  repeat' (with_reducible (first | assumption | (refine PIoW_gd ?_) | (refine PIoW_pf hP ?_ (by decide) (by with_unfolding_all rfl) (fun _ _ => ?_)) | (refine PIoW_si hP ?_ (fun _ _ => ?_)) | (refine PIoW_sj hP ?_ (fun _ _ => ?_)) | (refine PIoW_sr hP ?_ (fun _ _ => ?_)) | (refine PIoW_cy hP ?_ (fun _ _ => ?_)) | (refine PIoW_bn (fun _ => ?_)) | (refine PIoW_na hP ?_ (fun _ _ => ?_)) | (refine PIoW_no hP ?_ (fun _ _ => ?_)) | (refine PIoW_ite ?_ ?_) | (refine PIoW_some ?_) | (exact PIoW_none) | (refine PIoW_cv (cQoW.c226 hc _ _ ?_) (fun _ _ => ?_))))
theorem pioW_ob_Jxa1e45_init_da8c8  {x0 : Option Nat} {σ : oSt} (hP : iKptW P) (hc : cQoW P call)  (h : P σ) : PIo P (ob_Jxa1e45_init_da8c8 n call κ  x0 σ) := by
  unfold ob_Jxa1e45_init_da8c8
  repeat' (with_reducible (first | assumption | (refine PIoW_gd ?_) | (refine PIoW_pf hP ?_ (by decide) (by with_unfolding_all rfl) (fun _ _ => ?_)) | (refine PIoW_si hP ?_ (fun _ _ => ?_)) | (refine PIoW_sj hP ?_ (fun _ _ => ?_)) | (refine PIoW_sr hP ?_ (fun _ _ => ?_)) | (refine PIoW_cy hP ?_ (fun _ _ => ?_)) | (refine PIoW_bn (fun _ => ?_)) | (refine PIoW_na hP ?_ (fun _ _ => ?_)) | (refine PIoW_no hP ?_ (fun _ _ => ?_)) | (refine PIoW_ite ?_ ?_) | (refine PIoW_some ?_) | (exact PIoW_none)))
theorem pioW_ob_Jx4a65c_add_9ea2d  {x0 : Option Nat} {x1 : Option Nat} {σ : oSt} (hP : iKptW P) (hc : cQoW P call)  (h : P σ) : PIo P (ob_Jx4a65c_add_9ea2d n call κ  x0 x1 σ) := by
  unfold ob_Jx4a65c_add_9ea2d
  repeat' (with_reducible (first | assumption | (refine PIoW_gd ?_) | (refine PIoW_pf hP ?_ (by decide) (by with_unfolding_all rfl) (fun _ _ => ?_)) | (refine PIoW_si hP ?_ (fun _ _ => ?_)) | (refine PIoW_sj hP ?_ (fun _ _ => ?_)) | (refine PIoW_sr hP ?_ (fun _ _ => ?_)) | (refine PIoW_cy hP ?_ (fun _ _ => ?_)) | (refine PIoW_bn (fun _ => ?_)) | (refine PIoW_na hP ?_ (fun _ _ => ?_)) | (refine PIoW_no hP ?_ (fun _ _ => ?_)) | (refine PIoW_ite ?_ ?_) | (refine PIoW_some ?_) | (exact PIoW_none) | (refine PIoW_cv (cQoW.c228 hc _ _ _ _ _ ?_) (fun _ _ => ?_))))
theorem pioW_oj_Jx4a65c_add_72be8_11  {x0 : Option Nat} {x1 : Option Nat} {x2 : Option Nat} {x3 : Int32} {σ : oSt} (hP : iKptW P) (hc : cQoW P call)  (h : P σ) : PIo P (oj_Jx4a65c_add_72be8_11 n call κ  x0 x1 x2 x3 σ) := by
  unfold oj_Jx4a65c_add_72be8_11
  repeat' (with_reducible (first | assumption | (refine PIoW_gd ?_) | (refine PIoW_pf hP ?_ (by decide) (by with_unfolding_all rfl) (fun _ _ => ?_)) | (refine PIoW_si hP ?_ (fun _ _ => ?_)) | (refine PIoW_sj hP ?_ (fun _ _ => ?_)) | (refine PIoW_sr hP ?_ (fun _ _ => ?_)) | (refine PIoW_cy hP ?_ (fun _ _ => ?_)) | (refine PIoW_bn (fun _ => ?_)) | (refine PIoW_na hP ?_ (fun _ _ => ?_)) | (refine PIoW_no hP ?_ (fun _ _ => ?_)) | (refine PIoW_ite ?_ ?_) | (refine PIoW_some ?_) | (exact PIoW_none)))
theorem pioW_ob_Jx4a65c_add_72be8  {x0 : Option Nat} {x1 : Option Nat} {x2 : Option Nat} {x3 : Int32} {σ : oSt} (hP : iKptW P) (hc : cQoW P call)  (h : P σ) : PIo P (ob_Jx4a65c_add_72be8 n call κ  x0 x1 x2 x3 σ) := by
  unfold ob_Jx4a65c_add_72be8
  repeat' (with_reducible (first | assumption | (refine PIoW_gd ?_) | (refine PIoW_pf hP ?_ (by decide) (by with_unfolding_all rfl) (fun _ _ => ?_)) | (refine PIoW_si hP ?_ (fun _ _ => ?_)) | (refine PIoW_sj hP ?_ (fun _ _ => ?_)) | (refine PIoW_sr hP ?_ (fun _ _ => ?_)) | (refine PIoW_cy hP ?_ (fun _ _ => ?_)) | (refine PIoW_bn (fun _ => ?_)) | (refine PIoW_na hP ?_ (fun _ _ => ?_)) | (refine PIoW_no hP ?_ (fun _ _ => ?_)) | (refine PIoW_ite ?_ ?_) | (refine PIoW_some ?_) | (exact PIoW_none) | (refine PIoW_rn (cQoW.c229 hc _ _ ?_) (fun _ _ _ => ?_)) | (refine pioW_oj_Jx4a65c_add_72be8_11 hP hc  ?_)))
theorem pioW_ob_Jx4a65c_grow_d5877  {x0 : Option Nat} {σ : oSt} (hP : iKptW P) (hc : cQoW P call)  (h : P σ) : PIo P (ob_Jx4a65c_grow_d5877 n call κ  x0 σ) := by
  unfold ob_Jx4a65c_grow_d5877
  repeat' (with_reducible (first | assumption | (refine PIoW_gd ?_) | (refine PIoW_pf hP ?_ (by decide) (by with_unfolding_all rfl) (fun _ _ => ?_)) | (refine PIoW_si hP ?_ (fun _ _ => ?_)) | (refine PIoW_sj hP ?_ (fun _ _ => ?_)) | (refine PIoW_sr hP ?_ (fun _ _ => ?_)) | (refine PIoW_cy hP ?_ (fun _ _ => ?_)) | (refine PIoW_bn (fun _ => ?_)) | (refine PIoW_na hP ?_ (fun _ _ => ?_)) | (refine PIoW_no hP ?_ (fun _ _ => ?_)) | (refine PIoW_ite ?_ ?_) | (refine PIoW_some ?_) | (exact PIoW_none) | (refine PIoW_rn (cQoW.c230 hc _ _ _ ?_) (fun _ _ _ => ?_))))
theorem pioW_oj_Jx4a65c_grow_92f84_20  {x0 : Option Nat} {x1 : Int32} {x2 : Int32} {σ : oSt} (hP : iKptW P) (hc : cQoW P call)  (h : P σ) : PIo P (oj_Jx4a65c_grow_92f84_20 n call κ  x0 x1 x2 σ) := by
  unfold oj_Jx4a65c_grow_92f84_20
  repeat' (with_reducible (first | assumption | (refine PIoW_gd ?_) | (refine PIoW_pf hP ?_ (by decide) (by with_unfolding_all rfl) (fun _ _ => ?_)) | (refine PIoW_si hP ?_ (fun _ _ => ?_)) | (refine PIoW_sj hP ?_ (fun _ _ => ?_)) | (refine PIoW_sr hP ?_ (fun _ _ => ?_)) | (refine PIoW_cy hP ?_ (fun _ _ => ?_)) | (refine PIoW_bn (fun _ => ?_)) | (refine PIoW_na hP ?_ (fun _ _ => ?_)) | (refine PIoW_no hP ?_ (fun _ _ => ?_)) | (refine PIoW_ite ?_ ?_) | (refine PIoW_some ?_) | (exact PIoW_none) | (refine PIoW_in (cQoW.c231 hc _ _ _ _ ?_) (fun _ _ _ => ?_)) | (refine PIoW_rn (cQoW.c232 hc _ _ _ ?_) (fun _ _ _ => ?_))))
theorem pioW_ob_Jx4a65c_grow_92f84  {x0 : Option Nat} {x1 : Int32} {σ : oSt} (hP : iKptW P) (hc : cQoW P call)  (h : P σ) : PIo P (ob_Jx4a65c_grow_92f84 n call κ  x0 x1 σ) := by
  unfold ob_Jx4a65c_grow_92f84
  repeat' (with_reducible (first | assumption | (refine PIoW_gd ?_) | (refine PIoW_pf hP ?_ (by decide) (by with_unfolding_all rfl) (fun _ _ => ?_)) | (refine PIoW_si hP ?_ (fun _ _ => ?_)) | (refine PIoW_sj hP ?_ (fun _ _ => ?_)) | (refine PIoW_sr hP ?_ (fun _ _ => ?_)) | (refine PIoW_cy hP ?_ (fun _ _ => ?_)) | (refine PIoW_bn (fun _ => ?_)) | (refine PIoW_na hP ?_ (fun _ _ => ?_)) | (refine PIoW_no hP ?_ (fun _ _ => ?_)) | (refine PIoW_ite ?_ ?_) | (refine PIoW_some ?_) | (exact PIoW_none) | (refine pioW_oj_Jx4a65c_grow_92f84_20 hP hc  ?_)))
theorem pioW_oj_J8_newLength_cabcc_21  {x0 : Int32} {x1 : Int32} {σ : oSt} (hP : iKptW P) (hc : cQoW P call)  (h : P σ) : PIo P (oj_J8_newLength_cabcc_21 n call κ  x0 x1 σ) := by
  unfold oj_J8_newLength_cabcc_21
  repeat' (with_reducible (first | assumption | (refine PIoW_gd ?_) | (refine PIoW_pf hP ?_ (by decide) (by with_unfolding_all rfl) (fun _ _ => ?_)) | (refine PIoW_si hP ?_ (fun _ _ => ?_)) | (refine PIoW_sj hP ?_ (fun _ _ => ?_)) | (refine PIoW_sr hP ?_ (fun _ _ => ?_)) | (refine PIoW_cy hP ?_ (fun _ _ => ?_)) | (refine PIoW_bn (fun _ => ?_)) | (refine PIoW_na hP ?_ (fun _ _ => ?_)) | (refine PIoW_no hP ?_ (fun _ _ => ?_)) | (refine PIoW_ite ?_ ?_) | (refine PIoW_some ?_) | (exact PIoW_none)))
theorem pioW_ob_J8_newLength_cabcc  {x0 : Int32} {x1 : Int32} {x2 : Int32} {σ : oSt} (hP : iKptW P) (hc : cQoW P call)  (h : P σ) : PIo P (ob_J8_newLength_cabcc n call κ  x0 x1 x2 σ) := by
  unfold ob_J8_newLength_cabcc
  repeat' (with_reducible (first | assumption | (refine PIoW_gd ?_) | (refine PIoW_pf hP ?_ (by decide) (by with_unfolding_all rfl) (fun _ _ => ?_)) | (refine PIoW_si hP ?_ (fun _ _ => ?_)) | (refine PIoW_sj hP ?_ (fun _ _ => ?_)) | (refine PIoW_sr hP ?_ (fun _ _ => ?_)) | (refine PIoW_cy hP ?_ (fun _ _ => ?_)) | (refine PIoW_bn (fun _ => ?_)) | (refine PIoW_na hP ?_ (fun _ _ => ?_)) | (refine PIoW_no hP ?_ (fun _ _ => ?_)) | (refine PIoW_ite ?_ ?_) | (refine PIoW_some ?_) | (exact PIoW_none) | (refine pioW_oj_J8_newLength_cabcc_21 hP hc  ?_)))
theorem pioW_ob_J7_copyOf_1904c  {x0 : Option Nat} {x1 : Int32} {σ : oSt} (hP : iKptW P) (hc : cQoW P call)  (h : P σ) : PIo P (ob_J7_copyOf_1904c n call κ  x0 x1 σ) := by
  unfold ob_J7_copyOf_1904c
  repeat' (with_reducible (first | assumption | (refine PIoW_gd ?_) | (refine PIoW_pf hP ?_ (by decide) (by with_unfolding_all rfl) (fun _ _ => ?_)) | (refine PIoW_si hP ?_ (fun _ _ => ?_)) | (refine PIoW_sj hP ?_ (fun _ _ => ?_)) | (refine PIoW_sr hP ?_ (fun _ _ => ?_)) | (refine PIoW_cy hP ?_ (fun _ _ => ?_)) | (refine PIoW_bn (fun _ => ?_)) | (refine PIoW_na hP ?_ (fun _ _ => ?_)) | (refine PIoW_no hP ?_ (fun _ _ => ?_)) | (refine PIoW_ite ?_ ?_) | (refine PIoW_some ?_) | (exact PIoW_none) | (refine PIoW_rn (cQoW.c233 hc _ _ _ _ ?_) (fun _ _ _ => ?_))))
theorem pioW_ob_J7_copyOf_6403c  {x0 : Option Nat} {x1 : Int32} {x2 : Option Nat} {σ : oSt} (hP : iKptW P) (hc : cQoW P call)  (h : P σ) : PIo P (ob_J7_copyOf_6403c n call κ  x0 x1 x2 σ) := by
  unfold ob_J7_copyOf_6403c
  repeat' (with_reducible (first | assumption | (refine PIoW_gd ?_) | (refine PIoW_pf hP ?_ (by decide) (by with_unfolding_all rfl) (fun _ _ => ?_)) | (refine PIoW_si hP ?_ (fun _ _ => ?_)) | (refine PIoW_sj hP ?_ (fun _ _ => ?_)) | (refine PIoW_sr hP ?_ (fun _ _ => ?_)) | (refine PIoW_cy hP ?_ (fun _ _ => ?_)) | (refine PIoW_bn (fun _ => ?_)) | (refine PIoW_na hP ?_ (fun _ _ => ?_)) | (refine PIoW_no hP ?_ (fun _ _ => ?_)) | (refine PIoW_ite ?_ ?_) | (refine PIoW_some ?_) | (exact PIoW_none)))
theorem pioW_ob_Jx4a65c_get_915e3  {x0 : Option Nat} {x1 : Int32} {σ : oSt} (hP : iKptW P) (hc : cQoW P call)  (h : P σ) : PIo P (ob_Jx4a65c_get_915e3 n call κ  x0 x1 σ) := by
  unfold ob_Jx4a65c_get_915e3
  repeat' (with_reducible (first | assumption | (refine PIoW_gd ?_) | (refine PIoW_pf hP ?_ (by decide) (by with_unfolding_all rfl) (fun _ _ => ?_)) | (refine PIoW_si hP ?_ (fun _ _ => ?_)) | (refine PIoW_sj hP ?_ (fun _ _ => ?_)) | (refine PIoW_sr hP ?_ (fun _ _ => ?_)) | (refine PIoW_cy hP ?_ (fun _ _ => ?_)) | (refine PIoW_bn (fun _ => ?_)) | (refine PIoW_na hP ?_ (fun _ _ => ?_)) | (refine PIoW_no hP ?_ (fun _ _ => ?_)) | (refine PIoW_ite ?_ ?_) | (refine PIoW_some ?_) | (exact PIoW_none) | (refine PIoW_in (cQoW.c205 hc _ _ _ ?_) (fun _ _ _ => ?_)) | (refine PIoW_rn (cQoW.c235 hc _ _ _ ?_) (fun _ _ _ => ?_))))
theorem pioW_ob_Jx4a65c_elementData_915e3  {x0 : Option Nat} {x1 : Int32} {σ : oSt} (hP : iKptW P) (hc : cQoW P call)  (h : P σ) : PIo P (ob_Jx4a65c_elementData_915e3 n call κ  x0 x1 σ) := by
  unfold ob_Jx4a65c_elementData_915e3
  repeat' (with_reducible (first | assumption | (refine PIoW_gd ?_) | (refine PIoW_pf hP ?_ (by decide) (by with_unfolding_all rfl) (fun _ _ => ?_)) | (refine PIoW_si hP ?_ (fun _ _ => ?_)) | (refine PIoW_sj hP ?_ (fun _ _ => ?_)) | (refine PIoW_sr hP ?_ (fun _ _ => ?_)) | (refine PIoW_cy hP ?_ (fun _ _ => ?_)) | (refine PIoW_bn (fun _ => ?_)) | (refine PIoW_na hP ?_ (fun _ _ => ?_)) | (refine PIoW_no hP ?_ (fun _ _ => ?_)) | (refine PIoW_ite ?_ ?_) | (refine PIoW_some ?_) | (exact PIoW_none)))
theorem pioW_ob_Jx4a65c_size_8abf5  {x0 : Option Nat} {σ : oSt} (hP : iKptW P) (hc : cQoW P call)  (h : P σ) : PIo P (ob_Jx4a65c_size_8abf5 n call κ  x0 σ) := by
  unfold ob_Jx4a65c_size_8abf5
  repeat' (with_reducible (first | assumption | (refine PIoW_gd ?_) | (refine PIoW_pf hP ?_ (by decide) (by with_unfolding_all rfl) (fun _ _ => ?_)) | (refine PIoW_si hP ?_ (fun _ _ => ?_)) | (refine PIoW_sj hP ?_ (fun _ _ => ?_)) | (refine PIoW_sr hP ?_ (fun _ _ => ?_)) | (refine PIoW_cy hP ?_ (fun _ _ => ?_)) | (refine PIoW_bn (fun _ => ?_)) | (refine PIoW_na hP ?_ (fun _ _ => ?_)) | (refine PIoW_no hP ?_ (fun _ _ => ?_)) | (refine PIoW_ite ?_ ?_) | (refine PIoW_some ?_) | (exact PIoW_none)))
theorem pioW_ob_J7_copyOf_59c91  {x0 : Option Nat} {x1 : Int32} {σ : oSt} (hP : iKptW P) (hc : cQoW P call)  (h : P σ) : PIo P (ob_J7_copyOf_59c91 n call κ  x0 x1 σ) := by
  unfold ob_J7_copyOf_59c91
  repeat' (with_reducible (first | assumption | (refine PIoW_gd ?_) | (refine PIoW_pf hP ?_ (by decide) (by with_unfolding_all rfl) (fun _ _ => ?_)) | (refine PIoW_si hP ?_ (fun _ _ => ?_)) | (refine PIoW_sj hP ?_ (fun _ _ => ?_)) | (refine PIoW_sr hP ?_ (fun _ _ => ?_)) | (refine PIoW_cy hP ?_ (fun _ _ => ?_)) | (refine PIoW_bn (fun _ => ?_)) | (refine PIoW_na hP ?_ (fun _ _ => ?_)) | (refine PIoW_no hP ?_ (fun _ _ => ?_)) | (refine PIoW_ite ?_ ?_) | (refine PIoW_some ?_) | (exact PIoW_none)))
theorem pioW_ob_J7_copyOf_c38d5  {x0 : Option Nat} {x1 : Int32} {σ : oSt} (hP : iKptW P) (hc : cQoW P call)  (h : P σ) : PIo P (ob_J7_copyOf_c38d5 n call κ  x0 x1 σ) := by
  unfold ob_J7_copyOf_c38d5
  repeat' (with_reducible (first | assumption | (refine PIoW_gd ?_) | (refine PIoW_pf hP ?_ (by decide) (by with_unfolding_all rfl) (fun _ _ => ?_)) | (refine PIoW_si hP ?_ (fun _ _ => ?_)) | (refine PIoW_sj hP ?_ (fun _ _ => ?_)) | (refine PIoW_sr hP ?_ (fun _ _ => ?_)) | (refine PIoW_cy hP ?_ (fun _ _ => ?_)) | (refine PIoW_bn (fun _ => ?_)) | (refine PIoW_na hP ?_ (fun _ _ => ?_)) | (refine PIoW_no hP ?_ (fun _ _ => ?_)) | (refine PIoW_ite ?_ ?_) | (refine PIoW_some ?_) | (exact PIoW_none)))
/-- **all of them, however deep** -/
theorem cQoW_oF (hP : iKptW P) (T : Nat) : ∀ n, cQoW P (oF κ T n) := by
  intro n
  induction n with
  | zero =>
    refine ⟨?_, ?_, ?_, ?_, ?_, ?_, ?_, ?_, ?_, ?_, ?_, ?_, ?_, ?_, ?_, ?_, ?_, ?_, ?_, ?_, ?_, ?_, ?_, ?_, ?_, ?_, ?_, ?_, ?_, ?_, ?_, ?_, ?_, ?_, ?_, ?_, ?_, ?_, ?_, ?_, ?_, ?_, ?_, ?_, ?_, ?_, ?_, ?_, ?_, ?_, ?_, ?_, ?_, ?_, ?_, ?_, ?_, ?_, ?_, ?_, ?_, ?_, ?_, ?_, ?_, ?_, ?_, ?_, ?_, ?_, ?_, ?_, ?_, ?_, ?_, ?_, ?_, ?_, ?_, ?_, ?_, ?_, ?_, ?_, ?_, ?_, ?_⟩ <;> (intros; exact fun w e => by cases e)
  | succ n hc =>
    refine ⟨?_, ?_, ?_, ?_, ?_, ?_, ?_, ?_, ?_, ?_, ?_, ?_, ?_, ?_, ?_, ?_, ?_, ?_, ?_, ?_, ?_, ?_, ?_, ?_, ?_, ?_, ?_, ?_, ?_, ?_, ?_, ?_, ?_, ?_, ?_, ?_, ?_, ?_, ?_, ?_, ?_, ?_, ?_, ?_, ?_, ?_, ?_, ?_, ?_, ?_, ?_, ?_, ?_, ?_, ?_, ?_, ?_, ?_, ?_, ?_, ?_, ?_, ?_, ?_, ?_, ?_, ?_, ?_, ?_, ?_, ?_, ?_, ?_, ?_, ?_, ?_, ?_, ?_, ?_, ?_, ?_, ?_, ?_, ?_, ?_, ?_, ?_⟩
    · intro x0 x1 x2 x3 σ h
      rw [oE_X0_init]
      exact pioW_ob_X0_init hP hc h
    · intro x0 x1 σ h
      rw [oE_X2_init]
      exact pioW_ob_X2_init hP hc h
    · intro x0 x1 x2 σ h
      rw [oE_X8_init]
      exact pioW_ob_X8_init hP hc h
    · intro x0 x1 x2 x3 σ h
      rw [oE_X2_init_]
      exact pioW_ob_X2_init_ hP hc h
    · intro x0 x1 σ h
      rw [oE_X2_answered]
      exact pioW_ob_X2_answered hP hc h
    · intro x0 σ h
      rw [oE_X2_taken]
      exact pioW_ob_X2_taken hP hc h
    · intro x0 σ h
      rw [oE_X4_isMeasured]
      exact pioW_ob_X4_isMeasured hP hc h
    · intro x0 x1 x2 σ h
      rw [oE_X4_init]
      exact pioW_ob_X4_init hP hc h
    · intro x0 σ h
      rw [oE_X9_init]
      exact pioW_ob_X9_init hP hc h
    · intro x0 x1 σ h
      rw [oE_X9_append]
      exact pioW_ob_X9_append hP hc h
    · intro x0 x1 x2 σ h
      rw [oE_X9_add]
      exact pioW_ob_X9_add hP hc h
    · intro x0 x1 x2 σ h
      rw [oE_X9_of]
      exact pioW_ob_X9_of hP hc h
    · intro x0 x1 x2 x3 σ h
      rw [oE_X0_fit]
      exact pioW_ob_X0_fit hP hc h
    · intro x0 x1 x2 x3 σ h
      rw [oE_X8_init_]
      exact pioW_ob_X8_init_ hP hc h
    · intro x0 σ h
      rw [oE_X9_isTerm]
      exact pioW_ob_X9_isTerm hP hc h
    · intro x0 x1 σ h
      rw [oE_X2_makeRoom]
      exact hP.2.2.2.2 _ _ _ _ _ σ h
    · intro x0 x1 x2 σ h
      rw [oE_X2_say]
      exact pioW_ob_X2_say hP hc h
    · intro x0 x1 σ h
      rw [oE_X2_of]
      exact pioW_ob_X2_of hP hc h
    · intro x0 x1 σ h
      rw [oE_X0_product]
      exact pioW_ob_X0_product hP hc h
    · intro x0 σ h
      rw [oE_X0_remainder]
      exact pioW_ob_X0_remainder hP hc h
    · intro x0 σ h
      rw [oE_X0_plain]
      exact pioW_ob_X0_plain hP hc h
    · intro x0 x1 σ h
      rw [oE_X10_root]
      exact pioW_ob_X10_root hP hc h
    · intro x0 x1 σ h
      rw [oE_X10_kindOf]
      exact pioW_ob_X10_kindOf hP hc h
    · intro x0 x1 σ h
      rw [oE_X10_takenBy]
      exact pioW_ob_X10_takenBy hP hc h
    · intro x0 x1 σ h
      rw [oE_X10_answeredBy]
      exact pioW_ob_X10_answeredBy hP hc h
    · intro x0 x1 x2 σ h
      rw [oE_X0_instance]
      exact pioW_ob_X0_instance hP hc h
    · intro x0 x1 σ h
      rw [oE_X0_sayInstances]
      exact pioW_ob_X0_sayInstances hP hc h
    · intro x0 x1 x2 x3 σ h
      rw [oE_X0_shape]
      exact pioW_ob_X0_shape hP hc h
    · intro x0 x1 x2 x3 σ h
      rw [oE_X0_template]
      exact pioW_ob_X0_template hP hc h
    · intro x0 x1 x2 x3 σ h
      rw [oE_X0_fitBody]
      exact pioW_ob_X0_fitBody hP hc h
    · intro x0 x1 x2 σ h
      rw [oE_X0_walk]
      exact pioW_ob_X0_walk hP hc h
    · intro x0 x1 x2 σ h
      rw [oE_X0_walkCall]
      exact pioW_ob_X0_walkCall hP hc h
    · intro x0 x1 x2 σ h
      rw [oE_X0_walkFunction]
      exact pioW_ob_X0_walkFunction hP hc h
    · intro x0 x1 x2 σ h
      rw [oE_X0_walkIf]
      exact pioW_ob_X0_walkIf hP hc h
    · intro x0 x1 x2 σ h
      rw [oE_X0_walkLet]
      exact pioW_ob_X0_walkLet hP hc h
    · intro x0 x1 x2 σ h
      rw [oE_X0_walkMatch]
      exact pioW_ob_X0_walkMatch hP hc h
    · intro x0 x1 x2 σ h
      rw [oE_X0_walkRec]
      exact pioW_ob_X0_walkRec hP hc h
    · intro x0 σ h
      rw [oE_X0_gather]
      exact pioW_ob_X0_gather hP hc h
    · intro x0 σ h
      rw [oE_X9_isFact]
      exact pioW_ob_X9_isFact hP hc h
    · intro x0 σ h
      rw [oE_X1_isFormed]
      exact pioW_ob_X1_isFormed hP hc h
    · intro x0 x1 σ h
      rw [oE_X6_makeRoom]
      exact pioW_ob_X6_makeRoom hP hc h
    · intro x0 x1 σ h
      rw [oE_X6_reset]
      exact pioW_ob_X6_reset hP hc h
    · intro x0 x1 x2 x3 σ h
      rw [oE_X6_lead]
      exact pioW_ob_X6_lead hP hc h
    · intro x0 σ h
      rw [oE_X6_tighten]
      exact pioW_ob_X6_tighten hP hc h
    · intro x0 x1 x2 x3 σ h
      rw [oE_X6_limit]
      exact pioW_ob_X6_limit hP hc h
    · intro x0 x1 σ h
      rw [oE_X2_insteadOf]
      exact pioW_ob_X2_insteadOf hP hc h
    · intro x0 x1 σ h
      rw [oE_X2_recall]
      exact pioW_ob_X2_recall hP hc h
    · intro x0 x1 σ h
      rw [oE_X1_side]
      exact pioW_ob_X1_side hP hc h
    · intro x0 x1 x2 x3 σ h
      rw [oE_X6_isLimited]
      exact pioW_ob_X6_isLimited hP hc h
    · intro x0 x1 x2 x3 σ h
      rw [oE_X1_meet]
      exact pioW_ob_X1_meet hP hc h
    · intro x0 x1 x2 σ h
      rw [oE_X1_learn]
      exact pioW_ob_X1_learn hP hc h
    · intro x0 x1 x2 σ h
      rw [oE_X1_postpone]
      exact pioW_ob_X1_postpone hP hc h
    · intro x0 x1 x2 σ h
      rw [oE_X1_choose]
      exact pioW_ob_X1_choose hP hc h
    · intro x0 σ h
      rw [oE_X1_opposite]
      exact pioW_ob_X1_opposite hP hc h
    · intro x0 x1 x2 x3 σ h
      rw [oE_X1_limit]
      exact pioW_ob_X1_limit hP hc h
    · intro x0 x1 x2 σ h
      rw [oE_X1_compare]
      exact pioW_ob_X1_compare hP hc h
    · intro x0 x1 x2 σ h
      rw [oE_X1_assume]
      exact pioW_ob_X1_assume hP hc h
    · intro x0 x1 x2 σ h
      rw [oE_X1_begin]
      exact pioW_ob_X1_begin hP hc h
    · intro x0 σ h
      rw [oE_X6_close]
      exact pioW_ob_X6_close hP hc h
    · intro x0 σ h
      rw [oE_X1_conclude]
      exact pioW_ob_X1_conclude hP hc h
    · intro x0 σ h
      rw [oE_X1_isDecided]
      exact pioW_ob_X1_isDecided hP hc h
    · intro x0 σ h
      rw [oE_X6_rise]
      exact pioW_ob_X6_rise hP hc h
    · intro x0 σ h
      rw [oE_X6_sink]
      exact pioW_ob_X6_sink hP hc h
    · intro x0 x1 σ h
      rw [oE_X1_explore]
      exact pioW_ob_X1_explore hP hc h
    · intro x0 x1 x2 σ h
      rw [oE_X1_isSure]
      exact pioW_ob_X1_isSure hP hc h
    · intro x0 σ h
      rw [oE_X0_findDoubt]
      exact pioW_ob_X0_findDoubt hP hc h
    · intro x0 x1 σ h
      rw [oE_X0_lastChange]
      exact pioW_ob_X0_lastChange hP hc h
    · intro x0 x1 x2 x3 σ h
      rw [oE_X1_weaken]
      exact pioW_ob_X1_weaken hP hc h
    · intro x0 σ h
      rw [oE_X0_weakenAll]
      exact pioW_ob_X0_weakenAll hP hc h
    · intro x0 σ h
      rw [oE_X12_accepted]
      exact pioW_ob_X12_accepted hP hc h
    · intro x0 x1 σ h
      rw [oE_J15_checkIndex_7cf53]
      exact pioW_ob_J15_checkIndex_7cf53 hP hc h
    · intro x0 x1 x2 σ h
      rw [oE_J3_checkIndex_8e157]
      exact pioW_ob_J3_checkIndex_8e157 hP hc h
    · intro x0 σ h
      rw [oE_Jx4a65c_init_da8c8]
      exact pioW_ob_Jx4a65c_init_da8c8 hP hc h
    · intro x0 σ h
      rw [oE_Jxc12de_init_da8c8]
      exact pioW_ob_Jxc12de_init_da8c8 hP hc h
    · intro x0 σ h
      rw [oE_Jxa1e45_init_da8c8]
      exact pioW_ob_Jxa1e45_init_da8c8 hP hc h
    · intro x0 x1 σ h
      rw [oE_Jx4a65c_add_9ea2d]
      exact pioW_ob_Jx4a65c_add_9ea2d hP hc h
    · intro x0 x1 x2 x3 σ h
      rw [oE_Jx4a65c_add_72be8]
      exact pioW_ob_Jx4a65c_add_72be8 hP hc h
    · intro x0 σ h
      rw [oE_Jx4a65c_grow_d5877]
      exact pioW_ob_Jx4a65c_grow_d5877 hP hc h
    · intro x0 x1 σ h
      rw [oE_Jx4a65c_grow_92f84]
      exact pioW_ob_Jx4a65c_grow_92f84 hP hc h
    · intro x0 x1 x2 σ h
      rw [oE_J8_newLength_cabcc]
      exact pioW_ob_J8_newLength_cabcc hP hc h
    · intro x0 x1 σ h
      rw [oE_J7_copyOf_1904c]
      exact pioW_ob_J7_copyOf_1904c hP hc h
    · intro x0 x1 x2 σ h
      rw [oE_J7_copyOf_6403c]
      exact pioW_ob_J7_copyOf_6403c hP hc h
    · intro x0 x1 σ h
      rw [oE_Jx4a65c_get_915e3]
      exact pioW_ob_Jx4a65c_get_915e3 hP hc h
    · intro x0 x1 σ h
      rw [oE_Jx4a65c_elementData_915e3]
      exact pioW_ob_Jx4a65c_elementData_915e3 hP hc h
    · intro x0 σ h
      rw [oE_Jx4a65c_size_8abf5]
      exact pioW_ob_Jx4a65c_size_8abf5 hP hc h
    · intro x0 x1 σ h
      rw [oE_J7_copyOf_59c91]
      exact pioW_ob_J7_copyOf_59c91 hP hc h
    · intro x0 x1 σ h
      rw [oE_J7_copyOf_c38d5]
      exact pioW_ob_J7_copyOf_c38d5 hP hc h
end OPGW
