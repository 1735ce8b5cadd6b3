/-! what the methods that are called keep (made by wip/opigen.py) -/
/-- which fields are written -/
def wrlN : List (Nat × Nat) := [(5, 4), (5, 5), (5, 9), (5, 10), (5, 11), (5, 12), (5, 13), (5, 14), (5, 15), (5, 16), (5, 17), (14, 1)]
/-- P is kept by new cells and single writes -/
def iKptN (P : oSt → Prop) : Prop := (∀ σ y n, P σ → P (onew σ (.inl y) n)) ∧ True ∧ (∀ σ a ci fs k v, P σ → σ.1 a = some (.inr (ci, fs)) → (ci, k) ∈ wrlN → wIv8 ci k v = true → P (oput σ a (.inr (ci, fs.set k v)))) ∧ (∀ σ a y y', P σ → σ.1 a = some (.inl y) → P (oput σ a (.inl y')))
section PIBN
variable {P : oSt → Prop}
theorem PIoN_none : PIo P none := fun w h => by cases h
theorem PIoN_some {x : Option Value} {σ : oSt} (h : P σ) : PIo P (some (x, σ)) := fun w e => by
  injection e with e
  rw [← e]; exact h
theorem PIoN_gd {b : Bool} {r : oRs} (h : PIo P r) : PIo P (ogd b r) := by
  unfold ogd
  split
  · exact h
  · exact PIoN_none
theorem PIoN_ite {c : Prop} [Decidable c] {a b : oRs} (h : PIo P a) (g : PIo P b) : PIo P (if c then a else b) := by
  split
  · exact h
  · exact g
theorem PIoN_bn {α : Type} {x : Option α} {f : α → oRs} (h : ∀ a, PIo P (f a)) : PIo P (obn x f) := by
  unfold obn
  split
  · exact h _
  · exact PIoN_none
theorem PIoN_bs {x : Option oSt} {f : oSt → oRs} (h : ∀ s, x = some s → P s) (g : ∀ s, P s → PIo P (f s)) : PIo P (obn x f) := by
  unfold obn
  split
  · exact g _ (h _ rfl)
  · exact PIoN_none
theorem PIoN_pf (hP : iKptN P) {σ : oSt} {r : Option Nat} {ci k : Nat} {x : Value} {f : oSt → oRs} (h : P σ) (hw : (ci, k) ∈ wrlN) (hv : wIv8 ci k x = true) (g : ∀ s, P s → PIo P (f s)) : PIo P (obn (opf σ r ci k x) f) := PIoN_bs (fun s e => by
  unfold opf at e
  split at e
  · split at e
    · rename_i o e1
      split at e
      · rename_i c
        injection e with e
        rw [← e]
        obtain ⟨oi, ofs⟩ := o
        obtain ⟨c1, -⟩ := c
        have c1 : oi = ci := c1
        subst c1
        exact hP.2.2.1 σ _ oi ofs k x h e1 hw hv
      · cases e
    · cases e
  · cases e) g
theorem PIoN_si (hP : iKptN P) {σ : oSt} {r : Option Nat} {ty : FieldType} {i x : Int32} {f : oSt → oRs} (h : P σ) (g : ∀ s, P s → PIo P (f s)) : PIo P (obn (osi σ r ty i x) f) := PIoN_bs (fun s e => by
  unfold osi at e
  repeat' split at e
  all_goals first
    | (cases e; done)
    | (injection e with e; rw [← e]; exact hP.2.2.2 σ _ _ _ h (by assumption))) g
theorem PIoN_sj (hP : iKptN P) {σ : oSt} {r : Option Nat} {i : Int32} {x : Int64} {f : oSt → oRs} (h : P σ) (g : ∀ s, P s → PIo P (f s)) : PIo P (obn (osj σ r i x) f) := PIoN_bs (fun s e => by
  unfold osj at e
  repeat' split at e
  all_goals first
    | (cases e; done)
    | (injection e with e; rw [← e]; exact hP.2.2.2 σ _ _ _ h (by assumption))) g
theorem PIoN_sr (hP : iKptN P) {σ : oSt} {r : Option Nat} {i : Int32} {y : Option Nat} {f : oSt → oRs} (h : P σ) (g : ∀ s, P s → PIo P (f s)) : PIo P (obn (osr σ r i y) f) := PIoN_bs (fun s e => by
  unfold osr at e
  repeat' split at e
  all_goals first
    | (cases e; done)
    | (injection e with e; rw [← e]; exact hP.2.2.2 σ _ _ _ h (by assumption))) g
theorem PIoN_cy (hP : iKptN P) {σ : oSt} {r0 r1 : Option Nat} {sp dp n : Int32} {f : oSt → oRs} (h : P σ) (g : ∀ s, P s → PIo P (f s)) : PIo P (obn (ocy σ r0 sp r1 dp n) f) := PIoN_bs (fun s e => by
  unfold ocy at e
  repeat' split at e
  all_goals first
    | (cases e; done)
    | (injection e with e; rw [← e]; exact hP.2.2.2 σ _ _ _ h (by assumption))) g
theorem PIoN_na (hP : iKptN P) {σ : oSt} {y} {n : Nat} {f : oSt → oRs} (h : P σ) (g : ∀ s, P s → PIo P (f s)) : PIo P (olet (onew σ (.inl y) n) f) := g _ (hP.1 σ y n h)
theorem PIoN_cv {r : oRs} {f : oSt → oRs} (h : PIo P r) (g : ∀ s, P s → PIo P (f s)) : PIo P (ocv r f) := by
  unfold ocv
  split
  · exact g _ (h _ rfl)
  · exact PIoN_none
theorem PIoN_in {r : oRs} {f : Int32 → oSt → oRs} (h : PIo P r) (g : ∀ x s, P s → PIo P (f x s)) : PIo P (oin r f) := by
  unfold oin
  split
  · exact g _ _ (h _ rfl)
  · exact PIoN_none
theorem PIoN_rn {r : oRs} {f : Option Nat → oSt → oRs} (h : PIo P r) (g : ∀ x s, P s → PIo P (f x s)) : PIo P (orn r f) := by
  unfold orn
  split
  · exact g _ _ (h _ rfl)
  · exact g _ _ (h _ rfl)
  · exact PIoN_none
theorem PIoN_ln {r : oRs} {f : Int64 → oSt → oRs} (h : PIo P r) (g : ∀ x s, P s → PIo P (f x s)) : PIo P (oln' r f) := by
  unfold oln'
  split
  · exact g _ _ (h _ rfl)
  · exact PIoN_none
end PIBN
/-- what is called keeps P -/
def cQoN (P : oSt → Prop) (call : oCl) : Prop := (∀ (x0 : Option Nat) (x1 : Int32) (x2 : Int32) (x3 : Int32), ∀ σ, P σ → PIo P (call 74 [va_rf x0, .int x1, .int x2, .int x3] σ)) ∧ (∀ (x0 : Option Nat) (x1 : Int32) (x2 : Int32) (x3 : Int32), ∀ σ, P σ → PIo P (call 75 [va_rf x0, .int x1, .int x2, .int x3] σ)) ∧ (∀ (x0 : Option Nat) (x1 : Int32), ∀ σ, P σ → PIo P (call 76 [va_rf x0, .int x1] σ)) ∧ (∀ (x0 : Option Nat) (x1 : Int32), ∀ σ, P σ → PIo P (call 77 [va_rf x0, .int x1] σ)) ∧ (∀ (x0 : Option Nat) (x1 : Int32), ∀ σ, P σ → PIo P (call 78 [va_rf x0, .int x1] σ)) ∧ (∀ (x0 : Option Nat) (x1 : Int64) (x2 : Int32), ∀ σ, P σ → PIo P (call 79 [va_rf x0, .long x1, .int x2] σ)) ∧ (∀ (x0 : Option Nat), ∀ σ, P σ → PIo P (call 80 [va_rf x0] σ)) ∧ (∀ (x0 : Option Nat) (x1 : Option Nat) (x2 : Int32) (x3 : Int32), ∀ σ, P σ → PIo P (call 81 [va_rf x0, va_rf x1, .int x2, .int x3] σ)) ∧ (∀ (x0 : Option Nat) (x1 : Int64) (x2 : Int64) (x3 : Int64), ∀ σ, P σ → PIo P (call 82 [va_rf x0, .long x1, .long x2, .long x3] σ)) ∧ (∀ (x0 : Option Nat) (x1 : Option Nat) (x2 : Int32), ∀ σ, P σ → PIo P (call 83 [va_rf x0, va_rf x1, .int x2] σ)) ∧ (∀ (x0 : Option Nat) (x1 : Int64) (x2 : Int32), ∀ σ, P σ → PIo P (call 84 [va_rf x0, .long x1, .int x2] σ)) ∧ (∀ (x0 : Option Nat) (x1 : Option Nat), ∀ σ, P σ → PIo P (call 85 [va_rf x0, va_rf x1] σ)) ∧ (∀ (x0 : Option Nat) (x1 : Int64) (x2 : Int32) (x3 : Option Nat), ∀ σ, P σ → PIo P (call 86 [va_rf x0, .long x1, .int x2, va_rf x3] σ)) ∧ (∀ (x0 : Option Nat) (x1 : Option Nat), ∀ σ, P σ → PIo P (call 87 [va_rf x0, va_rf x1] σ)) ∧ (∀ (x0 : Option Nat) (x1 : Option Nat), ∀ σ, P σ → PIo P (call 88 [va_rf x0, va_rf x1] σ)) ∧ (∀ (x0 : Option Nat) (x1 : Option Nat), ∀ σ, P σ → PIo P (call 89 [va_rf x0, va_rf x1] σ)) ∧ (∀ (x0 : Option Nat) (x1 : Option Nat), ∀ σ, P σ → PIo P (call 90 [va_rf x0, va_rf x1] σ)) ∧ (∀ (x0 : Option Nat) (x1 : Option Nat), ∀ σ, P σ → PIo P (call 91 [va_rf x0, va_rf x1] σ)) ∧ (∀ (x0 : Option Nat) (x1 : Int32) (x2 : Int32), ∀ σ, P σ → PIo P (call 92 [va_rf x0, .int x1, .int x2] σ)) ∧ (∀ (x0 : Option Nat) (x1 : Option Nat), ∀ σ, P σ → PIo P (call 93 [va_rf x0, va_rf x1] σ)) ∧ (∀ (x0 : Option Nat) (x1 : Int64), ∀ σ, P σ → PIo P (call 94 [va_rf x0, .long x1] σ)) ∧ (∀ (x0 : Option Nat) (x1 : Option Nat), ∀ σ, P σ → PIo P (call 95 [va_rf x0, va_rf x1] σ)) ∧ (∀ (x0 : Option Nat) (x1 : Int64) (x2 : Option Nat), ∀ σ, P σ → PIo P (call 96 [va_rf x0, .long x1, va_rf x2] σ)) ∧ (∀ (x0 : Option Nat) (x1 : Option Nat), ∀ σ, P σ → PIo P (call 97 [va_rf x0, va_rf x1] σ)) ∧ (∀ (x0 : Option Nat) (x1 : Option Nat), ∀ σ, P σ → PIo P (call 98 [va_rf x0, va_rf x1] σ)) ∧ (∀ (x0 : Option Nat) (x1 : Option Nat), ∀ σ, P σ → PIo P (call 99 [va_rf x0, va_rf x1] σ)) ∧ (∀ (x0 : Option Nat), ∀ σ, P σ → PIo P (call 100 [va_rf x0] σ)) ∧ (∀ (x0 : Option Nat) (x1 : Int32), ∀ σ, P σ → PIo P (call 101 [va_rf x0, .int x1] σ)) ∧ (∀ (x0 : Option Nat) (x1 : Int32), ∀ σ, P σ → PIo P (call 174 [va_rf x0, .int x1] σ)) ∧ (∀ (x0 : Option Nat) (x1 : Int32) (x2 : Int32) (x3 : Int32) (x4 : Int32) (x5 : Int32), ∀ σ, P σ → PIo P (call 175 [va_rf x0, .int x1, .int x2, .int x3, .int x4, .int x5] σ)) ∧ (∀ (x0 : Option Nat) (x1 : Int32), ∀ σ, P σ → PIo P (call 176 [va_rf x0, .int x1] σ)) ∧ (∀ (x0 : Option Nat), ∀ σ, P σ → PIo P (call 180 [va_rf x0] σ)) ∧ (∀ (x0 : Option Nat) (x1 : Int32), ∀ σ, P σ → PIo P (call 190 [va_rf x0, .int x1] σ)) ∧ (∀ (x0 : Option Nat) (x1 : Int32) (x2 : Int32), ∀ σ, P σ → PIo P (call 191 [va_rf x0, .int x1, .int x2] σ)) ∧ (∀ (x0 : Option Nat) (x1 : Int32) (x2 : Int32) (x3 : Int32), ∀ σ, P σ → PIo P (call 192 [va_rf x0, .int x1, .int x2, .int x3] σ)) ∧ (∀ (x0 : Option Nat) (x1 : Int32), ∀ σ, P σ → PIo P (call 193 [va_rf x0, .int x1] σ)) ∧ (∀ (x0 : Option Nat), ∀ σ, P σ → PIo P (call 194 [va_rf x0] σ)) ∧ (∀ (x0 : Option Nat), ∀ σ, P σ → PIo P (call 195 [va_rf x0] σ)) ∧ (∀ (x0 : Int32) (x1 : Int32), ∀ σ, P σ → PIo P (call 205 [.int x0, .int x1] σ)) ∧ (∀ (x0 : Int32) (x1 : Int32) (x2 : Option Nat), ∀ σ, P σ → PIo P (call 206 [.int x0, .int x1, va_rf x2] σ)) ∧ (∀ (x0 : Option Nat) (x1 : Int32), ∀ σ, P σ → PIo P (call 234 [va_rf x0, .int x1] σ)) ∧ (∀ (x0 : Option Nat) (x1 : Int32), ∀ σ, P σ → PIo P (call 235 [va_rf x0, .int x1] σ)) ∧ (∀ (x0 : Option Nat), ∀ σ, P σ → PIo P (call 236 [va_rf x0] σ)) ∧ (∀ (x0 : Option Nat) (x1 : Int32), ∀ σ, P σ → PIo P (call 239 [va_rf x0, .int x1] σ)) ∧ (∀ (x0 : Option Nat) (x1 : Int32), ∀ σ, P σ → PIo P (call 242 [va_rf x0, .int x1] σ)) ∧ (∀ (x0 : Int64) (x1 : Int64), ∀ σ, P σ → PIo P (call 243 [.long x0, .long x1] σ)) ∧ (∀ (x0 : Int64) (x1 : Int64), ∀ σ, P σ → PIo P (call 244 [.long x0, .long x1] σ))
theorem cQoN.c74 {P : oSt → Prop} {call : oCl} (hc : cQoN P call) (x0 : Option Nat) (x1 : Int32) (x2 : Int32) (x3 : Int32) (σ : oSt) (h : P σ) : PIo P (call 74 [va_rf x0, .int x1, .int x2, .int x3] σ) := hc.1 x0 x1 x2 x3 σ h
theorem cQoN.c75 {P : oSt → Prop} {call : oCl} (hc : cQoN P call) (x0 : Option Nat) (x1 : Int32) (x2 : Int32) (x3 : Int32) (σ : oSt) (h : P σ) : PIo P (call 75 [va_rf x0, .int x1, .int x2, .int x3] σ) := hc.2.1 x0 x1 x2 x3 σ h
theorem cQoN.c76 {P : oSt → Prop} {call : oCl} (hc : cQoN P call) (x0 : Option Nat) (x1 : Int32) (σ : oSt) (h : P σ) : PIo P (call 76 [va_rf x0, .int x1] σ) := hc.2.2.1 x0 x1 σ h
theorem cQoN.c77 {P : oSt → Prop} {call : oCl} (hc : cQoN P call) (x0 : Option Nat) (x1 : Int32) (σ : oSt) (h : P σ) : PIo P (call 77 [va_rf x0, .int x1] σ) := hc.2.2.2.1 x0 x1 σ h
theorem cQoN.c78 {P : oSt → Prop} {call : oCl} (hc : cQoN P call) (x0 : Option Nat) (x1 : Int32) (σ : oSt) (h : P σ) : PIo P (call 78 [va_rf x0, .int x1] σ) := hc.2.2.2.2.1 x0 x1 σ h
theorem cQoN.c79 {P : oSt → Prop} {call : oCl} (hc : cQoN P call) (x0 : Option Nat) (x1 : Int64) (x2 : Int32) (σ : oSt) (h : P σ) : PIo P (call 79 [va_rf x0, .long x1, .int x2] σ) := hc.2.2.2.2.2.1 x0 x1 x2 σ h
theorem cQoN.c80 {P : oSt → Prop} {call : oCl} (hc : cQoN P call) (x0 : Option Nat) (σ : oSt) (h : P σ) : PIo P (call 80 [va_rf x0] σ) := hc.2.2.2.2.2.2.1 x0 σ h
theorem cQoN.c81 {P : oSt → Prop} {call : oCl} (hc : cQoN P call) (x0 : Option Nat) (x1 : Option Nat) (x2 : Int32) (x3 : Int32) (σ : oSt) (h : P σ) : PIo P (call 81 [va_rf x0, va_rf x1, .int x2, .int x3] σ) := hc.2.2.2.2.2.2.2.1 x0 x1 x2 x3 σ h
theorem cQoN.c82 {P : oSt → Prop} {call : oCl} (hc : cQoN P call) (x0 : Option Nat) (x1 : Int64) (x2 : Int64) (x3 : Int64) (σ : oSt) (h : P σ) : PIo P (call 82 [va_rf x0, .long x1, .long x2, .long x3] σ) := hc.2.2.2.2.2.2.2.2.1 x0 x1 x2 x3 σ h
theorem cQoN.c83 {P : oSt → Prop} {call : oCl} (hc : cQoN P call) (x0 : Option Nat) (x1 : Option Nat) (x2 : Int32) (σ : oSt) (h : P σ) : PIo P (call 83 [va_rf x0, va_rf x1, .int x2] σ) := hc.2.2.2.2.2.2.2.2.2.1 x0 x1 x2 σ h
theorem cQoN.c84 {P : oSt → Prop} {call : oCl} (hc : cQoN P call) (x0 : Option Nat) (x1 : Int64) (x2 : Int32) (σ : oSt) (h : P σ) : PIo P (call 84 [va_rf x0, .long x1, .int x2] σ) := hc.2.2.2.2.2.2.2.2.2.2.1 x0 x1 x2 σ h
theorem cQoN.c85 {P : oSt → Prop} {call : oCl} (hc : cQoN P call) (x0 : Option Nat) (x1 : Option Nat) (σ : oSt) (h : P σ) : PIo P (call 85 [va_rf x0, va_rf x1] σ) := hc.2.2.2.2.2.2.2.2.2.2.2.1 x0 x1 σ h
theorem cQoN.c86 {P : oSt → Prop} {call : oCl} (hc : cQoN P call) (x0 : Option Nat) (x1 : Int64) (x2 : Int32) (x3 : Option Nat) (σ : oSt) (h : P σ) : PIo P (call 86 [va_rf x0, .long x1, .int x2, va_rf x3] σ) := hc.2.2.2.2.2.2.2.2.2.2.2.2.1 x0 x1 x2 x3 σ h
theorem cQoN.c87 {P : oSt → Prop} {call : oCl} (hc : cQoN P call) (x0 : Option Nat) (x1 : Option Nat) (σ : oSt) (h : P σ) : PIo P (call 87 [va_rf x0, va_rf x1] σ) := hc.2.2.2.2.2.2.2.2.2.2.2.2.2.1 x0 x1 σ h
theorem cQoN.c88 {P : oSt → Prop} {call : oCl} (hc : cQoN P call) (x0 : Option Nat) (x1 : Option Nat) (σ : oSt) (h : P σ) : PIo P (call 88 [va_rf x0, va_rf x1] σ) := hc.2.2.2.2.2.2.2.2.2.2.2.2.2.2.1 x0 x1 σ h
theorem cQoN.c89 {P : oSt → Prop} {call : oCl} (hc : cQoN P call) (x0 : Option Nat) (x1 : Option Nat) (σ : oSt) (h : P σ) : PIo P (call 89 [va_rf x0, va_rf x1] σ) := hc.2.2.2.2.2.2.2.2.2.2.2.2.2.2.2.1 x0 x1 σ h
theorem cQoN.c90 {P : oSt → Prop} {call : oCl} (hc : cQoN P call) (x0 : Option Nat) (x1 : Option Nat) (σ : oSt) (h : P σ) : PIo P (call 90 [va_rf x0, va_rf x1] σ) := hc.2.2.2.2.2.2.2.2.2.2.2.2.2.2.2.2.1 x0 x1 σ h
theorem cQoN.c91 {P : oSt → Prop} {call : oCl} (hc : cQoN P call) (x0 : Option Nat) (x1 : Option Nat) (σ : oSt) (h : P σ) : PIo P (call 91 [va_rf x0, va_rf x1] σ) := hc.2.2.2.2.2.2.2.2.2.2.2.2.2.2.2.2.2.1 x0 x1 σ h
theorem cQoN.c92 {P : oSt → Prop} {call : oCl} (hc : cQoN P call) (x0 : Option Nat) (x1 : Int32) (x2 : Int32) (σ : oSt) (h : P σ) : PIo P (call 92 [va_rf x0, .int x1, .int x2] σ) := hc.2.2.2.2.2.2.2.2.2.2.2.2.2.2.2.2.2.2.1 x0 x1 x2 σ h
theorem cQoN.c93 {P : oSt → Prop} {call : oCl} (hc : cQoN P call) (x0 : Option Nat) (x1 : Option Nat) (σ : oSt) (h : P σ) : PIo P (call 93 [va_rf x0, va_rf x1] σ) := hc.2.2.2.2.2.2.2.2.2.2.2.2.2.2.2.2.2.2.2.1 x0 x1 σ h
theorem cQoN.c94 {P : oSt → Prop} {call : oCl} (hc : cQoN P call) (x0 : Option Nat) (x1 : Int64) (σ : oSt) (h : P σ) : PIo P (call 94 [va_rf x0, .long x1] σ) := hc.2.2.2.2.2.2.2.2.2.2.2.2.2.2.2.2.2.2.2.2.1 x0 x1 σ h
theorem cQoN.c95 {P : oSt → Prop} {call : oCl} (hc : cQoN P call) (x0 : Option Nat) (x1 : Option Nat) (σ : oSt) (h : P σ) : PIo P (call 95 [va_rf x0, va_rf x1] σ) := hc.2.2.2.2.2.2.2.2.2.2.2.2.2.2.2.2.2.2.2.2.2.1 x0 x1 σ h
theorem cQoN.c96 {P : oSt → Prop} {call : oCl} (hc : cQoN P call) (x0 : Option Nat) (x1 : Int64) (x2 : Option Nat) (σ : oSt) (h : P σ) : PIo P (call 96 [va_rf x0, .long x1, va_rf x2] σ) := hc.2.2.2.2.2.2.2.2.2.2.2.2.2.2.2.2.2.2.2.2.2.2.1 x0 x1 x2 σ h
theorem cQoN.c97 {P : oSt → Prop} {call : oCl} (hc : cQoN P call) (x0 : Option Nat) (x1 : Option Nat) (σ : oSt) (h : P σ) : PIo P (call 97 [va_rf x0, va_rf x1] σ) := hc.2.2.2.2.2.2.2.2.2.2.2.2.2.2.2.2.2.2.2.2.2.2.2.1 x0 x1 σ h
theorem cQoN.c98 {P : oSt → Prop} {call : oCl} (hc : cQoN P call) (x0 : Option Nat) (x1 : Option Nat) (σ : oSt) (h : P σ) : PIo P (call 98 [va_rf x0, va_rf x1] σ) := hc.2.2.2.2.2.2.2.2.2.2.2.2.2.2.2.2.2.2.2.2.2.2.2.2.1 x0 x1 σ h
theorem cQoN.c99 {P : oSt → Prop} {call : oCl} (hc : cQoN P call) (x0 : Option Nat) (x1 : Option Nat) (σ : oSt) (h : P σ) : PIo P (call 99 [va_rf x0, va_rf x1] σ) := hc.2.2.2.2.2.2.2.2.2.2.2.2.2.2.2.2.2.2.2.2.2.2.2.2.2.1 x0 x1 σ h
theorem cQoN.c100 {P : oSt → Prop} {call : oCl} (hc : cQoN P call) (x0 : Option Nat) (σ : oSt) (h : P σ) : PIo P (call 100 [va_rf x0] σ) := hc.2.2.2.2.2.2.2.2.2.2.2.2.2.2.2.2.2.2.2.2.2.2.2.2.2.2.1 x0 σ h
theorem cQoN.c101 {P : oSt → Prop} {call : oCl} (hc : cQoN P call) (x0 : Option Nat) (x1 : Int32) (σ : oSt) (h : P σ) : PIo P (call 101 [va_rf x0, .int x1] σ) := hc.2.2.2.2.2.2.2.2.2.2.2.2.2.2.2.2.2.2.2.2.2.2.2.2.2.2.2.1 x0 x1 σ h
theorem cQoN.c174 {P : oSt → Prop} {call : oCl} (hc : cQoN P call) (x0 : Option Nat) (x1 : Int32) (σ : oSt) (h : P σ) : PIo P (call 174 [va_rf x0, .int x1] σ) := hc.2.2.2.2.2.2.2.2.2.2.2.2.2.2.2.2.2.2.2.2.2.2.2.2.2.2.2.2.1 x0 x1 σ h
theorem cQoN.c175 {P : oSt → Prop} {call : oCl} (hc : cQoN P call) (x0 : Option Nat) (x1 : Int32) (x2 : Int32) (x3 : Int32) (x4 : Int32) (x5 : Int32) (σ : oSt) (h : P σ) : PIo P (call 175 [va_rf x0, .int x1, .int x2, .int x3, .int x4, .int x5] σ) := hc.2.2.2.2.2.2.2.2.2.2.2.2.2.2.2.2.2.2.2.2.2.2.2.2.2.2.2.2.2.1 x0 x1 x2 x3 x4 x5 σ h
theorem cQoN.c176 {P : oSt → Prop} {call : oCl} (hc : cQoN P call) (x0 : Option Nat) (x1 : Int32) (σ : oSt) (h : P σ) : PIo P (call 176 [va_rf x0, .int x1] σ) := hc.2.2.2.2.2.2.2.2.2.2.2.2.2.2.2.2.2.2.2.2.2.2.2.2.2.2.2.2.2.2.1 x0 x1 σ h
theorem cQoN.c180 {P : oSt → Prop} {call : oCl} (hc : cQoN P call) (x0 : Option Nat) (σ : oSt) (h : P σ) : PIo P (call 180 [va_rf x0] σ) := hc.2.2.2.2.2.2.2.2.2.2.2.2.2.2.2.2.2.2.2.2.2.2.2.2.2.2.2.2.2.2.2.1 x0 σ h
theorem cQoN.c190 {P : oSt → Prop} {call : oCl} (hc : cQoN P call) (x0 : Option Nat) (x1 : Int32) (σ : oSt) (h : P σ) : PIo P (call 190 [va_rf x0, .int x1] σ) := hc.2.2.2.2.2.2.2.2.2.2.2.2.2.2.2.2.2.2.2.2.2.2.2.2.2.2.2.2.2.2.2.2.1 x0 x1 σ h
theorem cQoN.c191 {P : oSt → Prop} {call : oCl} (hc : cQoN P call) (x0 : Option Nat) (x1 : Int32) (x2 : Int32) (σ : oSt) (h : P σ) : PIo P (call 191 [va_rf x0, .int x1, .int x2] σ) := hc.2.2.2.2.2.2.2.2.2.2.2.2.2.2.2.2.2.2.2.2.2.2.2.2.2.2.2.2.2.2.2.2.2.1 x0 x1 x2 σ h
theorem cQoN.c192 {P : oSt → Prop} {call : oCl} (hc : cQoN P call) (x0 : Option Nat) (x1 : Int32) (x2 : Int32) (x3 : Int32) (σ : oSt) (h : P σ) : PIo P (call 192 [va_rf x0, .int x1, .int x2, .int x3] σ) := hc.2.2.2.2.2.2.2.2.2.2.2.2.2.2.2.2.2.2.2.2.2.2.2.2.2.2.2.2.2.2.2.2.2.2.1 x0 x1 x2 x3 σ h
theorem cQoN.c193 {P : oSt → Prop} {call : oCl} (hc : cQoN P call) (x0 : Option Nat) (x1 : Int32) (σ : oSt) (h : P σ) : PIo P (call 193 [va_rf x0, .int x1] σ) := hc.2.2.2.2.2.2.2.2.2.2.2.2.2.2.2.2.2.2.2.2.2.2.2.2.2.2.2.2.2.2.2.2.2.2.2.1 x0 x1 σ h
theorem cQoN.c194 {P : oSt → Prop} {call : oCl} (hc : cQoN P call) (x0 : Option Nat) (σ : oSt) (h : P σ) : PIo P (call 194 [va_rf x0] σ) := hc.2.2.2.2.2.2.2.2.2.2.2.2.2.2.2.2.2.2.2.2.2.2.2.2.2.2.2.2.2.2.2.2.2.2.2.2.1 x0 σ h
theorem cQoN.c195 {P : oSt → Prop} {call : oCl} (hc : cQoN P call) (x0 : Option Nat) (σ : oSt) (h : P σ) : PIo P (call 195 [va_rf x0] σ) := hc.2.2.2.2.2.2.2.2.2.2.2.2.2.2.2.2.2.2.2.2.2.2.2.2.2.2.2.2.2.2.2.2.2.2.2.2.2.1 x0 σ h
theorem cQoN.c205 {P : oSt → Prop} {call : oCl} (hc : cQoN P call) (x0 : Int32) (x1 : Int32) (σ : oSt) (h : P σ) : PIo P (call 205 [.int x0, .int x1] σ) := hc.2.2.2.2.2.2.2.2.2.2.2.2.2.2.2.2.2.2.2.2.2.2.2.2.2.2.2.2.2.2.2.2.2.2.2.2.2.2.1 x0 x1 σ h
theorem cQoN.c206 {P : oSt → Prop} {call : oCl} (hc : cQoN P call) (x0 : Int32) (x1 : Int32) (x2 : Option Nat) (σ : oSt) (h : P σ) : PIo P (call 206 [.int x0, .int x1, va_rf x2] σ) := hc.2.2.2.2.2.2.2.2.2.2.2.2.2.2.2.2.2.2.2.2.2.2.2.2.2.2.2.2.2.2.2.2.2.2.2.2.2.2.2.1 x0 x1 x2 σ h
theorem cQoN.c234 {P : oSt → Prop} {call : oCl} (hc : cQoN P call) (x0 : Option Nat) (x1 : Int32) (σ : oSt) (h : P σ) : PIo P (call 234 [va_rf x0, .int x1] σ) := hc.2.2.2.2.2.2.2.2.2.2.2.2.2.2.2.2.2.2.2.2.2.2.2.2.2.2.2.2.2.2.2.2.2.2.2.2.2.2.2.2.1 x0 x1 σ h
theorem cQoN.c235 {P : oSt → Prop} {call : oCl} (hc : cQoN P call) (x0 : Option Nat) (x1 : Int32) (σ : oSt) (h : P σ) : PIo P (call 235 [va_rf x0, .int x1] σ) := hc.2.2.2.2.2.2.2.2.2.2.2.2.2.2.2.2.2.2.2.2.2.2.2.2.2.2.2.2.2.2.2.2.2.2.2.2.2.2.2.2.2.1 x0 x1 σ h
theorem cQoN.c236 {P : oSt → Prop} {call : oCl} (hc : cQoN P call) (x0 : Option Nat) (σ : oSt) (h : P σ) : PIo P (call 236 [va_rf x0] σ) := hc.2.2.2.2.2.2.2.2.2.2.2.2.2.2.2.2.2.2.2.2.2.2.2.2.2.2.2.2.2.2.2.2.2.2.2.2.2.2.2.2.2.2.1 x0 σ h
theorem cQoN.c239 {P : oSt → Prop} {call : oCl} (hc : cQoN P call) (x0 : Option Nat) (x1 : Int32) (σ : oSt) (h : P σ) : PIo P (call 239 [va_rf x0, .int x1] σ) := hc.2.2.2.2.2.2.2.2.2.2.2.2.2.2.2.2.2.2.2.2.2.2.2.2.2.2.2.2.2.2.2.2.2.2.2.2.2.2.2.2.2.2.2.1 x0 x1 σ h
theorem cQoN.c242 {P : oSt → Prop} {call : oCl} (hc : cQoN P call) (x0 : Option Nat) (x1 : Int32) (σ : oSt) (h : P σ) : PIo P (call 242 [va_rf x0, .int x1] σ) := hc.2.2.2.2.2.2.2.2.2.2.2.2.2.2.2.2.2.2.2.2.2.2.2.2.2.2.2.2.2.2.2.2.2.2.2.2.2.2.2.2.2.2.2.2.1 x0 x1 σ h
theorem cQoN.c243 {P : oSt → Prop} {call : oCl} (hc : cQoN P call) (x0 : Int64) (x1 : Int64) (σ : oSt) (h : P σ) : PIo P (call 243 [.long x0, .long x1] σ) := hc.2.2.2.2.2.2.2.2.2.2.2.2.2.2.2.2.2.2.2.2.2.2.2.2.2.2.2.2.2.2.2.2.2.2.2.2.2.2.2.2.2.2.2.2.2.1 x0 x1 σ h
theorem cQoN.c244 {P : oSt → Prop} {call : oCl} (hc : cQoN P call) (x0 : Int64) (x1 : Int64) (σ : oSt) (h : P σ) : PIo P (call 244 [.long x0, .long x1] σ) := hc.2.2.2.2.2.2.2.2.2.2.2.2.2.2.2.2.2.2.2.2.2.2.2.2.2.2.2.2.2.2.2.2.2.2.2.2.2.2.2.2.2.2.2.2.2.2 x0 x1 σ h
section OPGN
variable {P : oSt → Prop} {n : Nat} {call : oCl} {κ : oKv}
theorem pioN_oj_X3_set_72  {t0 : Option Nat} {t1 : Int32} {t2 : Int64} {σ : oSt} (hP : iKptN P) (hc : cQoN P call)  (h : P σ) : PIo P (oj_X3_set_72 n call κ  t0 t1 t2 σ) := by
  unfold oj_X3_set_72
  repeat' (with_reducible (first | assumption | (refine PIoN_gd ?_) | (refine PIoN_pf hP ?_ (by decide) (by with_unfolding_all rfl) (fun _ _ => ?_)) | (refine PIoN_si hP ?_ (fun _ _ => ?_)) | (refine PIoN_sj hP ?_ (fun _ _ => ?_)) | (refine PIoN_sr hP ?_ (fun _ _ => ?_)) | (refine PIoN_cy hP ?_ (fun _ _ => ?_)) | (refine PIoN_bn (fun _ => ?_)) | (refine PIoN_na hP ?_ (fun _ _ => ?_)) | (refine PIoN_no hP ?_ (fun _ _ => ?_)) | (refine PIoN_ite ?_ ?_) | (refine PIoN_some ?_) | (exact PIoN_none)))
theorem pioN_oj_X3_set_70  {x3 : Int32} {t0 : Option Nat} {t1 : Int32} {σ : oSt} (hP : iKptN P) (hc : cQoN P call)  (h : P σ) : PIo P (oj_X3_set_70 n call κ  x3 t0 t1 σ) := by
  unfold oj_X3_set_70
  repeat' (with_reducible (first | assumption | (refine PIoN_gd ?_) | (refine PIoN_pf hP ?_ (by decide) (by with_unfolding_all rfl) (fun _ _ => ?_)) | (refine PIoN_si hP ?_ (fun _ _ => ?_)) | (refine PIoN_sj hP ?_ (fun _ _ => ?_)) | (refine PIoN_sr hP ?_ (fun _ _ => ?_)) | (refine PIoN_cy hP ?_ (fun _ _ => ?_)) | (refine PIoN_bn (fun _ => ?_)) | (refine PIoN_na hP ?_ (fun _ _ => ?_)) | (refine PIoN_no hP ?_ (fun _ _ => ?_)) | (refine PIoN_ite ?_ ?_) | (refine PIoN_some ?_) | (exact PIoN_none) | (refine pioN_oj_X3_set_72 hP hc  ?_)))
theorem pioN_oj_X3_set_50  {x0 : Option Nat} {x1 : Int32} {x2 : Int32} {x3 : Int32} {σ : oSt} (hP : iKptN P) (hc : cQoN P call)  (h : P σ) : PIo P (oj_X3_set_50 n call κ  x0 x1 x2 x3 σ) := by
  unfold oj_X3_set_50
  repeat' (with_reducible (first | assumption | (refine PIoN_gd ?_) | (refine PIoN_pf hP ?_ (by decide) (by with_unfolding_all rfl) (fun _ _ => ?_)) | (refine PIoN_si hP ?_ (fun _ _ => ?_)) | (refine PIoN_sj hP ?_ (fun _ _ => ?_)) | (refine PIoN_sr hP ?_ (fun _ _ => ?_)) | (refine PIoN_cy hP ?_ (fun _ _ => ?_)) | (refine PIoN_bn (fun _ => ?_)) | (refine PIoN_na hP ?_ (fun _ _ => ?_)) | (refine PIoN_no hP ?_ (fun _ _ => ?_)) | (refine PIoN_ite ?_ ?_) | (refine PIoN_some ?_) | (exact PIoN_none) | (refine pioN_oj_X3_set_70 hP hc  ?_) | (refine pioN_oj_X3_set_72 hP hc  ?_)))
theorem pioN_oj_X3_set_40  {x0 : Option Nat} {x1 : Int32} {x2 : Int32} {x3 : Int32} {σ : oSt} (hP : iKptN P) (hc : cQoN P call)  (h : P σ) : PIo P (oj_X3_set_40 n call κ  x0 x1 x2 x3 σ) := by
  unfold oj_X3_set_40
  repeat' (with_reducible (first | assumption | (refine PIoN_gd ?_) | (refine PIoN_pf hP ?_ (by decide) (by with_unfolding_all rfl) (fun _ _ => ?_)) | (refine PIoN_si hP ?_ (fun _ _ => ?_)) | (refine PIoN_sj hP ?_ (fun _ _ => ?_)) | (refine PIoN_sr hP ?_ (fun _ _ => ?_)) | (refine PIoN_cy hP ?_ (fun _ _ => ?_)) | (refine PIoN_bn (fun _ => ?_)) | (refine PIoN_na hP ?_ (fun _ _ => ?_)) | (refine PIoN_no hP ?_ (fun _ _ => ?_)) | (refine PIoN_ite ?_ ?_) | (refine PIoN_some ?_) | (exact PIoN_none) | (refine PIoN_cv (cQoN.c242 hc _ _ _ ?_) (fun _ _ => ?_)) | (refine pioN_oj_X3_set_50 hP hc  ?_)))
theorem pioN_ob_X3_set  {x0 : Option Nat} {x1 : Int32} {x2 : Int32} {x3 : Int32} {σ : oSt} (hP : iKptN P) (hc : cQoN P call)  (h : P σ) : PIo P (ob_X3_set n call κ  x0 x1 x2 x3 σ) := by
  unfold ob_X3_set
  repeat' (with_reducible (first | assumption | (refine PIoN_gd ?_) | (refine PIoN_pf hP ?_ (by decide) (by with_unfolding_all rfl) (fun _ _ => ?_)) | (refine PIoN_si hP ?_ (fun _ _ => ?_)) | (refine PIoN_sj hP ?_ (fun _ _ => ?_)) | (refine PIoN_sr hP ?_ (fun _ _ => ?_)) | (refine PIoN_cy hP ?_ (fun _ _ => ?_)) | (refine PIoN_bn (fun _ => ?_)) | (refine PIoN_na hP ?_ (fun _ _ => ?_)) | (refine PIoN_no hP ?_ (fun _ _ => ?_)) | (refine PIoN_ite ?_ ?_) | (refine PIoN_some ?_) | (exact PIoN_none) | (refine pioN_oj_X3_set_40 hP hc  ?_) | (refine pioN_oj_X3_set_50 hP hc  ?_)))
theorem pioN_ob_X3_setElement  {x0 : Option Nat} {x1 : Int32} {x2 : Int32} {x3 : Int32} {σ : oSt} (hP : iKptN P) (hc : cQoN P call)  (h : P σ) : PIo P (ob_X3_setElement n call κ  x0 x1 x2 x3 σ) := by
  unfold ob_X3_setElement
  repeat' (with_reducible (first | assumption | (refine PIoN_gd ?_) | (refine PIoN_pf hP ?_ (by decide) (by with_unfolding_all rfl) (fun _ _ => ?_)) | (refine PIoN_si hP ?_ (fun _ _ => ?_)) | (refine PIoN_sj hP ?_ (fun _ _ => ?_)) | (refine PIoN_sr hP ?_ (fun _ _ => ?_)) | (refine PIoN_cy hP ?_ (fun _ _ => ?_)) | (refine PIoN_bn (fun _ => ?_)) | (refine PIoN_na hP ?_ (fun _ _ => ?_)) | (refine PIoN_no hP ?_ (fun _ _ => ?_)) | (refine PIoN_ite ?_ ?_) | (refine PIoN_some ?_) | (exact PIoN_none)))
theorem pioN_oj_X3_room_33  {x0 : Option Nat} {x1 : Int32} {σ : oSt} (hP : iKptN P) (hc : cQoN P call)  (h : P σ) : PIo P (oj_X3_room_33 n call κ  x0 x1 σ) := by
  unfold oj_X3_room_33
  repeat' (with_reducible (first | assumption | (refine PIoN_gd ?_) | (refine PIoN_pf hP ?_ (by decide) (by with_unfolding_all rfl) (fun _ _ => ?_)) | (refine PIoN_si hP ?_ (fun _ _ => ?_)) | (refine PIoN_sj hP ?_ (fun _ _ => ?_)) | (refine PIoN_sr hP ?_ (fun _ _ => ?_)) | (refine PIoN_cy hP ?_ (fun _ _ => ?_)) | (refine PIoN_bn (fun _ => ?_)) | (refine PIoN_na hP ?_ (fun _ _ => ?_)) | (refine PIoN_no hP ?_ (fun _ _ => ?_)) | (refine PIoN_ite ?_ ?_) | (refine PIoN_some ?_) | (exact PIoN_none)))
theorem pioN_ob_X3_room  {x0 : Option Nat} {x1 : Int32} {σ : oSt} (hP : iKptN P) (hc : cQoN P call)  (h : P σ) : PIo P (ob_X3_room n call κ  x0 x1 σ) := by
  unfold ob_X3_room
  repeat' (with_reducible (first | assumption | (refine PIoN_gd ?_) | (refine PIoN_pf hP ?_ (by decide) (by with_unfolding_all rfl) (fun _ _ => ?_)) | (refine PIoN_si hP ?_ (fun _ _ => ?_)) | (refine PIoN_sj hP ?_ (fun _ _ => ?_)) | (refine PIoN_sr hP ?_ (fun _ _ => ?_)) | (refine PIoN_cy hP ?_ (fun _ _ => ?_)) | (refine PIoN_bn (fun _ => ?_)) | (refine PIoN_na hP ?_ (fun _ _ => ?_)) | (refine PIoN_no hP ?_ (fun _ _ => ?_)) | (refine PIoN_ite ?_ ?_) | (refine PIoN_some ?_) | (exact PIoN_none) | (refine PIoN_rn (cQoN.c239 hc _ _ _ ?_) (fun _ _ _ => ?_)) | (refine pioN_oj_X3_room_33 hP hc  ?_)))
theorem pioN_ol_X3_array_18  (hP : iKptN P) (hc : cQoN P call)  : ∀ (t : Nat) (x0 : Option Nat) (x1 : Int32) (x2 : Int32) (x3 : Int32) (σ : oSt), P σ → PIo P (ol_X3_array_18 n call κ  t x0 x1 x2 x3 σ) := by
  intro t
  induction t with
  | zero => intros; exact PIoN_none
  | succ t ih =>
    intro x0 x1 x2 x3 σ h
    rw [ol_X3_array_18]
    repeat' (with_reducible (first | assumption | (refine PIoN_gd ?_) | (refine PIoN_pf hP ?_ (by decide) (by with_unfolding_all rfl) (fun _ _ => ?_)) | (refine PIoN_si hP ?_ (fun _ _ => ?_)) | (refine PIoN_sj hP ?_ (fun _ _ => ?_)) | (refine PIoN_sr hP ?_ (fun _ _ => ?_)) | (refine PIoN_cy hP ?_ (fun _ _ => ?_)) | (refine PIoN_bn (fun _ => ?_)) | (refine PIoN_na hP ?_ (fun _ _ => ?_)) | (refine PIoN_no hP ?_ (fun _ _ => ?_)) | (refine PIoN_ite ?_ ?_) | (refine PIoN_some ?_) | (exact PIoN_none) | (refine ih _ _ _ _ _ ?_)))
theorem pioN_ob_X3_array  {x0 : Option Nat} {x1 : Int32} {σ : oSt} (hP : iKptN P) (hc : cQoN P call)  (h : P σ) : PIo P (ob_X3_array n call κ  x0 x1 σ) := by
  unfold ob_X3_array
  repeat' (with_reducible (first | assumption | (refine PIoN_gd ?_) | (refine PIoN_pf hP ?_ (by decide) (by with_unfolding_all rfl) (fun _ _ => ?_)) | (refine PIoN_si hP ?_ (fun _ _ => ?_)) | (refine PIoN_sj hP ?_ (fun _ _ => ?_)) | (refine PIoN_sr hP ?_ (fun _ _ => ?_)) | (refine PIoN_cy hP ?_ (fun _ _ => ?_)) | (refine PIoN_bn (fun _ => ?_)) | (refine PIoN_na hP ?_ (fun _ _ => ?_)) | (refine PIoN_no hP ?_ (fun _ _ => ?_)) | (refine PIoN_ite ?_ ?_) | (refine PIoN_some ?_) | (exact PIoN_none) | (refine PIoN_in (cQoN.c76 hc _ _ _ ?_) (fun _ _ _ => ?_)) | (refine pioN_ol_X3_array_18 hP hc  _ _ _ _ _ _ ?_)))
theorem pioN_oj_X3_givenArray_60  {x2 : Int32} {σ : oSt} (hP : iKptN P) (hc : cQoN P call)  (h : P σ) : PIo P (oj_X3_givenArray_60 n call κ  x2 σ) := by
  unfold oj_X3_givenArray_60
  repeat' (with_reducible (first | assumption | (refine PIoN_gd ?_) | (refine PIoN_pf hP ?_ (by decide) (by with_unfolding_all rfl) (fun _ _ => ?_)) | (refine PIoN_si hP ?_ (fun _ _ => ?_)) | (refine PIoN_sj hP ?_ (fun _ _ => ?_)) | (refine PIoN_sr hP ?_ (fun _ _ => ?_)) | (refine PIoN_cy hP ?_ (fun _ _ => ?_)) | (refine PIoN_bn (fun _ => ?_)) | (refine PIoN_na hP ?_ (fun _ _ => ?_)) | (refine PIoN_no hP ?_ (fun _ _ => ?_)) | (refine PIoN_ite ?_ ?_) | (refine PIoN_some ?_) | (exact PIoN_none)))
theorem pioN_ol_X3_givenArray_14  (hP : iKptN P) (hc : cQoN P call)  : ∀ (t : Nat) (x0 : Option Nat) (x1 : Int32) (x2 : Int32) (x3 : Int32) (σ : oSt), P σ → PIo P (ol_X3_givenArray_14 n call κ  t x0 x1 x2 x3 σ) := by
  intro t
  induction t with
  | zero => intros; exact PIoN_none
  | succ t ih =>
    intro x0 x1 x2 x3 σ h
    rw [ol_X3_givenArray_14]
    repeat' (with_reducible (first | assumption | (refine PIoN_gd ?_) | (refine PIoN_pf hP ?_ (by decide) (by with_unfolding_all rfl) (fun _ _ => ?_)) | (refine PIoN_si hP ?_ (fun _ _ => ?_)) | (refine PIoN_sj hP ?_ (fun _ _ => ?_)) | (refine PIoN_sr hP ?_ (fun _ _ => ?_)) | (refine PIoN_cy hP ?_ (fun _ _ => ?_)) | (refine PIoN_bn (fun _ => ?_)) | (refine PIoN_na hP ?_ (fun _ _ => ?_)) | (refine PIoN_no hP ?_ (fun _ _ => ?_)) | (refine PIoN_ite ?_ ?_) | (refine PIoN_some ?_) | (exact PIoN_none) | (refine pioN_oj_X3_givenArray_60 hP hc  ?_) | (refine ih _ _ _ _ _ ?_)))
theorem pioN_ob_X3_givenArray  {x0 : Option Nat} {x1 : Int32} {σ : oSt} (hP : iKptN P) (hc : cQoN P call)  (h : P σ) : PIo P (ob_X3_givenArray n call κ  x0 x1 σ) := by
  unfold ob_X3_givenArray
  repeat' (with_reducible (first | assumption | (refine PIoN_gd ?_) | (refine PIoN_pf hP ?_ (by decide) (by with_unfolding_all rfl) (fun _ _ => ?_)) | (refine PIoN_si hP ?_ (fun _ _ => ?_)) | (refine PIoN_sj hP ?_ (fun _ _ => ?_)) | (refine PIoN_sr hP ?_ (fun _ _ => ?_)) | (refine PIoN_cy hP ?_ (fun _ _ => ?_)) | (refine PIoN_bn (fun _ => ?_)) | (refine PIoN_na hP ?_ (fun _ _ => ?_)) | (refine PIoN_no hP ?_ (fun _ _ => ?_)) | (refine PIoN_ite ?_ ?_) | (refine PIoN_some ?_) | (exact PIoN_none) | (refine PIoN_in (cQoN.c77 hc _ _ _ ?_) (fun _ _ _ => ?_)) | (refine pioN_ol_X3_givenArray_14 hP hc  _ _ _ _ _ _ ?_)))
theorem pioN_ob_X3_pair  {x0 : Option Nat} {x1 : Int64} {x3 : Int32} {σ : oSt} (hP : iKptN P) (hc : cQoN P call)  (h : P σ) : PIo P (ob_X3_pair n call κ  x0 x1 x3 σ) := by
  unfold ob_X3_pair
  repeat' (with_reducible (first | assumption | (refine PIoN_gd ?_) | (refine PIoN_pf hP ?_ (by decide) (by with_unfolding_all rfl) (fun _ _ => ?_)) | (refine PIoN_si hP ?_ (fun _ _ => ?_)) | (refine PIoN_sj hP ?_ (fun _ _ => ?_)) | (refine PIoN_sr hP ?_ (fun _ _ => ?_)) | (refine PIoN_cy hP ?_ (fun _ _ => ?_)) | (refine PIoN_bn (fun _ => ?_)) | (refine PIoN_na hP ?_ (fun _ _ => ?_)) | (refine PIoN_no hP ?_ (fun _ _ => ?_)) | (refine PIoN_ite ?_ ?_) | (refine PIoN_some ?_) | (exact PIoN_none) | (refine PIoN_in (cQoN.c76 hc _ _ _ ?_) (fun _ _ _ => ?_))))
theorem pioN_oj_X3_begin_92 {k32 : Option Nat → Int32 → oSt → oRs} {x0 : Option Nat} {x1 : Int32} {t0 : Option Nat} {t1 : Option Nat} {t2 : Int64} {σ : oSt} (hP : iKptN P) (hc : cQoN P call) (hk32 : ∀ (a0 : Option Nat) (a1 : Int32), ∀ σ, P σ → PIo P (k32 a0 a1 σ)) (h : P σ) : PIo P (oj_X3_begin_92 n call κ k32 x0 x1 t0 t1 t2 σ) := by
  unfold oj_X3_begin_92
  repeat' (with_reducible (first | assumption | (refine PIoN_gd ?_) | (refine PIoN_pf hP ?_ (by decide) (by with_unfolding_all rfl) (fun _ _ => ?_)) | (refine PIoN_si hP ?_ (fun _ _ => ?_)) | (refine PIoN_sj hP ?_ (fun _ _ => ?_)) | (refine PIoN_sr hP ?_ (fun _ _ => ?_)) | (refine PIoN_cy hP ?_ (fun _ _ => ?_)) | (refine PIoN_bn (fun _ => ?_)) | (refine PIoN_na hP ?_ (fun _ _ => ?_)) | (refine PIoN_no hP ?_ (fun _ _ => ?_)) | (refine PIoN_ite ?_ ?_) | (refine PIoN_some ?_) | (exact PIoN_none) | (refine PIoN_in (cQoN.c79 hc _ _ _ _ ?_) (fun _ _ _ => ?_)) | (refine hk32 _ _ _ ?_)))
theorem pioN_oj_X3_begin_71 {k32 : Option Nat → Int32 → oSt → oRs} {x0 : Option Nat} {x1 : Int32} {t0 : Int32} {σ : oSt} (hP : iKptN P) (hc : cQoN P call) (hk32 : ∀ (a0 : Option Nat) (a1 : Int32), ∀ σ, P σ → PIo P (k32 a0 a1 σ)) (h : P σ) : PIo P (oj_X3_begin_71 n call κ k32 x0 x1 t0 σ) := by
  unfold oj_X3_begin_71
  repeat' (with_reducible (first | assumption | (refine PIoN_gd ?_) | (refine PIoN_pf hP ?_ (by decide) (by with_unfolding_all rfl) (fun _ _ => ?_)) | (refine PIoN_si hP ?_ (fun _ _ => ?_)) | (refine PIoN_sj hP ?_ (fun _ _ => ?_)) | (refine PIoN_sr hP ?_ (fun _ _ => ?_)) | (refine PIoN_cy hP ?_ (fun _ _ => ?_)) | (refine PIoN_bn (fun _ => ?_)) | (refine PIoN_na hP ?_ (fun _ _ => ?_)) | (refine PIoN_no hP ?_ (fun _ _ => ?_)) | (refine PIoN_ite ?_ ?_) | (refine PIoN_some ?_) | (exact PIoN_none) | (refine PIoN_ln (cQoN.c78 hc _ _ _ ?_) (fun _ _ _ => ?_)) | (refine pioN_oj_X3_begin_92 hP hc hk32 ?_) | (refine hk32 _ _ _ ?_)))
theorem pioN_ol_X3_begin_32  (hP : iKptN P) (hc : cQoN P call)  : ∀ (t : Nat) (x0 : Option Nat) (x1 : Int32) (σ : oSt), P σ → PIo P (ol_X3_begin_32 n call κ  t x0 x1 σ) := by
  intro t
  induction t with
  | zero => intros; exact PIoN_none
  | succ t ih =>
    intro x0 x1 σ h
    rw [ol_X3_begin_32]
    repeat' (with_reducible (first | assumption | (refine PIoN_gd ?_) | (refine PIoN_pf hP ?_ (by decide) (by with_unfolding_all rfl) (fun _ _ => ?_)) | (refine PIoN_si hP ?_ (fun _ _ => ?_)) | (refine PIoN_sj hP ?_ (fun _ _ => ?_)) | (refine PIoN_sr hP ?_ (fun _ _ => ?_)) | (refine PIoN_cy hP ?_ (fun _ _ => ?_)) | (refine PIoN_bn (fun _ => ?_)) | (refine PIoN_na hP ?_ (fun _ _ => ?_)) | (refine PIoN_no hP ?_ (fun _ _ => ?_)) | (refine PIoN_ite ?_ ?_) | (refine PIoN_some ?_) | (exact PIoN_none) | (refine PIoN_rn (cQoN.c234 hc _ _ _ ?_) (fun _ _ _ => ?_)) | (refine pioN_oj_X3_begin_71 hP hc ih ?_)))
theorem pioN_ob_X3_begin  {x0 : Option Nat} {σ : oSt} (hP : iKptN P) (hc : cQoN P call)  (h : P σ) : PIo P (ob_X3_begin n call κ  x0 σ) := by
  unfold ob_X3_begin
  repeat' (with_reducible (first | assumption | (refine PIoN_gd ?_) | (refine PIoN_pf hP ?_ (by decide) (by with_unfolding_all rfl) (fun _ _ => ?_)) | (refine PIoN_si hP ?_ (fun _ _ => ?_)) | (refine PIoN_sj hP ?_ (fun _ _ => ?_)) | (refine PIoN_sr hP ?_ (fun _ _ => ?_)) | (refine PIoN_cy hP ?_ (fun _ _ => ?_)) | (refine PIoN_bn (fun _ => ?_)) | (refine PIoN_na hP ?_ (fun _ _ => ?_)) | (refine PIoN_no hP ?_ (fun _ _ => ?_)) | (refine PIoN_ite ?_ ?_) | (refine PIoN_some ?_) | (exact PIoN_none) | (refine pioN_ol_X3_begin_32 hP hc  _ _ _ _ ?_)))
theorem pioN_ob_X3_await  {x0 : Option Nat} {x1 : Option Nat} {x2 : Int32} {x3 : Int32} {σ : oSt} (hP : iKptN P) (hc : cQoN P call)  (h : P σ) : PIo P (ob_X3_await n call κ  x0 x1 x2 x3 σ) := by
  unfold ob_X3_await
  repeat' (with_reducible (first | assumption | (refine PIoN_gd ?_) | (refine PIoN_pf hP ?_ (by decide) (by with_unfolding_all rfl) (fun _ _ => ?_)) | (refine PIoN_si hP ?_ (fun _ _ => ?_)) | (refine PIoN_sj hP ?_ (fun _ _ => ?_)) | (refine PIoN_sr hP ?_ (fun _ _ => ?_)) | (refine PIoN_cy hP ?_ (fun _ _ => ?_)) | (refine PIoN_bn (fun _ => ?_)) | (refine PIoN_na hP ?_ (fun _ _ => ?_)) | (refine PIoN_no hP ?_ (fun _ _ => ?_)) | (refine PIoN_ite ?_ ?_) | (refine PIoN_some ?_) | (exact PIoN_none)))
theorem pioN_ob_X3_triple  {x0 : Option Nat} {x1 : Int64} {x3 : Int64} {x5 : Int64} {σ : oSt} (hP : iKptN P) (hc : cQoN P call)  (h : P σ) : PIo P (ob_X3_triple n call κ  x0 x1 x3 x5 σ) := by
  unfold ob_X3_triple
  repeat' (with_reducible (first | assumption | (refine PIoN_gd ?_) | (refine PIoN_pf hP ?_ (by decide) (by with_unfolding_all rfl) (fun _ _ => ?_)) | (refine PIoN_si hP ?_ (fun _ _ => ?_)) | (refine PIoN_sj hP ?_ (fun _ _ => ?_)) | (refine PIoN_sr hP ?_ (fun _ _ => ?_)) | (refine PIoN_cy hP ?_ (fun _ _ => ?_)) | (refine PIoN_bn (fun _ => ?_)) | (refine PIoN_na hP ?_ (fun _ _ => ?_)) | (refine PIoN_no hP ?_ (fun _ _ => ?_)) | (refine PIoN_ite ?_ ?_) | (refine PIoN_some ?_) | (exact PIoN_none) | (refine PIoN_in (cQoN.c76 hc _ _ _ ?_) (fun _ _ _ => ?_))))
theorem pioN_ol_X3_valueOf_13  (hP : iKptN P) (hc : cQoN P call)  : ∀ (t : Nat) (x0 : Option Nat) (x1 : Int32) (x2 : Int32) (x3 : Int32) (σ : oSt), P σ → PIo P (ol_X3_valueOf_13 n call κ  t x0 x1 x2 x3 σ) := by
  intro t
  induction t with
  | zero => intros; exact PIoN_none
  | succ t ih =>
    intro x0 x1 x2 x3 σ h
    rw [ol_X3_valueOf_13]
    repeat' (with_reducible (first | assumption | (refine PIoN_gd ?_) | (refine PIoN_pf hP ?_ (by decide) (by with_unfolding_all rfl) (fun _ _ => ?_)) | (refine PIoN_si hP ?_ (fun _ _ => ?_)) | (refine PIoN_sj hP ?_ (fun _ _ => ?_)) | (refine PIoN_sr hP ?_ (fun _ _ => ?_)) | (refine PIoN_cy hP ?_ (fun _ _ => ?_)) | (refine PIoN_bn (fun _ => ?_)) | (refine PIoN_na hP ?_ (fun _ _ => ?_)) | (refine PIoN_no hP ?_ (fun _ _ => ?_)) | (refine PIoN_ite ?_ ?_) | (refine PIoN_some ?_) | (exact PIoN_none) | (refine ih _ _ _ _ _ ?_)))
theorem pioN_ob_X3_valueOf  {x0 : Option Nat} {x1 : Option Nat} {x2 : Int32} {σ : oSt} (hP : iKptN P) (hc : cQoN P call)  (h : P σ) : PIo P (ob_X3_valueOf n call κ  x0 x1 x2 σ) := by
  unfold ob_X3_valueOf
  repeat' (with_reducible (first | assumption | (refine PIoN_gd ?_) | (refine PIoN_pf hP ?_ (by decide) (by with_unfolding_all rfl) (fun _ _ => ?_)) | (refine PIoN_si hP ?_ (fun _ _ => ?_)) | (refine PIoN_sj hP ?_ (fun _ _ => ?_)) | (refine PIoN_sr hP ?_ (fun _ _ => ?_)) | (refine PIoN_cy hP ?_ (fun _ _ => ?_)) | (refine PIoN_bn (fun _ => ?_)) | (refine PIoN_na hP ?_ (fun _ _ => ?_)) | (refine PIoN_no hP ?_ (fun _ _ => ?_)) | (refine PIoN_ite ?_ ?_) | (refine PIoN_some ?_) | (exact PIoN_none) | (refine pioN_ol_X3_valueOf_13 hP hc  _ _ _ _ _ _ ?_)))
theorem pioN_ob_X3_measure  {x0 : Option Nat} {x1 : Int64} {x3 : Int32} {σ : oSt} (hP : iKptN P) (hc : cQoN P call)  (h : P σ) : PIo P (ob_X3_measure n call κ  x0 x1 x3 σ) := by
  unfold ob_X3_measure
  repeat' (with_reducible (first | assumption | (refine PIoN_gd ?_) | (refine PIoN_pf hP ?_ (by decide) (by with_unfolding_all rfl) (fun _ _ => ?_)) | (refine PIoN_si hP ?_ (fun _ _ => ?_)) | (refine PIoN_sj hP ?_ (fun _ _ => ?_)) | (refine PIoN_sr hP ?_ (fun _ _ => ?_)) | (refine PIoN_cy hP ?_ (fun _ _ => ?_)) | (refine PIoN_bn (fun _ => ?_)) | (refine PIoN_na hP ?_ (fun _ _ => ?_)) | (refine PIoN_no hP ?_ (fun _ _ => ?_)) | (refine PIoN_ite ?_ ?_) | (refine PIoN_some ?_) | (exact PIoN_none)))
theorem pioN_ol_X3_sum_11  (hP : iKptN P) (hc : cQoN P call)  : ∀ (t : Nat) (x0 : Option Nat) (x1 : Option Nat) (x2 : Int64) (x3 : Int32) (σ : oSt), P σ → PIo P (ol_X3_sum_11 n call κ  t x0 x1 x2 x3 σ) := by
  intro t
  induction t with
  | zero => intros; exact PIoN_none
  | succ t ih =>
    intro x0 x1 x2 x3 σ h
    rw [ol_X3_sum_11]
    repeat' (with_reducible (first | assumption | (refine PIoN_gd ?_) | (refine PIoN_pf hP ?_ (by decide) (by with_unfolding_all rfl) (fun _ _ => ?_)) | (refine PIoN_si hP ?_ (fun _ _ => ?_)) | (refine PIoN_sj hP ?_ (fun _ _ => ?_)) | (refine PIoN_sr hP ?_ (fun _ _ => ?_)) | (refine PIoN_cy hP ?_ (fun _ _ => ?_)) | (refine PIoN_bn (fun _ => ?_)) | (refine PIoN_na hP ?_ (fun _ _ => ?_)) | (refine PIoN_no hP ?_ (fun _ _ => ?_)) | (refine PIoN_ite ?_ ?_) | (refine PIoN_some ?_) | (exact PIoN_none) | (refine PIoN_ln (cQoN.c83 hc _ _ _ _ ?_) (fun _ _ _ => ?_)) | (refine PIoN_ln (cQoN.c84 hc _ _ _ _ ?_) (fun _ _ _ => ?_)) | (refine ih _ _ _ _ _ ?_)))
theorem pioN_ob_X3_sum  {x0 : Option Nat} {x1 : Option Nat} {σ : oSt} (hP : iKptN P) (hc : cQoN P call)  (h : P σ) : PIo P (ob_X3_sum n call κ  x0 x1 σ) := by
  unfold ob_X3_sum
  repeat' (with_reducible (first | assumption | (refine PIoN_gd ?_) | (refine PIoN_pf hP ?_ (by decide) (by with_unfolding_all rfl) (fun _ _ => ?_)) | (refine PIoN_si hP ?_ (fun _ _ => ?_)) | (refine PIoN_sj hP ?_ (fun _ _ => ?_)) | (refine PIoN_sr hP ?_ (fun _ _ => ?_)) | (refine PIoN_cy hP ?_ (fun _ _ => ?_)) | (refine PIoN_bn (fun _ => ?_)) | (refine PIoN_na hP ?_ (fun _ _ => ?_)) | (refine PIoN_no hP ?_ (fun _ _ => ?_)) | (refine PIoN_ite ?_ ?_) | (refine PIoN_some ?_) | (exact PIoN_none) | (refine pioN_ol_X3_sum_11 hP hc  _ _ _ _ _ _ ?_)))
theorem pioN_oj_X3_stands_139  {t0 : Int32} {t1 : Int32} {σ : oSt} (hP : iKptN P) (hc : cQoN P call)  (h : P σ) : PIo P (oj_X3_stands_139 n call κ  t0 t1 σ) := by
  unfold oj_X3_stands_139
  repeat' (with_reducible (first | assumption | (refine PIoN_gd ?_) | (refine PIoN_pf hP ?_ (by decide) (by with_unfolding_all rfl) (fun _ _ => ?_)) | (refine PIoN_si hP ?_ (fun _ _ => ?_)) | (refine PIoN_sj hP ?_ (fun _ _ => ?_)) | (refine PIoN_sr hP ?_ (fun _ _ => ?_)) | (refine PIoN_cy hP ?_ (fun _ _ => ?_)) | (refine PIoN_bn (fun _ => ?_)) | (refine PIoN_na hP ?_ (fun _ _ => ?_)) | (refine PIoN_no hP ?_ (fun _ _ => ?_)) | (refine PIoN_ite ?_ ?_) | (refine PIoN_some ?_) | (exact PIoN_none)))
theorem pioN_oj_X3_stands_128  {x3 : Int32} {t0 : Int32} {σ : oSt} (hP : iKptN P) (hc : cQoN P call)  (h : P σ) : PIo P (oj_X3_stands_128 n call κ  x3 t0 σ) := by
  unfold oj_X3_stands_128
  repeat' (with_reducible (first | assumption | (refine PIoN_gd ?_) | (refine PIoN_pf hP ?_ (by decide) (by with_unfolding_all rfl) (fun _ _ => ?_)) | (refine PIoN_si hP ?_ (fun _ _ => ?_)) | (refine PIoN_sj hP ?_ (fun _ _ => ?_)) | (refine PIoN_sr hP ?_ (fun _ _ => ?_)) | (refine PIoN_cy hP ?_ (fun _ _ => ?_)) | (refine PIoN_bn (fun _ => ?_)) | (refine PIoN_na hP ?_ (fun _ _ => ?_)) | (refine PIoN_no hP ?_ (fun _ _ => ?_)) | (refine PIoN_ite ?_ ?_) | (refine PIoN_some ?_) | (exact PIoN_none) | (refine pioN_oj_X3_stands_139 hP hc  ?_)))
theorem pioN_oj_X3_stands_17  {x1 : Int64} {x3 : Int32} {t0 : Int64} {σ : oSt} (hP : iKptN P) (hc : cQoN P call)  (h : P σ) : PIo P (oj_X3_stands_17 n call κ  x1 x3 t0 σ) := by
  unfold oj_X3_stands_17
  repeat' (with_reducible (first | assumption | (refine PIoN_gd ?_) | (refine PIoN_pf hP ?_ (by decide) (by with_unfolding_all rfl) (fun _ _ => ?_)) | (refine PIoN_si hP ?_ (fun _ _ => ?_)) | (refine PIoN_sj hP ?_ (fun _ _ => ?_)) | (refine PIoN_sr hP ?_ (fun _ _ => ?_)) | (refine PIoN_cy hP ?_ (fun _ _ => ?_)) | (refine PIoN_bn (fun _ => ?_)) | (refine PIoN_na hP ?_ (fun _ _ => ?_)) | (refine PIoN_no hP ?_ (fun _ _ => ?_)) | (refine PIoN_ite ?_ ?_) | (refine PIoN_some ?_) | (exact PIoN_none) | (refine pioN_oj_X3_stands_128 hP hc  ?_)))
theorem pioN_ob_X3_stands  {x0 : Option Nat} {x1 : Int64} {x3 : Int32} {x4 : Option Nat} {σ : oSt} (hP : iKptN P) (hc : cQoN P call)  (h : P σ) : PIo P (ob_X3_stands n call κ  x0 x1 x3 x4 σ) := by
  unfold ob_X3_stands
  repeat' (with_reducible (first | assumption | (refine PIoN_gd ?_) | (refine PIoN_pf hP ?_ (by decide) (by with_unfolding_all rfl) (fun _ _ => ?_)) | (refine PIoN_si hP ?_ (fun _ _ => ?_)) | (refine PIoN_sj hP ?_ (fun _ _ => ?_)) | (refine PIoN_sr hP ?_ (fun _ _ => ?_)) | (refine PIoN_cy hP ?_ (fun _ _ => ?_)) | (refine PIoN_bn (fun _ => ?_)) | (refine PIoN_na hP ?_ (fun _ _ => ?_)) | (refine PIoN_no hP ?_ (fun _ _ => ?_)) | (refine PIoN_ite ?_ ?_) | (refine PIoN_some ?_) | (exact PIoN_none) | (refine PIoN_ln (cQoN.c85 hc _ _ _ ?_) (fun _ _ _ => ?_)) | (refine pioN_oj_X3_stands_17 hP hc  ?_)))
theorem pioN_ol_X3_holds_91  (hP : iKptN P) (hc : cQoN P call)  : ∀ (t : Nat) (x0 : Option Nat) (x1 : Option Nat) (x2 : Int32) (x3 : Int32) (σ : oSt), P σ → PIo P (ol_X3_holds_91 n call κ  t x0 x1 x2 x3 σ) := by
  intro t
  induction t with
  | zero => intros; exact PIoN_none
  | succ t ih =>
    intro x0 x1 x2 x3 σ h
    rw [ol_X3_holds_91]
    repeat' (with_reducible (first | assumption | (refine PIoN_gd ?_) | (refine PIoN_pf hP ?_ (by decide) (by with_unfolding_all rfl) (fun _ _ => ?_)) | (refine PIoN_si hP ?_ (fun _ _ => ?_)) | (refine PIoN_sj hP ?_ (fun _ _ => ?_)) | (refine PIoN_sr hP ?_ (fun _ _ => ?_)) | (refine PIoN_cy hP ?_ (fun _ _ => ?_)) | (refine PIoN_bn (fun _ => ?_)) | (refine PIoN_na hP ?_ (fun _ _ => ?_)) | (refine PIoN_no hP ?_ (fun _ _ => ?_)) | (refine PIoN_ite ?_ ?_) | (refine PIoN_some ?_) | (exact PIoN_none) | (refine PIoN_in (cQoN.c87 hc _ _ _ ?_) (fun _ _ _ => ?_)) | (refine PIoN_in (cQoN.c236 hc _ _ ?_) (fun _ _ _ => ?_)) | (refine PIoN_rn (cQoN.c234 hc _ _ _ ?_) (fun _ _ _ => ?_)) | (refine ih _ _ _ _ _ ?_)))
theorem pioN_oj_X3_holds_88  {x0 : Option Nat} {x1 : Option Nat} {t0 : Int32} {σ : oSt} (hP : iKptN P) (hc : cQoN P call)  (h : P σ) : PIo P (oj_X3_holds_88 n call κ  x0 x1 t0 σ) := by
  unfold oj_X3_holds_88
  repeat' (with_reducible (first | assumption | (refine PIoN_gd ?_) | (refine PIoN_pf hP ?_ (by decide) (by with_unfolding_all rfl) (fun _ _ => ?_)) | (refine PIoN_si hP ?_ (fun _ _ => ?_)) | (refine PIoN_sj hP ?_ (fun _ _ => ?_)) | (refine PIoN_sr hP ?_ (fun _ _ => ?_)) | (refine PIoN_cy hP ?_ (fun _ _ => ?_)) | (refine PIoN_bn (fun _ => ?_)) | (refine PIoN_na hP ?_ (fun _ _ => ?_)) | (refine PIoN_no hP ?_ (fun _ _ => ?_)) | (refine PIoN_ite ?_ ?_) | (refine PIoN_some ?_) | (exact PIoN_none) | (refine pioN_ol_X3_holds_91 hP hc  _ _ _ _ _ _ ?_)))
theorem pioN_ob_X3_holds  {x0 : Option Nat} {x1 : Option Nat} {σ : oSt} (hP : iKptN P) (hc : cQoN P call)  (h : P σ) : PIo P (ob_X3_holds n call κ  x0 x1 σ) := by
  unfold ob_X3_holds
  repeat' (with_reducible (first | assumption | (refine PIoN_gd ?_) | (refine PIoN_pf hP ?_ (by decide) (by with_unfolding_all rfl) (fun _ _ => ?_)) | (refine PIoN_si hP ?_ (fun _ _ => ?_)) | (refine PIoN_sj hP ?_ (fun _ _ => ?_)) | (refine PIoN_sr hP ?_ (fun _ _ => ?_)) | (refine PIoN_cy hP ?_ (fun _ _ => ?_)) | (refine PIoN_bn (fun _ => ?_)) | (refine PIoN_na hP ?_ (fun _ _ => ?_)) | (refine PIoN_no hP ?_ (fun _ _ => ?_)) | (refine PIoN_ite ?_ ?_) | (refine PIoN_some ?_) | (exact PIoN_none) | (refine PIoN_in (cQoN.c86 hc _ _ _ _ _ ?_) (fun _ _ _ => ?_)) | (refine PIoN_in (cQoN.c87 hc _ _ _ ?_) (fun _ _ _ => ?_)) | (refine PIoN_ln (cQoN.c83 hc _ _ _ _ ?_) (fun _ _ _ => ?_)) | (refine PIoN_ln (cQoN.c85 hc _ _ _ ?_) (fun _ _ _ => ?_)) | (refine pioN_oj_X3_holds_88 hP hc  ?_)))
theorem pioN_oj_X3_elementOf_52  {x0 : Option Nat} {x2 : Int32} {x3 : Int64} {σ : oSt} (hP : iKptN P) (hc : cQoN P call)  (h : P σ) : PIo P (oj_X3_elementOf_52 n call κ  x0 x2 x3 σ) := by
  unfold oj_X3_elementOf_52
  repeat' (with_reducible (first | assumption | (refine PIoN_gd ?_) | (refine PIoN_pf hP ?_ (by decide) (by with_unfolding_all rfl) (fun _ _ => ?_)) | (refine PIoN_si hP ?_ (fun _ _ => ?_)) | (refine PIoN_sj hP ?_ (fun _ _ => ?_)) | (refine PIoN_sr hP ?_ (fun _ _ => ?_)) | (refine PIoN_cy hP ?_ (fun _ _ => ?_)) | (refine PIoN_bn (fun _ => ?_)) | (refine PIoN_na hP ?_ (fun _ _ => ?_)) | (refine PIoN_no hP ?_ (fun _ _ => ?_)) | (refine PIoN_ite ?_ ?_) | (refine PIoN_some ?_) | (exact PIoN_none)))
theorem pioN_oj_X3_elementOf_47  {x0 : Option Nat} {x2 : Int32} {x3 : Int64} {σ : oSt} (hP : iKptN P) (hc : cQoN P call)  (h : P σ) : PIo P (oj_X3_elementOf_47 n call κ  x0 x2 x3 σ) := by
  unfold oj_X3_elementOf_47
  repeat' (with_reducible (first | assumption | (refine PIoN_gd ?_) | (refine PIoN_pf hP ?_ (by decide) (by with_unfolding_all rfl) (fun _ _ => ?_)) | (refine PIoN_si hP ?_ (fun _ _ => ?_)) | (refine PIoN_sj hP ?_ (fun _ _ => ?_)) | (refine PIoN_sr hP ?_ (fun _ _ => ?_)) | (refine PIoN_cy hP ?_ (fun _ _ => ?_)) | (refine PIoN_bn (fun _ => ?_)) | (refine PIoN_na hP ?_ (fun _ _ => ?_)) | (refine PIoN_no hP ?_ (fun _ _ => ?_)) | (refine PIoN_ite ?_ ?_) | (refine PIoN_some ?_) | (exact PIoN_none) | (refine pioN_oj_X3_elementOf_52 hP hc  ?_)))
theorem pioN_ob_X3_elementOf  {x0 : Option Nat} {x1 : Option Nat} {σ : oSt} (hP : iKptN P) (hc : cQoN P call)  (h : P σ) : PIo P (ob_X3_elementOf n call κ  x0 x1 σ) := by
  unfold ob_X3_elementOf
  repeat' (with_reducible (first | assumption | (refine PIoN_gd ?_) | (refine PIoN_pf hP ?_ (by decide) (by with_unfolding_all rfl) (fun _ _ => ?_)) | (refine PIoN_si hP ?_ (fun _ _ => ?_)) | (refine PIoN_sj hP ?_ (fun _ _ => ?_)) | (refine PIoN_sr hP ?_ (fun _ _ => ?_)) | (refine PIoN_cy hP ?_ (fun _ _ => ?_)) | (refine PIoN_bn (fun _ => ?_)) | (refine PIoN_na hP ?_ (fun _ _ => ?_)) | (refine PIoN_no hP ?_ (fun _ _ => ?_)) | (refine PIoN_ite ?_ ?_) | (refine PIoN_some ?_) | (exact PIoN_none) | (refine PIoN_ln (cQoN.c83 hc _ _ _ _ ?_) (fun _ _ _ => ?_)) | (refine PIoN_ln (cQoN.c85 hc _ _ _ ?_) (fun _ _ _ => ?_)) | (refine pioN_oj_X3_elementOf_47 hP hc  ?_) | (refine pioN_oj_X3_elementOf_52 hP hc  ?_)))
theorem pioN_oj_X3_change_25  {x0 : Option Nat} {x2 : Int32} {t0 : Int64} {σ : oSt} (hP : iKptN P) (hc : cQoN P call)  (h : P σ) : PIo P (oj_X3_change_25 n call κ  x0 x2 t0 σ) := by
  unfold oj_X3_change_25
  repeat' (with_reducible (first | assumption | (refine PIoN_gd ?_) | (refine PIoN_pf hP ?_ (by decide) (by with_unfolding_all rfl) (fun _ _ => ?_)) | (refine PIoN_si hP ?_ (fun _ _ => ?_)) | (refine PIoN_sj hP ?_ (fun _ _ => ?_)) | (refine PIoN_sr hP ?_ (fun _ _ => ?_)) | (refine PIoN_cy hP ?_ (fun _ _ => ?_)) | (refine PIoN_bn (fun _ => ?_)) | (refine PIoN_na hP ?_ (fun _ _ => ?_)) | (refine PIoN_no hP ?_ (fun _ _ => ?_)) | (refine PIoN_ite ?_ ?_) | (refine PIoN_some ?_) | (exact PIoN_none)))
theorem pioN_ob_X3_change  {x0 : Option Nat} {x1 : Option Nat} {σ : oSt} (hP : iKptN P) (hc : cQoN P call)  (h : P σ) : PIo P (ob_X3_change n call κ  x0 x1 σ) := by
  unfold ob_X3_change
  repeat' (with_reducible (first | assumption | (refine PIoN_gd ?_) | (refine PIoN_pf hP ?_ (by decide) (by with_unfolding_all rfl) (fun _ _ => ?_)) | (refine PIoN_si hP ?_ (fun _ _ => ?_)) | (refine PIoN_sj hP ?_ (fun _ _ => ?_)) | (refine PIoN_sr hP ?_ (fun _ _ => ?_)) | (refine PIoN_cy hP ?_ (fun _ _ => ?_)) | (refine PIoN_bn (fun _ => ?_)) | (refine PIoN_na hP ?_ (fun _ _ => ?_)) | (refine PIoN_no hP ?_ (fun _ _ => ?_)) | (refine PIoN_ite ?_ ?_) | (refine PIoN_some ?_) | (exact PIoN_none) | (refine PIoN_in (cQoN.c88 hc _ _ _ ?_) (fun _ _ _ => ?_)) | (refine PIoN_ln (cQoN.c85 hc _ _ _ ?_) (fun _ _ _ => ?_)) | (refine pioN_oj_X3_change_25 hP hc  ?_)))
theorem pioN_ob_X3_match  {x0 : Option Nat} {x1 : Option Nat} {σ : oSt} (hP : iKptN P) (hc : cQoN P call)  (h : P σ) : PIo P (ob_X3_match n call κ  x0 x1 σ) := by
  unfold ob_X3_match
  repeat' (with_reducible (first | assumption | (refine PIoN_gd ?_) | (refine PIoN_pf hP ?_ (by decide) (by with_unfolding_all rfl) (fun _ _ => ?_)) | (refine PIoN_si hP ?_ (fun _ _ => ?_)) | (refine PIoN_sj hP ?_ (fun _ _ => ?_)) | (refine PIoN_sr hP ?_ (fun _ _ => ?_)) | (refine PIoN_cy hP ?_ (fun _ _ => ?_)) | (refine PIoN_bn (fun _ => ?_)) | (refine PIoN_na hP ?_ (fun _ _ => ?_)) | (refine PIoN_no hP ?_ (fun _ _ => ?_)) | (refine PIoN_ite ?_ ?_) | (refine PIoN_some ?_) | (exact PIoN_none) | (refine PIoN_in (cQoN.c79 hc _ _ _ _ ?_) (fun _ _ _ => ?_)) | (refine PIoN_ln (cQoN.c83 hc _ _ _ _ ?_) (fun _ _ _ => ?_))))
theorem pioN_ob_X3_argument  {x0 : Option Nat} {x1 : Option Nat} {σ : oSt} (hP : iKptN P) (hc : cQoN P call)  (h : P σ) : PIo P (ob_X3_argument n call κ  x0 x1 σ) := by
  unfold ob_X3_argument
  repeat' (with_reducible (first | assumption | (refine PIoN_gd ?_) | (refine PIoN_pf hP ?_ (by decide) (by with_unfolding_all rfl) (fun _ _ => ?_)) | (refine PIoN_si hP ?_ (fun _ _ => ?_)) | (refine PIoN_sj hP ?_ (fun _ _ => ?_)) | (refine PIoN_sr hP ?_ (fun _ _ => ?_)) | (refine PIoN_cy hP ?_ (fun _ _ => ?_)) | (refine PIoN_bn (fun _ => ?_)) | (refine PIoN_na hP ?_ (fun _ _ => ?_)) | (refine PIoN_no hP ?_ (fun _ _ => ?_)) | (refine PIoN_ite ?_ ?_) | (refine PIoN_some ?_) | (exact PIoN_none) | (refine PIoN_in (cQoN.c82 hc _ _ _ _ _ ?_) (fun _ _ _ => ?_)) | (refine PIoN_ln (cQoN.c83 hc _ _ _ _ ?_) (fun _ _ _ => ?_)) | (refine PIoN_ln (cQoN.c85 hc _ _ _ ?_) (fun _ _ _ => ?_))))
theorem pioN_oj_X3_apply_96  {x0 : Option Nat} {x3 : Option Nat} {x4 : Int32} {x5 : Int32} {x6 : Int32} {σ : oSt} (hP : iKptN P) (hc : cQoN P call)  (h : P σ) : PIo P (oj_X3_apply_96 n call κ  x0 x3 x4 x5 x6 σ) := by
  unfold oj_X3_apply_96
  repeat' (with_reducible (first | assumption | (refine PIoN_gd ?_) | (refine PIoN_pf hP ?_ (by decide) (by with_unfolding_all rfl) (fun _ _ => ?_)) | (refine PIoN_si hP ?_ (fun _ _ => ?_)) | (refine PIoN_sj hP ?_ (fun _ _ => ?_)) | (refine PIoN_sr hP ?_ (fun _ _ => ?_)) | (refine PIoN_cy hP ?_ (fun _ _ => ?_)) | (refine PIoN_bn (fun _ => ?_)) | (refine PIoN_na hP ?_ (fun _ _ => ?_)) | (refine PIoN_no hP ?_ (fun _ _ => ?_)) | (refine PIoN_ite ?_ ?_) | (refine PIoN_some ?_) | (exact PIoN_none) | (refine PIoN_cv (cQoN.c81 hc _ _ _ _ _ ?_) (fun _ _ => ?_)) | (refine PIoN_in (cQoN.c82 hc _ _ _ _ _ ?_) (fun _ _ _ => ?_)) | (refine PIoN_in (cQoN.c236 hc _ _ ?_) (fun _ _ _ => ?_))))
theorem pioN_ol_X3_apply_46  (hP : iKptN P) (hc : cQoN P call)  : ∀ (t : Nat) (x0 : Option Nat) (x1 : Option Nat) (x2 : Int32) (x3 : Int32) (x4 : Int32) (σ : oSt), P σ → PIo P (ol_X3_apply_46 n call κ  t x0 x1 x2 x3 x4 σ) := by
  intro t
  induction t with
  | zero => intros; exact PIoN_none
  | succ t ih =>
    intro x0 x1 x2 x3 x4 σ h
    rw [ol_X3_apply_46]
    repeat' (with_reducible (first | assumption | (refine PIoN_gd ?_) | (refine PIoN_pf hP ?_ (by decide) (by with_unfolding_all rfl) (fun _ _ => ?_)) | (refine PIoN_si hP ?_ (fun _ _ => ?_)) | (refine PIoN_sj hP ?_ (fun _ _ => ?_)) | (refine PIoN_sr hP ?_ (fun _ _ => ?_)) | (refine PIoN_cy hP ?_ (fun _ _ => ?_)) | (refine PIoN_bn (fun _ => ?_)) | (refine PIoN_na hP ?_ (fun _ _ => ?_)) | (refine PIoN_no hP ?_ (fun _ _ => ?_)) | (refine PIoN_ite ?_ ?_) | (refine PIoN_some ?_) | (exact PIoN_none) | (refine PIoN_in (cQoN.c79 hc _ _ _ _ ?_) (fun _ _ _ => ?_)) | (refine PIoN_in (cQoN.c236 hc _ _ ?_) (fun _ _ _ => ?_)) | (refine pioN_oj_X3_apply_96 hP hc  ?_) | (refine ih _ _ _ _ _ _ ?_)))
theorem pioN_ob_X3_apply  {x0 : Option Nat} {x1 : Int32} {x2 : Int32} {σ : oSt} (hP : iKptN P) (hc : cQoN P call)  (h : P σ) : PIo P (ob_X3_apply n call κ  x0 x1 x2 σ) := by
  unfold ob_X3_apply
  repeat' (with_reducible (first | assumption | (refine PIoN_gd ?_) | (refine PIoN_pf hP ?_ (by decide) (by with_unfolding_all rfl) (fun _ _ => ?_)) | (refine PIoN_si hP ?_ (fun _ _ => ?_)) | (refine PIoN_sj hP ?_ (fun _ _ => ?_)) | (refine PIoN_sr hP ?_ (fun _ _ => ?_)) | (refine PIoN_cy hP ?_ (fun _ _ => ?_)) | (refine PIoN_bn (fun _ => ?_)) | (refine PIoN_na hP ?_ (fun _ _ => ?_)) | (refine PIoN_no hP ?_ (fun _ _ => ?_)) | (refine PIoN_ite ?_ ?_) | (refine PIoN_some ?_) | (exact PIoN_none) | (refine PIoN_rn (cQoN.c234 hc _ _ _ ?_) (fun _ _ _ => ?_)) | (refine pioN_ol_X3_apply_46 hP hc  _ _ _ _ _ _ _ ?_)))
theorem pioN_oj_X3_call_79  {x0 : Option Nat} {x1 : Option Nat} {x2 : Int32} {σ : oSt} (hP : iKptN P) (hc : cQoN P call)  (h : P σ) : PIo P (oj_X3_call_79 n call κ  x0 x1 x2 σ) := by
  unfold oj_X3_call_79
  repeat' (with_reducible (first | assumption | (refine PIoN_gd ?_) | (refine PIoN_pf hP ?_ (by decide) (by with_unfolding_all rfl) (fun _ _ => ?_)) | (refine PIoN_si hP ?_ (fun _ _ => ?_)) | (refine PIoN_sj hP ?_ (fun _ _ => ?_)) | (refine PIoN_sr hP ?_ (fun _ _ => ?_)) | (refine PIoN_cy hP ?_ (fun _ _ => ?_)) | (refine PIoN_bn (fun _ => ?_)) | (refine PIoN_na hP ?_ (fun _ _ => ?_)) | (refine PIoN_no hP ?_ (fun _ _ => ?_)) | (refine PIoN_ite ?_ ?_) | (refine PIoN_some ?_) | (exact PIoN_none) | (refine PIoN_ln (cQoN.c83 hc _ _ _ _ ?_) (fun _ _ _ => ?_)) | (refine PIoN_rn (cQoN.c92 hc _ _ _ _ ?_) (fun _ _ _ => ?_))))
theorem pioN_oj_X3_call_70 {k7 : Option Nat → Option Nat → Int32 → Int32 → Int32 → oSt → oRs} {x0 : Option Nat} {x1 : Option Nat} {x2 : Int32} {x4 : Int32} {x5 : Int32} {σ : oSt} (hP : iKptN P) (hc : cQoN P call) (hk7 : ∀ (a0 : Option Nat) (a1 : Option Nat) (a2 : Int32) (a3 : Int32) (a4 : Int32), ∀ σ, P σ → PIo P (k7 a0 a1 a2 a3 a4 σ)) (h : P σ) : PIo P (oj_X3_call_70 n call κ k7 x0 x1 x2 x4 x5 σ) := by
  unfold oj_X3_call_70
  repeat' (with_reducible (first | assumption | (refine PIoN_gd ?_) | (refine PIoN_pf hP ?_ (by decide) (by with_unfolding_all rfl) (fun _ _ => ?_)) | (refine PIoN_si hP ?_ (fun _ _ => ?_)) | (refine PIoN_sj hP ?_ (fun _ _ => ?_)) | (refine PIoN_sr hP ?_ (fun _ _ => ?_)) | (refine PIoN_cy hP ?_ (fun _ _ => ?_)) | (refine PIoN_bn (fun _ => ?_)) | (refine PIoN_na hP ?_ (fun _ _ => ?_)) | (refine PIoN_no hP ?_ (fun _ _ => ?_)) | (refine PIoN_ite ?_ ?_) | (refine PIoN_some ?_) | (exact PIoN_none) | (refine hk7 _ _ _ _ _ _ ?_)))
theorem pioN_ol_X3_call_7  (hP : iKptN P) (hc : cQoN P call)  : ∀ (t : Nat) (x0 : Option Nat) (x1 : Option Nat) (x2 : Int32) (x3 : Int32) (x4 : Int32) (σ : oSt), P σ → PIo P (ol_X3_call_7 n call κ  t x0 x1 x2 x3 x4 σ) := by
  intro t
  induction t with
  | zero => intros; exact PIoN_none
  | succ t ih =>
    intro x0 x1 x2 x3 x4 σ h
    rw [ol_X3_call_7]
    repeat' (with_reducible (first | assumption | (refine PIoN_gd ?_) | (refine PIoN_pf hP ?_ (by decide) (by with_unfolding_all rfl) (fun _ _ => ?_)) | (refine PIoN_si hP ?_ (fun _ _ => ?_)) | (refine PIoN_sj hP ?_ (fun _ _ => ?_)) | (refine PIoN_sr hP ?_ (fun _ _ => ?_)) | (refine PIoN_cy hP ?_ (fun _ _ => ?_)) | (refine PIoN_bn (fun _ => ?_)) | (refine PIoN_na hP ?_ (fun _ _ => ?_)) | (refine PIoN_no hP ?_ (fun _ _ => ?_)) | (refine PIoN_ite ?_ ?_) | (refine PIoN_some ?_) | (exact PIoN_none) | (refine PIoN_in (cQoN.c79 hc _ _ _ _ ?_) (fun _ _ _ => ?_)) | (refine PIoN_in (cQoN.c236 hc _ _ ?_) (fun _ _ _ => ?_)) | (refine PIoN_ln (cQoN.c91 hc _ _ _ ?_) (fun _ _ _ => ?_)) | (refine PIoN_rn (cQoN.c234 hc _ _ _ ?_) (fun _ _ _ => ?_)) | (refine pioN_oj_X3_call_79 hP hc  ?_) | (refine pioN_oj_X3_call_70 hP hc ih ?_)))
theorem pioN_ob_X3_call  {x0 : Option Nat} {x1 : Option Nat} {σ : oSt} (hP : iKptN P) (hc : cQoN P call)  (h : P σ) : PIo P (ob_X3_call n call κ  x0 x1 σ) := by
  unfold ob_X3_call
  repeat' (with_reducible (first | assumption | (refine PIoN_gd ?_) | (refine PIoN_pf hP ?_ (by decide) (by with_unfolding_all rfl) (fun _ _ => ?_)) | (refine PIoN_si hP ?_ (fun _ _ => ?_)) | (refine PIoN_sj hP ?_ (fun _ _ => ?_)) | (refine PIoN_sr hP ?_ (fun _ _ => ?_)) | (refine PIoN_cy hP ?_ (fun _ _ => ?_)) | (refine PIoN_bn (fun _ => ?_)) | (refine PIoN_na hP ?_ (fun _ _ => ?_)) | (refine PIoN_no hP ?_ (fun _ _ => ?_)) | (refine PIoN_ite ?_ ?_) | (refine PIoN_some ?_) | (exact PIoN_none) | (refine pioN_ol_X3_call_7 hP hc  _ _ _ _ _ _ _ ?_)))
theorem pioN_oj_X3_newArray_56  {x0 : Option Nat} {x1 : Int64} {σ : oSt} (hP : iKptN P) (hc : cQoN P call)  (h : P σ) : PIo P (oj_X3_newArray_56 n call κ  x0 x1 σ) := by
  unfold oj_X3_newArray_56
  repeat' (with_reducible (first | assumption | (refine PIoN_gd ?_) | (refine PIoN_pf hP ?_ (by decide) (by with_unfolding_all rfl) (fun _ _ => ?_)) | (refine PIoN_si hP ?_ (fun _ _ => ?_)) | (refine PIoN_sj hP ?_ (fun _ _ => ?_)) | (refine PIoN_sr hP ?_ (fun _ _ => ?_)) | (refine PIoN_cy hP ?_ (fun _ _ => ?_)) | (refine PIoN_bn (fun _ => ?_)) | (refine PIoN_na hP ?_ (fun _ _ => ?_)) | (refine PIoN_no hP ?_ (fun _ _ => ?_)) | (refine PIoN_ite ?_ ?_) | (refine PIoN_some ?_) | (exact PIoN_none) | (refine PIoN_in (cQoN.c77 hc _ _ _ ?_) (fun _ _ _ => ?_))))
theorem pioN_oj_X3_newArray_51  {x0 : Option Nat} {x1 : Int64} {σ : oSt} (hP : iKptN P) (hc : cQoN P call)  (h : P σ) : PIo P (oj_X3_newArray_51 n call κ  x0 x1 σ) := by
  unfold oj_X3_newArray_51
  repeat' (with_reducible (first | assumption | (refine PIoN_gd ?_) | (refine PIoN_pf hP ?_ (by decide) (by with_unfolding_all rfl) (fun _ _ => ?_)) | (refine PIoN_si hP ?_ (fun _ _ => ?_)) | (refine PIoN_sj hP ?_ (fun _ _ => ?_)) | (refine PIoN_sr hP ?_ (fun _ _ => ?_)) | (refine PIoN_cy hP ?_ (fun _ _ => ?_)) | (refine PIoN_bn (fun _ => ?_)) | (refine PIoN_na hP ?_ (fun _ _ => ?_)) | (refine PIoN_no hP ?_ (fun _ _ => ?_)) | (refine PIoN_ite ?_ ?_) | (refine PIoN_some ?_) | (exact PIoN_none) | (refine pioN_oj_X3_newArray_56 hP hc  ?_)))
theorem pioN_oj_X3_newArray_22  {x0 : Option Nat} {x1 : Int64} {σ : oSt} (hP : iKptN P) (hc : cQoN P call)  (h : P σ) : PIo P (oj_X3_newArray_22 n call κ  x0 x1 σ) := by
  unfold oj_X3_newArray_22
  repeat' (with_reducible (first | assumption | (refine PIoN_gd ?_) | (refine PIoN_pf hP ?_ (by decide) (by with_unfolding_all rfl) (fun _ _ => ?_)) | (refine PIoN_si hP ?_ (fun _ _ => ?_)) | (refine PIoN_sj hP ?_ (fun _ _ => ?_)) | (refine PIoN_sr hP ?_ (fun _ _ => ?_)) | (refine PIoN_cy hP ?_ (fun _ _ => ?_)) | (refine PIoN_bn (fun _ => ?_)) | (refine PIoN_na hP ?_ (fun _ _ => ?_)) | (refine PIoN_no hP ?_ (fun _ _ => ?_)) | (refine PIoN_ite ?_ ?_) | (refine PIoN_some ?_) | (exact PIoN_none) | (refine pioN_oj_X3_newArray_51 hP hc  ?_) | (refine pioN_oj_X3_newArray_56 hP hc  ?_)))
theorem pioN_ob_X3_newArray  {x0 : Option Nat} {x1 : Int64} {σ : oSt} (hP : iKptN P) (hc : cQoN P call)  (h : P σ) : PIo P (ob_X3_newArray n call κ  x0 x1 σ) := by
  unfold ob_X3_newArray
  repeat' (with_reducible (first | assumption | (refine PIoN_gd ?_) | (refine PIoN_pf hP ?_ (by decide) (by with_unfolding_all rfl) (fun _ _ => ?_)) | (refine PIoN_si hP ?_ (fun _ _ => ?_)) | (refine PIoN_sj hP ?_ (fun _ _ => ?_)) | (refine PIoN_sr hP ?_ (fun _ _ => ?_)) | (refine PIoN_cy hP ?_ (fun _ _ => ?_)) | (refine PIoN_bn (fun _ => ?_)) | (refine PIoN_na hP ?_ (fun _ _ => ?_)) | (refine PIoN_no hP ?_ (fun _ _ => ?_)) | (refine PIoN_ite ?_ ?_) | (refine PIoN_some ?_) | (exact PIoN_none) | (refine pioN_oj_X3_newArray_22 hP hc  ?_) | (refine pioN_oj_X3_newArray_56 hP hc  ?_)))
theorem pioN_ob_X3_cons  {x0 : Option Nat} {x1 : Option Nat} {σ : oSt} (hP : iKptN P) (hc : cQoN P call)  (h : P σ) : PIo P (ob_X3_cons n call κ  x0 x1 σ) := by
  unfold ob_X3_cons
  repeat' (with_reducible (first | assumption | (refine PIoN_gd ?_) | (refine PIoN_pf hP ?_ (by decide) (by with_unfolding_all rfl) (fun _ _ => ?_)) | (refine PIoN_si hP ?_ (fun _ _ => ?_)) | (refine PIoN_sj hP ?_ (fun _ _ => ?_)) | (refine PIoN_sr hP ?_ (fun _ _ => ?_)) | (refine PIoN_cy hP ?_ (fun _ _ => ?_)) | (refine PIoN_bn (fun _ => ?_)) | (refine PIoN_na hP ?_ (fun _ _ => ?_)) | (refine PIoN_no hP ?_ (fun _ _ => ?_)) | (refine PIoN_ite ?_ ?_) | (refine PIoN_some ?_) | (exact PIoN_none) | (refine PIoN_in (cQoN.c82 hc _ _ _ _ _ ?_) (fun _ _ _ => ?_)) | (refine PIoN_ln (cQoN.c83 hc _ _ _ _ ?_) (fun _ _ _ => ?_)) | (refine PIoN_ln (cQoN.c84 hc _ _ _ _ ?_) (fun _ _ _ => ?_)) | (refine PIoN_ln (cQoN.c85 hc _ _ _ ?_) (fun _ _ _ => ?_))))
theorem pioN_oj_X3_product_62  {x1 : Int64} {x4 : Int64} {σ : oSt} (hP : iKptN P) (hc : cQoN P call)  (h : P σ) : PIo P (oj_X3_product_62 n call κ  x1 x4 σ) := by
  unfold oj_X3_product_62
  repeat' (with_reducible (first | assumption | (refine PIoN_gd ?_) | (refine PIoN_pf hP ?_ (by decide) (by with_unfolding_all rfl) (fun _ _ => ?_)) | (refine PIoN_si hP ?_ (fun _ _ => ?_)) | (refine PIoN_sj hP ?_ (fun _ _ => ?_)) | (refine PIoN_sr hP ?_ (fun _ _ => ?_)) | (refine PIoN_cy hP ?_ (fun _ _ => ?_)) | (refine PIoN_bn (fun _ => ?_)) | (refine PIoN_na hP ?_ (fun _ _ => ?_)) | (refine PIoN_no hP ?_ (fun _ _ => ?_)) | (refine PIoN_ite ?_ ?_) | (refine PIoN_some ?_) | (exact PIoN_none)))
theorem pioN_oj_X3_product_57  {t0 : Option Nat} {t1 : Int32} {σ : oSt} (hP : iKptN P) (hc : cQoN P call)  (h : P σ) : PIo P (oj_X3_product_57 n call κ  t0 t1 σ) := by
  unfold oj_X3_product_57
  repeat' (with_reducible (first | assumption | (refine PIoN_gd ?_) | (refine PIoN_pf hP ?_ (by decide) (by with_unfolding_all rfl) (fun _ _ => ?_)) | (refine PIoN_si hP ?_ (fun _ _ => ?_)) | (refine PIoN_sj hP ?_ (fun _ _ => ?_)) | (refine PIoN_sr hP ?_ (fun _ _ => ?_)) | (refine PIoN_cy hP ?_ (fun _ _ => ?_)) | (refine PIoN_bn (fun _ => ?_)) | (refine PIoN_na hP ?_ (fun _ _ => ?_)) | (refine PIoN_no hP ?_ (fun _ _ => ?_)) | (refine PIoN_ite ?_ ?_) | (refine PIoN_some ?_) | (exact PIoN_none)))
theorem pioN_oj_X3_product_16  {x0 : Option Nat} {x1 : Int64} {t0 : Int64} {σ : oSt} (hP : iKptN P) (hc : cQoN P call)  (h : P σ) : PIo P (oj_X3_product_16 n call κ  x0 x1 t0 σ) := by
  unfold oj_X3_product_16
  repeat' (with_reducible (first | assumption | (refine PIoN_gd ?_) | (refine PIoN_pf hP ?_ (by decide) (by with_unfolding_all rfl) (fun _ _ => ?_)) | (refine PIoN_si hP ?_ (fun _ _ => ?_)) | (refine PIoN_sj hP ?_ (fun _ _ => ?_)) | (refine PIoN_sr hP ?_ (fun _ _ => ?_)) | (refine PIoN_cy hP ?_ (fun _ _ => ?_)) | (refine PIoN_bn (fun _ => ?_)) | (refine PIoN_na hP ?_ (fun _ _ => ?_)) | (refine PIoN_no hP ?_ (fun _ _ => ?_)) | (refine PIoN_ite ?_ ?_) | (refine PIoN_some ?_) | (exact PIoN_none) | (refine pioN_oj_X3_product_62 hP hc  ?_) | (refine pioN_oj_X3_product_57 hP hc  ?_)))
theorem pioN_ob_X3_product  {x0 : Option Nat} {x1 : Int64} {x3 : Option Nat} {σ : oSt} (hP : iKptN P) (hc : cQoN P call)  (h : P σ) : PIo P (ob_X3_product n call κ  x0 x1 x3 σ) := by
  unfold ob_X3_product
  repeat' (with_reducible (first | assumption | (refine PIoN_gd ?_) | (refine PIoN_pf hP ?_ (by decide) (by with_unfolding_all rfl) (fun _ _ => ?_)) | (refine PIoN_si hP ?_ (fun _ _ => ?_)) | (refine PIoN_sj hP ?_ (fun _ _ => ?_)) | (refine PIoN_sr hP ?_ (fun _ _ => ?_)) | (refine PIoN_cy hP ?_ (fun _ _ => ?_)) | (refine PIoN_bn (fun _ => ?_)) | (refine PIoN_na hP ?_ (fun _ _ => ?_)) | (refine PIoN_no hP ?_ (fun _ _ => ?_)) | (refine PIoN_ite ?_ ?_) | (refine PIoN_some ?_) | (exact PIoN_none) | (refine PIoN_ln (cQoN.c85 hc _ _ _ ?_) (fun _ _ _ => ?_)) | (refine pioN_oj_X3_product_16 hP hc  ?_)))
theorem pioN_oj_X3_quotient_53  {t0 : Option Nat} {t1 : Int32} {σ : oSt} (hP : iKptN P) (hc : cQoN P call)  (h : P σ) : PIo P (oj_X3_quotient_53 n call κ  t0 t1 σ) := by
  unfold oj_X3_quotient_53
  repeat' (with_reducible (first | assumption | (refine PIoN_gd ?_) | (refine PIoN_pf hP ?_ (by decide) (by with_unfolding_all rfl) (fun _ _ => ?_)) | (refine PIoN_si hP ?_ (fun _ _ => ?_)) | (refine PIoN_sj hP ?_ (fun _ _ => ?_)) | (refine PIoN_sr hP ?_ (fun _ _ => ?_)) | (refine PIoN_cy hP ?_ (fun _ _ => ?_)) | (refine PIoN_bn (fun _ => ?_)) | (refine PIoN_na hP ?_ (fun _ _ => ?_)) | (refine PIoN_no hP ?_ (fun _ _ => ?_)) | (refine PIoN_ite ?_ ?_) | (refine PIoN_some ?_) | (exact PIoN_none)))
theorem pioN_oj_X3_quotient_28  {x0 : Option Nat} {x1 : Option Nat} {x2 : Int64} {t0 : Int64} {σ : oSt} (hP : iKptN P) (hc : cQoN P call)  (h : P σ) : PIo P (oj_X3_quotient_28 n call κ  x0 x1 x2 t0 σ) := by
  unfold oj_X3_quotient_28
  repeat' (with_reducible (first | assumption | (refine PIoN_gd ?_) | (refine PIoN_pf hP ?_ (by decide) (by with_unfolding_all rfl) (fun _ _ => ?_)) | (refine PIoN_si hP ?_ (fun _ _ => ?_)) | (refine PIoN_sj hP ?_ (fun _ _ => ?_)) | (refine PIoN_sr hP ?_ (fun _ _ => ?_)) | (refine PIoN_cy hP ?_ (fun _ _ => ?_)) | (refine PIoN_bn (fun _ => ?_)) | (refine PIoN_na hP ?_ (fun _ _ => ?_)) | (refine PIoN_no hP ?_ (fun _ _ => ?_)) | (refine PIoN_ite ?_ ?_) | (refine PIoN_some ?_) | (exact PIoN_none) | (refine PIoN_ln (cQoN.c243 hc _ _ _ ?_) (fun _ _ _ => ?_)) | (refine PIoN_ln (cQoN.c244 hc _ _ _ ?_) (fun _ _ _ => ?_)) | (refine pioN_oj_X3_quotient_53 hP hc  ?_)))
theorem pioN_ob_X3_quotient  {x0 : Option Nat} {x1 : Option Nat} {σ : oSt} (hP : iKptN P) (hc : cQoN P call)  (h : P σ) : PIo P (ob_X3_quotient n call κ  x0 x1 σ) := by
  unfold ob_X3_quotient
  repeat' (with_reducible (first | assumption | (refine PIoN_gd ?_) | (refine PIoN_pf hP ?_ (by decide) (by with_unfolding_all rfl) (fun _ _ => ?_)) | (refine PIoN_si hP ?_ (fun _ _ => ?_)) | (refine PIoN_sj hP ?_ (fun _ _ => ?_)) | (refine PIoN_sr hP ?_ (fun _ _ => ?_)) | (refine PIoN_cy hP ?_ (fun _ _ => ?_)) | (refine PIoN_bn (fun _ => ?_)) | (refine PIoN_na hP ?_ (fun _ _ => ?_)) | (refine PIoN_no hP ?_ (fun _ _ => ?_)) | (refine PIoN_ite ?_ ?_) | (refine PIoN_some ?_) | (exact PIoN_none) | (refine PIoN_ln (cQoN.c85 hc _ _ _ ?_) (fun _ _ _ => ?_)) | (refine pioN_oj_X3_quotient_28 hP hc  ?_)))
theorem pioN_ob_X3_plain  {x0 : Option Nat} {x1 : Option Nat} {σ : oSt} (hP : iKptN P) (hc : cQoN P call)  (h : P σ) : PIo P (ob_X3_plain n call κ  x0 x1 σ) := by
  unfold ob_X3_plain
  repeat' (with_reducible (first | assumption | (refine PIoN_gd ?_) | (refine PIoN_pf hP ?_ (by decide) (by with_unfolding_all rfl) (fun _ _ => ?_)) | (refine PIoN_si hP ?_ (fun _ _ => ?_)) | (refine PIoN_sj hP ?_ (fun _ _ => ?_)) | (refine PIoN_sr hP ?_ (fun _ _ => ?_)) | (refine PIoN_cy hP ?_ (fun _ _ => ?_)) | (refine PIoN_bn (fun _ => ?_)) | (refine PIoN_na hP ?_ (fun _ _ => ?_)) | (refine PIoN_no hP ?_ (fun _ _ => ?_)) | (refine PIoN_ite ?_ ?_) | (refine PIoN_some ?_) | (exact PIoN_none) | (refine PIoN_in (cQoN.c82 hc _ _ _ _ _ ?_) (fun _ _ _ => ?_)) | (refine PIoN_in (cQoN.c88 hc _ _ _ ?_) (fun _ _ _ => ?_)) | (refine PIoN_ln (cQoN.c83 hc _ _ _ _ ?_) (fun _ _ _ => ?_)) | (refine PIoN_ln (cQoN.c85 hc _ _ _ ?_) (fun _ _ _ => ?_)) | (refine PIoN_ln (cQoN.c94 hc _ _ _ ?_) (fun _ _ _ => ?_)) | (refine PIoN_ln (cQoN.c95 hc _ _ _ ?_) (fun _ _ _ => ?_)) | (refine PIoN_ln (cQoN.c96 hc _ _ _ _ ?_) (fun _ _ _ => ?_)) | (refine PIoN_ln (cQoN.c97 hc _ _ _ ?_) (fun _ _ _ => ?_))))
theorem pioN_oj_X3_start_210  {x1 : Option Nat} {σ : oSt} (hP : iKptN P) (hc : cQoN P call)  (h : P σ) : PIo P (oj_X3_start_210 n call κ  x1 σ) := by
  unfold oj_X3_start_210
  repeat' (with_reducible (first | assumption | (refine PIoN_gd ?_) | (refine PIoN_pf hP ?_ (by decide) (by with_unfolding_all rfl) (fun _ _ => ?_)) | (refine PIoN_si hP ?_ (fun _ _ => ?_)) | (refine PIoN_sj hP ?_ (fun _ _ => ?_)) | (refine PIoN_sr hP ?_ (fun _ _ => ?_)) | (refine PIoN_cy hP ?_ (fun _ _ => ?_)) | (refine PIoN_bn (fun _ => ?_)) | (refine PIoN_na hP ?_ (fun _ _ => ?_)) | (refine PIoN_no hP ?_ (fun _ _ => ?_)) | (refine PIoN_ite ?_ ?_) | (refine PIoN_some ?_) | (exact PIoN_none)))
theorem pioN_ob_X3_start  {x0 : Option Nat} {x1 : Option Nat} {σ : oSt} (hP : iKptN P) (hc : cQoN P call)  (h : P σ) : PIo P (ob_X3_start n call κ  x0 x1 σ) := by
  unfold ob_X3_start
  repeat' (with_reducible (first | assumption | (refine PIoN_gd ?_) | (refine PIoN_pf hP ?_ (by decide) (by with_unfolding_all rfl) (fun _ _ => ?_)) | (refine PIoN_si hP ?_ (fun _ _ => ?_)) | (refine PIoN_sj hP ?_ (fun _ _ => ?_)) | (refine PIoN_sr hP ?_ (fun _ _ => ?_)) | (refine PIoN_cy hP ?_ (fun _ _ => ?_)) | (refine PIoN_bn (fun _ => ?_)) | (refine PIoN_na hP ?_ (fun _ _ => ?_)) | (refine PIoN_no hP ?_ (fun _ _ => ?_)) | (refine PIoN_ite ?_ ?_) | (refine PIoN_some ?_) | (exact PIoN_none) | (refine PIoN_cv (cQoN.c81 hc _ _ _ _ _ ?_) (fun _ _ => ?_)) | (refine PIoN_cv (cQoN.c89 hc _ _ _ ?_) (fun _ _ => ?_)) | (refine PIoN_in (cQoN.c79 hc _ _ _ _ ?_) (fun _ _ _ => ?_)) | (refine PIoN_in (cQoN.c82 hc _ _ _ _ _ ?_) (fun _ _ _ => ?_)) | (refine PIoN_in (cQoN.c87 hc _ _ _ ?_) (fun _ _ _ => ?_)) | (refine PIoN_ln (cQoN.c98 hc _ _ _ ?_) (fun _ _ _ => ?_)) | (refine PIoN_rn (cQoN.c90 hc _ _ _ ?_) (fun _ _ _ => ?_)) | (refine PIoN_rn (cQoN.c93 hc _ _ _ ?_) (fun _ _ _ => ?_)) | (refine pioN_oj_X3_start_210 hP hc  ?_)))
theorem pioN_ob_X3_resume  {x0 : Option Nat} {σ : oSt} (hP : iKptN P) (hc : cQoN P call)  (h : P σ) : PIo P (ob_X3_resume n call κ  x0 σ) := by
  unfold ob_X3_resume
  repeat' (with_reducible (first | assumption | (refine PIoN_gd ?_) | (refine PIoN_pf hP ?_ (by decide) (by with_unfolding_all rfl) (fun _ _ => ?_)) | (refine PIoN_si hP ?_ (fun _ _ => ?_)) | (refine PIoN_sj hP ?_ (fun _ _ => ?_)) | (refine PIoN_sr hP ?_ (fun _ _ => ?_)) | (refine PIoN_cy hP ?_ (fun _ _ => ?_)) | (refine PIoN_bn (fun _ => ?_)) | (refine PIoN_na hP ?_ (fun _ _ => ?_)) | (refine PIoN_no hP ?_ (fun _ _ => ?_)) | (refine PIoN_ite ?_ ?_) | (refine PIoN_some ?_) | (exact PIoN_none) | (refine PIoN_in (cQoN.c79 hc _ _ _ _ ?_) (fun _ _ _ => ?_)) | (refine PIoN_rn (cQoN.c92 hc _ _ _ _ ?_) (fun _ _ _ => ?_))))
theorem pioN_oj_X3_go_105  {x0 : Option Nat} {t0 : Option Nat} {t1 : Int64} {σ : oSt} (hP : iKptN P) (hc : cQoN P call)  (h : P σ) : PIo P (oj_X3_go_105 n call κ  x0 t0 t1 σ) := by
  unfold oj_X3_go_105
  repeat' (with_reducible (first | assumption | (refine PIoN_gd ?_) | (refine PIoN_pf hP ?_ (by decide) (by with_unfolding_all rfl) (fun _ _ => ?_)) | (refine PIoN_si hP ?_ (fun _ _ => ?_)) | (refine PIoN_sj hP ?_ (fun _ _ => ?_)) | (refine PIoN_sr hP ?_ (fun _ _ => ?_)) | (refine PIoN_cy hP ?_ (fun _ _ => ?_)) | (refine PIoN_bn (fun _ => ?_)) | (refine PIoN_na hP ?_ (fun _ _ => ?_)) | (refine PIoN_no hP ?_ (fun _ _ => ?_)) | (refine PIoN_ite ?_ ?_) | (refine PIoN_some ?_) | (exact PIoN_none)))
theorem pioN_oj_X3_go_71  {x0 : Option Nat} {x1 : Int32} {σ : oSt} (hP : iKptN P) (hc : cQoN P call)  (h : P σ) : PIo P (oj_X3_go_71 n call κ  x0 x1 σ) := by
  unfold oj_X3_go_71
  repeat' (with_reducible (first | assumption | (refine PIoN_gd ?_) | (refine PIoN_pf hP ?_ (by decide) (by with_unfolding_all rfl) (fun _ _ => ?_)) | (refine PIoN_si hP ?_ (fun _ _ => ?_)) | (refine PIoN_sj hP ?_ (fun _ _ => ?_)) | (refine PIoN_sr hP ?_ (fun _ _ => ?_)) | (refine PIoN_cy hP ?_ (fun _ _ => ?_)) | (refine PIoN_bn (fun _ => ?_)) | (refine PIoN_na hP ?_ (fun _ _ => ?_)) | (refine PIoN_no hP ?_ (fun _ _ => ?_)) | (refine PIoN_ite ?_ ?_) | (refine PIoN_some ?_) | (exact PIoN_none) | (refine PIoN_ln (cQoN.c84 hc _ _ _ _ ?_) (fun _ _ _ => ?_)) | (refine pioN_oj_X3_go_105 hP hc  ?_)))
theorem pioN_oj_X3_go_64 {k24 : Option Nat → Int32 → Option Nat → Int32 → oSt → oRs} {x0 : Option Nat} {x1 : Int32} {x3 : Int32} {t0 : Option Nat} {σ : oSt} (hP : iKptN P) (hc : cQoN P call) (hk24 : ∀ (a0 : Option Nat) (a1 : Int32) (a2 : Option Nat) (a3 : Int32), ∀ σ, P σ → PIo P (k24 a0 a1 a2 a3 σ)) (h : P σ) : PIo P (oj_X3_go_64 n call κ k24 x0 x1 x3 t0 σ) := by
  unfold oj_X3_go_64
  repeat' (with_reducible (first | assumption | (refine PIoN_gd ?_) | (refine PIoN_pf hP ?_ (by decide) (by with_unfolding_all rfl) (fun _ _ => ?_)) | (refine PIoN_si hP ?_ (fun _ _ => ?_)) | (refine PIoN_sj hP ?_ (fun _ _ => ?_)) | (refine PIoN_sr hP ?_ (fun _ _ => ?_)) | (refine PIoN_cy hP ?_ (fun _ _ => ?_)) | (refine PIoN_bn (fun _ => ?_)) | (refine PIoN_na hP ?_ (fun _ _ => ?_)) | (refine PIoN_no hP ?_ (fun _ _ => ?_)) | (refine PIoN_ite ?_ ?_) | (refine PIoN_some ?_) | (exact PIoN_none) | (refine hk24 _ _ _ _ _ ?_)))
theorem pioN_oj_X3_go_48 {k24 : Option Nat → Int32 → Option Nat → Int32 → oSt → oRs} {x0 : Option Nat} {x1 : Int32} {x2 : Option Nat} {x3 : Int32} {σ : oSt} (hP : iKptN P) (hc : cQoN P call) (hk24 : ∀ (a0 : Option Nat) (a1 : Int32) (a2 : Option Nat) (a3 : Int32), ∀ σ, P σ → PIo P (k24 a0 a1 a2 a3 σ)) (h : P σ) : PIo P (oj_X3_go_48 n call κ k24 x0 x1 x2 x3 σ) := by
  unfold oj_X3_go_48
  repeat' (with_reducible (first | assumption | (refine PIoN_gd ?_) | (refine PIoN_pf hP ?_ (by decide) (by with_unfolding_all rfl) (fun _ _ => ?_)) | (refine PIoN_si hP ?_ (fun _ _ => ?_)) | (refine PIoN_sj hP ?_ (fun _ _ => ?_)) | (refine PIoN_sr hP ?_ (fun _ _ => ?_)) | (refine PIoN_cy hP ?_ (fun _ _ => ?_)) | (refine PIoN_bn (fun _ => ?_)) | (refine PIoN_na hP ?_ (fun _ _ => ?_)) | (refine PIoN_no hP ?_ (fun _ _ => ?_)) | (refine PIoN_ite ?_ ?_) | (refine PIoN_some ?_) | (exact PIoN_none) | (refine PIoN_rn (cQoN.c99 hc _ _ _ ?_) (fun _ _ _ => ?_)) | (refine PIoN_rn (cQoN.c100 hc _ _ ?_) (fun _ _ _ => ?_)) | (refine pioN_oj_X3_go_64 hP hc hk24 ?_) | (refine hk24 _ _ _ _ _ ?_)))
theorem pioN_ol_X3_go_24  (hP : iKptN P) (hc : cQoN P call)  : ∀ (t : Nat) (x0 : Option Nat) (x1 : Int32) (x2 : Option Nat) (x3 : Int32) (σ : oSt), P σ → PIo P (ol_X3_go_24 n call κ  t x0 x1 x2 x3 σ) := by
  intro t
  induction t with
  | zero => intros; exact PIoN_none
  | succ t ih =>
    intro x0 x1 x2 x3 σ h
    rw [ol_X3_go_24]
    repeat' (with_reducible (first | assumption | (refine PIoN_gd ?_) | (refine PIoN_pf hP ?_ (by decide) (by with_unfolding_all rfl) (fun _ _ => ?_)) | (refine PIoN_si hP ?_ (fun _ _ => ?_)) | (refine PIoN_sj hP ?_ (fun _ _ => ?_)) | (refine PIoN_sr hP ?_ (fun _ _ => ?_)) | (refine PIoN_cy hP ?_ (fun _ _ => ?_)) | (refine PIoN_bn (fun _ => ?_)) | (refine PIoN_na hP ?_ (fun _ _ => ?_)) | (refine PIoN_no hP ?_ (fun _ _ => ?_)) | (refine PIoN_ite ?_ ?_) | (refine PIoN_some ?_) | (exact PIoN_none) | (refine pioN_oj_X3_go_71 hP hc  ?_) | (refine pioN_oj_X3_go_48 hP hc ih ?_)))
theorem pioN_ob_X3_go  {x0 : Option Nat} {x1 : Int32} {σ : oSt} (hP : iKptN P) (hc : cQoN P call)  (h : P σ) : PIo P (ob_X3_go n call κ  x0 x1 σ) := by
  unfold ob_X3_go
  repeat' (with_reducible (first | assumption | (refine PIoN_gd ?_) | (refine PIoN_pf hP ?_ (by decide) (by with_unfolding_all rfl) (fun _ _ => ?_)) | (refine PIoN_si hP ?_ (fun _ _ => ?_)) | (refine PIoN_sj hP ?_ (fun _ _ => ?_)) | (refine PIoN_sr hP ?_ (fun _ _ => ?_)) | (refine PIoN_cy hP ?_ (fun _ _ => ?_)) | (refine PIoN_bn (fun _ => ?_)) | (refine PIoN_na hP ?_ (fun _ _ => ?_)) | (refine PIoN_no hP ?_ (fun _ _ => ?_)) | (refine PIoN_ite ?_ ?_) | (refine PIoN_some ?_) | (exact PIoN_none) | (refine PIoN_cv (cQoN.c80 hc _ _ ?_) (fun _ _ => ?_)) | (refine pioN_ol_X3_go_24 hP hc  _ _ _ _ _ _ ?_)))
theorem pioN_ol_X12_lay_3  (hP : iKptN P) (hc : cQoN P call)  : ∀ (t : Nat) (x0 : Option Nat) (x1 : Int32) (x2 : Int32) (σ : oSt), P σ → PIo P (ol_X12_lay_3 n call κ  t x0 x1 x2 σ) := by
  intro t
  induction t with
  | zero => intros; exact PIoN_none
  | succ t ih =>
    intro x0 x1 x2 σ h
    rw [ol_X12_lay_3]
    repeat' (with_reducible (first | assumption | (refine PIoN_gd ?_) | (refine PIoN_pf hP ?_ (by decide) (by with_unfolding_all rfl) (fun _ _ => ?_)) | (refine PIoN_si hP ?_ (fun _ _ => ?_)) | (refine PIoN_sj hP ?_ (fun _ _ => ?_)) | (refine PIoN_sr hP ?_ (fun _ _ => ?_)) | (refine PIoN_cy hP ?_ (fun _ _ => ?_)) | (refine PIoN_bn (fun _ => ?_)) | (refine PIoN_na hP ?_ (fun _ _ => ?_)) | (refine PIoN_no hP ?_ (fun _ _ => ?_)) | (refine PIoN_ite ?_ ?_) | (refine PIoN_some ?_) | (exact PIoN_none) | (refine ih _ _ _ _ ?_)))
theorem pioN_ob_X12_lay  {x0 : Option Nat} {x1 : Int32} {σ : oSt} (hP : iKptN P) (hc : cQoN P call)  (h : P σ) : PIo P (ob_X12_lay n call κ  x0 x1 σ) := by
  unfold ob_X12_lay
  repeat' (with_reducible (first | assumption | (refine PIoN_gd ?_) | (refine PIoN_pf hP ?_ (by decide) (by with_unfolding_all rfl) (fun _ _ => ?_)) | (refine PIoN_si hP ?_ (fun _ _ => ?_)) | (refine PIoN_sj hP ?_ (fun _ _ => ?_)) | (refine PIoN_sr hP ?_ (fun _ _ => ?_)) | (refine PIoN_cy hP ?_ (fun _ _ => ?_)) | (refine PIoN_bn (fun _ => ?_)) | (refine PIoN_na hP ?_ (fun _ _ => ?_)) | (refine PIoN_no hP ?_ (fun _ _ => ?_)) | (refine PIoN_ite ?_ ?_) | (refine PIoN_some ?_) | (exact PIoN_none) | (refine pioN_ol_X12_lay_3 hP hc  _ _ _ _ _ ?_)))
theorem pioN_ob_X12_feed  {x0 : Option Nat} {x1 : Int32} {x2 : Int32} {x3 : Int32} {x4 : Int32} {x5 : Int32} {σ : oSt} (hP : iKptN P) (hc : cQoN P call)  (h : P σ) : PIo P (ob_X12_feed n call κ  x0 x1 x2 x3 x4 x5 σ) := by
  unfold ob_X12_feed
  repeat' (with_reducible (first | assumption | (refine PIoN_gd ?_) | (refine PIoN_pf hP ?_ (by decide) (by with_unfolding_all rfl) (fun _ _ => ?_)) | (refine PIoN_si hP ?_ (fun _ _ => ?_)) | (refine PIoN_sj hP ?_ (fun _ _ => ?_)) | (refine PIoN_sr hP ?_ (fun _ _ => ?_)) | (refine PIoN_cy hP ?_ (fun _ _ => ?_)) | (refine PIoN_bn (fun _ => ?_)) | (refine PIoN_na hP ?_ (fun _ _ => ?_)) | (refine PIoN_no hP ?_ (fun _ _ => ?_)) | (refine PIoN_ite ?_ ?_) | (refine PIoN_some ?_) | (exact PIoN_none) | (refine PIoN_cv (cQoN.c174 hc _ _ _ ?_) (fun _ _ => ?_))))
theorem pioN_ob_X12_end  {x0 : Option Nat} {x1 : Int32} {σ : oSt} (hP : iKptN P) (hc : cQoN P call)  (h : P σ) : PIo P (ob_X12_end n call κ  x0 x1 σ) := by
  unfold ob_X12_end
  repeat' (with_reducible (first | assumption | (refine PIoN_gd ?_) | (refine PIoN_pf hP ?_ (by decide) (by with_unfolding_all rfl) (fun _ _ => ?_)) | (refine PIoN_si hP ?_ (fun _ _ => ?_)) | (refine PIoN_sj hP ?_ (fun _ _ => ?_)) | (refine PIoN_sr hP ?_ (fun _ _ => ?_)) | (refine PIoN_cy hP ?_ (fun _ _ => ?_)) | (refine PIoN_bn (fun _ => ?_)) | (refine PIoN_na hP ?_ (fun _ _ => ?_)) | (refine PIoN_no hP ?_ (fun _ _ => ?_)) | (refine PIoN_ite ?_ ?_) | (refine PIoN_some ?_) | (exact PIoN_none)))
theorem pioN_ob_X12_place  {x0 : Option Nat} {σ : oSt} (hP : iKptN P) (hc : cQoN P call)  (h : P σ) : PIo P (ob_X12_place n call κ  x0 σ) := by
  unfold ob_X12_place
  repeat' (with_reducible (first | assumption | (refine PIoN_gd ?_) | (refine PIoN_pf hP ?_ (by decide) (by with_unfolding_all rfl) (fun _ _ => ?_)) | (refine PIoN_si hP ?_ (fun _ _ => ?_)) | (refine PIoN_sj hP ?_ (fun _ _ => ?_)) | (refine PIoN_sr hP ?_ (fun _ _ => ?_)) | (refine PIoN_cy hP ?_ (fun _ _ => ?_)) | (refine PIoN_bn (fun _ => ?_)) | (refine PIoN_na hP ?_ (fun _ _ => ?_)) | (refine PIoN_no hP ?_ (fun _ _ => ?_)) | (refine PIoN_ite ?_ ?_) | (refine PIoN_some ?_) | (exact PIoN_none)))
theorem pioN_ob_X12_out  {x0 : Option Nat} {x1 : Int32} {σ : oSt} (hP : iKptN P) (hc : cQoN P call)  (h : P σ) : PIo P (ob_X12_out n call κ  x0 x1 σ) := by
  unfold ob_X12_out
  repeat' (with_reducible (first | assumption | (refine PIoN_gd ?_) | (refine PIoN_pf hP ?_ (by decide) (by with_unfolding_all rfl) (fun _ _ => ?_)) | (refine PIoN_si hP ?_ (fun _ _ => ?_)) | (refine PIoN_sj hP ?_ (fun _ _ => ?_)) | (refine PIoN_sr hP ?_ (fun _ _ => ?_)) | (refine PIoN_cy hP ?_ (fun _ _ => ?_)) | (refine PIoN_bn (fun _ => ?_)) | (refine PIoN_na hP ?_ (fun _ _ => ?_)) | (refine PIoN_no hP ?_ (fun _ _ => ?_)) | (refine PIoN_ite ?_ ?_) | (refine PIoN_some ?_) | (exact PIoN_none)))
theorem pioN_ob_X12_give  {x0 : Option Nat} {x1 : Int32} {x2 : Int32} {σ : oSt} (hP : iKptN P) (hc : cQoN P call)  (h : P σ) : PIo P (ob_X12_give n call κ  x0 x1 x2 σ) := by
  unfold ob_X12_give
  repeat' (with_reducible (first | assumption | (refine PIoN_gd ?_) | (refine PIoN_pf hP ?_ (by decide) (by with_unfolding_all rfl) (fun _ _ => ?_)) | (refine PIoN_si hP ?_ (fun _ _ => ?_)) | (refine PIoN_sj hP ?_ (fun _ _ => ?_)) | (refine PIoN_sr hP ?_ (fun _ _ => ?_)) | (refine PIoN_cy hP ?_ (fun _ _ => ?_)) | (refine PIoN_bn (fun _ => ?_)) | (refine PIoN_na hP ?_ (fun _ _ => ?_)) | (refine PIoN_no hP ?_ (fun _ _ => ?_)) | (refine PIoN_ite ?_ ?_) | (refine PIoN_some ?_) | (exact PIoN_none) | (refine PIoN_in (cQoN.c74 hc _ _ _ _ _ ?_) (fun _ _ _ => ?_)) | (refine PIoN_rn (cQoN.c234 hc _ _ _ ?_) (fun _ _ _ => ?_))))
theorem pioN_ob_X12_element  {x0 : Option Nat} {x1 : Int32} {x2 : Int32} {x3 : Int32} {σ : oSt} (hP : iKptN P) (hc : cQoN P call)  (h : P σ) : PIo P (ob_X12_element n call κ  x0 x1 x2 x3 σ) := by
  unfold ob_X12_element
  repeat' (with_reducible (first | assumption | (refine PIoN_gd ?_) | (refine PIoN_pf hP ?_ (by decide) (by with_unfolding_all rfl) (fun _ _ => ?_)) | (refine PIoN_si hP ?_ (fun _ _ => ?_)) | (refine PIoN_sj hP ?_ (fun _ _ => ?_)) | (refine PIoN_sr hP ?_ (fun _ _ => ?_)) | (refine PIoN_cy hP ?_ (fun _ _ => ?_)) | (refine PIoN_bn (fun _ => ?_)) | (refine PIoN_na hP ?_ (fun _ _ => ?_)) | (refine PIoN_no hP ?_ (fun _ _ => ?_)) | (refine PIoN_ite ?_ ?_) | (refine PIoN_some ?_) | (exact PIoN_none) | (refine PIoN_in (cQoN.c75 hc _ _ _ _ _ ?_) (fun _ _ _ => ?_)) | (refine PIoN_rn (cQoN.c234 hc _ _ _ ?_) (fun _ _ _ => ?_))))
theorem pioN_ob_X12_run  {x0 : Option Nat} {x1 : Int32} {σ : oSt} (hP : iKptN P) (hc : cQoN P call)  (h : P σ) : PIo P (ob_X12_run n call κ  x0 x1 σ) := by
  unfold ob_X12_run
  repeat' (with_reducible (first | assumption | (refine PIoN_gd ?_) | (refine PIoN_pf hP ?_ (by decide) (by with_unfolding_all rfl) (fun _ _ => ?_)) | (refine PIoN_si hP ?_ (fun _ _ => ?_)) | (refine PIoN_sj hP ?_ (fun _ _ => ?_)) | (refine PIoN_sr hP ?_ (fun _ _ => ?_)) | (refine PIoN_cy hP ?_ (fun _ _ => ?_)) | (refine PIoN_bn (fun _ => ?_)) | (refine PIoN_na hP ?_ (fun _ _ => ?_)) | (refine PIoN_no hP ?_ (fun _ _ => ?_)) | (refine PIoN_ite ?_ ?_) | (refine PIoN_some ?_) | (exact PIoN_none) | (refine PIoN_in (cQoN.c101 hc _ _ _ ?_) (fun _ _ _ => ?_))))
theorem pioN_ob_X12_value  {x0 : Option Nat} {σ : oSt} (hP : iKptN P) (hc : cQoN P call)  (h : P σ) : PIo P (ob_X12_value n call κ  x0 σ) := by
  unfold ob_X12_value
  repeat' (with_reducible (first | assumption | (refine PIoN_gd ?_) | (refine PIoN_pf hP ?_ (by decide) (by with_unfolding_all rfl) (fun _ _ => ?_)) | (refine PIoN_si hP ?_ (fun _ _ => ?_)) | (refine PIoN_sj hP ?_ (fun _ _ => ?_)) | (refine PIoN_sr hP ?_ (fun _ _ => ?_)) | (refine PIoN_cy hP ?_ (fun _ _ => ?_)) | (refine PIoN_bn (fun _ => ?_)) | (refine PIoN_na hP ?_ (fun _ _ => ?_)) | (refine PIoN_no hP ?_ (fun _ _ => ?_)) | (refine PIoN_ite ?_ ?_) | (refine PIoN_some ?_) | (exact PIoN_none)))
theorem pioN_ob_X12_fuel  {x0 : Option Nat} {σ : oSt} (hP : iKptN P) (hc : cQoN P call)  (h : P σ) : PIo P (ob_X12_fuel n call κ  x0 σ) := by
  unfold ob_X12_fuel
  repeat' (with_reducible (first | assumption | (refine PIoN_gd ?_) | (refine PIoN_pf hP ?_ (by decide) (by with_unfolding_all rfl) (fun _ _ => ?_)) | (refine PIoN_si hP ?_ (fun _ _ => ?_)) | (refine PIoN_sj hP ?_ (fun _ _ => ?_)) | (refine PIoN_sr hP ?_ (fun _ _ => ?_)) | (refine PIoN_cy hP ?_ (fun _ _ => ?_)) | (refine PIoN_bn (fun _ => ?_)) | (refine PIoN_na hP ?_ (fun _ _ => ?_)) | (refine PIoN_no hP ?_ (fun _ _ => ?_)) | (refine PIoN_ite ?_ ?_) | (refine PIoN_some ?_) | (exact PIoN_none)))
theorem pioN_ob_J15_checkIndex_7cf53  {x0 : Int32} {x1 : Int32} {σ : oSt} (hP : iKptN P) (hc : cQoN P call)  (h : P σ) : PIo P (ob_J15_checkIndex_7cf53 n call κ  x0 x1 σ) := by
  unfold ob_J15_checkIndex_7cf53
  repeat' (with_reducible (first | assumption | (refine PIoN_gd ?_) | (refine PIoN_pf hP ?_ (by decide) (by with_unfolding_all rfl) (fun _ _ => ?_)) | (refine PIoN_si hP ?_ (fun _ _ => ?_)) | (refine PIoN_sj hP ?_ (fun _ _ => ?_)) | (refine PIoN_sr hP ?_ (fun _ _ => ?_)) | (refine PIoN_cy hP ?_ (fun _ _ => ?_)) | (refine PIoN_bn (fun _ => ?_)) | (refine PIoN_na hP ?_ (fun _ _ => ?_)) | (refine PIoN_no hP ?_ (fun _ _ => ?_)) | (refine PIoN_ite ?_ ?_) | (refine PIoN_some ?_) | (exact PIoN_none) | (refine PIoN_in (cQoN.c206 hc _ _ _ _ ?_) (fun _ _ _ => ?_))))
theorem pioN_oj_J3_checkIndex_8e157_9  {x0 : Int32} {x1 : Int32} {x2 : Option Nat} {σ : oSt} (hP : iKptN P) (hc : cQoN P call)  (h : P σ) : PIo P (oj_J3_checkIndex_8e157_9 n call κ  x0 x1 x2 σ) := by
  unfold oj_J3_checkIndex_8e157_9
  repeat' (with_reducible (first | assumption | (refine PIoN_gd ?_) | (refine PIoN_pf hP ?_ (by decide) (by with_unfolding_all rfl) (fun _ _ => ?_)) | (refine PIoN_si hP ?_ (fun _ _ => ?_)) | (refine PIoN_sj hP ?_ (fun _ _ => ?_)) | (refine PIoN_sr hP ?_ (fun _ _ => ?_)) | (refine PIoN_cy hP ?_ (fun _ _ => ?_)) | (refine PIoN_bn (fun _ => ?_)) | (refine PIoN_na hP ?_ (fun _ _ => ?_)) | (refine PIoN_no hP ?_ (fun _ _ => ?_)) | (refine PIoN_ite ?_ ?_) | (refine PIoN_some ?_) | (exact PIoN_none)))
theorem pioN_ob_J3_checkIndex_8e157  {x0 : Int32} {x1 : Int32} {x2 : Option Nat} {σ : oSt} (hP : iKptN P) (hc : cQoN P call)  (h : P σ) : PIo P (ob_J3_checkIndex_8e157 n call κ  x0 x1 x2 σ) := by
  unfold ob_J3_checkIndex_8e157
  repeat' (with_reducible (first | assumption | (refine PIoN_gd ?_) | (refine PIoN_pf hP ?_ (by decide) (by with_unfolding_all rfl) (fun _ _ => ?_)) | (refine PIoN_si hP ?_ (fun _ _ => ?_)) | (refine PIoN_sj hP ?_ (fun _ _ => ?_)) | (refine PIoN_sr hP ?_ (fun _ _ => ?_)) | (refine PIoN_cy hP ?_ (fun _ _ => ?_)) | (refine PIoN_bn (fun _ => ?_)) | (refine PIoN_na hP ?_ (fun _ _ => ?_)) | (refine PIoN_no hP ?_ (fun _ _ => ?_)) | (refine PIoN_ite ?_ ?_) | (refine PIoN_some ?_) | (exact PIoN_none) | (refine pioN_oj_J3_checkIndex_8e157_9 hP hc  ?_)))
theorem pioN_ob_Jx4a65c_get_915e3  {x0 : Option Nat} {x1 : Int32} {σ : oSt} (hP : iKptN P) (hc : cQoN P call)  (h : P σ) : PIo P (ob_Jx4a65c_get_915e3 n call κ  x0 x1 σ) := by
  unfold ob_Jx4a65c_get_915e3
  repeat' (with_reducible (first | assumption | (refine PIoN_gd ?_) | (refine PIoN_pf hP ?_ (by decide) (by with_unfolding_all rfl) (fun _ _ => ?_)) | (refine PIoN_si hP ?_ (fun _ _ => ?_)) | (refine PIoN_sj hP ?_ (fun _ _ => ?_)) | (refine PIoN_sr hP ?_ (fun _ _ => ?_)) | (refine PIoN_cy hP ?_ (fun _ _ => ?_)) | (refine PIoN_bn (fun _ => ?_)) | (refine PIoN_na hP ?_ (fun _ _ => ?_)) | (refine PIoN_no hP ?_ (fun _ _ => ?_)) | (refine PIoN_ite ?_ ?_) | (refine PIoN_some ?_) | (exact PIoN_none) | (refine PIoN_in (cQoN.c205 hc _ _ _ ?_) (fun _ _ _ => ?_)) | (refine PIoN_rn (cQoN.c235 hc _ _ _ ?_) (fun _ _ _ => ?_))))
theorem pioN_ob_Jx4a65c_elementData_915e3  {x0 : Option Nat} {x1 : Int32} {σ : oSt} (hP : iKptN P) (hc : cQoN P call)  (h : P σ) : PIo P (ob_Jx4a65c_elementData_915e3 n call κ  x0 x1 σ) := by
  unfold ob_Jx4a65c_elementData_915e3
  repeat' (with_reducible (first | assumption | (refine PIoN_gd ?_) | (refine PIoN_pf hP ?_ (by decide) (by with_unfolding_all rfl) (fun _ _ => ?_)) | (refine PIoN_si hP ?_ (fun _ _ => ?_)) | (refine PIoN_sj hP ?_ (fun _ _ => ?_)) | (refine PIoN_sr hP ?_ (fun _ _ => ?_)) | (refine PIoN_cy hP ?_ (fun _ _ => ?_)) | (refine PIoN_bn (fun _ => ?_)) | (refine PIoN_na hP ?_ (fun _ _ => ?_)) | (refine PIoN_no hP ?_ (fun _ _ => ?_)) | (refine PIoN_ite ?_ ?_) | (refine PIoN_some ?_) | (exact PIoN_none)))
theorem pioN_ob_Jx4a65c_size_8abf5  {x0 : Option Nat} {σ : oSt} (hP : iKptN P) (hc : cQoN P call)  (h : P σ) : PIo P (ob_Jx4a65c_size_8abf5 n call κ  x0 σ) := by
  unfold ob_Jx4a65c_size_8abf5
  repeat' (with_reducible (first | assumption | (refine PIoN_gd ?_) | (refine PIoN_pf hP ?_ (by decide) (by with_unfolding_all rfl) (fun _ _ => ?_)) | (refine PIoN_si hP ?_ (fun _ _ => ?_)) | (refine PIoN_sj hP ?_ (fun _ _ => ?_)) | (refine PIoN_sr hP ?_ (fun _ _ => ?_)) | (refine PIoN_cy hP ?_ (fun _ _ => ?_)) | (refine PIoN_bn (fun _ => ?_)) | (refine PIoN_na hP ?_ (fun _ _ => ?_)) | (refine PIoN_no hP ?_ (fun _ _ => ?_)) | (refine PIoN_ite ?_ ?_) | (refine PIoN_some ?_) | (exact PIoN_none)))
theorem pioN_ob_J7_copyOf_c38d5  {x0 : Option Nat} {x1 : Int32} {σ : oSt} (hP : iKptN P) (hc : cQoN P call)  (h : P σ) : PIo P (ob_J7_copyOf_c38d5 n call κ  x0 x1 σ) := by
  unfold ob_J7_copyOf_c38d5
  repeat' (with_reducible (first | assumption | (refine PIoN_gd ?_) | (refine PIoN_pf hP ?_ (by decide) (by with_unfolding_all rfl) (fun _ _ => ?_)) | (refine PIoN_si hP ?_ (fun _ _ => ?_)) | (refine PIoN_sj hP ?_ (fun _ _ => ?_)) | (refine PIoN_sr hP ?_ (fun _ _ => ?_)) | (refine PIoN_cy hP ?_ (fun _ _ => ?_)) | (refine PIoN_bn (fun _ => ?_)) | (refine PIoN_na hP ?_ (fun _ _ => ?_)) | (refine PIoN_no hP ?_ (fun _ _ => ?_)) | (refine PIoN_ite ?_ ?_) | (refine PIoN_some ?_) | (exact PIoN_none)))
theorem pioN_ol_J7_fill_53178_5  (hP : iKptN P) (hc : cQoN P call)  : ∀ (t : Nat) (x0 : Option Nat) (x1 : Int32) (x2 : Int32) (x3 : Int32) (σ : oSt), P σ → PIo P (ol_J7_fill_53178_5 n call κ  t x0 x1 x2 x3 σ) := by
  intro t
  induction t with
  | zero => intros; exact PIoN_none
  | succ t ih =>
    intro x0 x1 x2 x3 σ h
    rw [ol_J7_fill_53178_5]
    repeat' (with_reducible (first | assumption | (refine PIoN_gd ?_) | (refine PIoN_pf hP ?_ (by decide) (by with_unfolding_all rfl) (fun _ _ => ?_)) | (refine PIoN_si hP ?_ (fun _ _ => ?_)) | (refine PIoN_sj hP ?_ (fun _ _ => ?_)) | (refine PIoN_sr hP ?_ (fun _ _ => ?_)) | (refine PIoN_cy hP ?_ (fun _ _ => ?_)) | (refine PIoN_bn (fun _ => ?_)) | (refine PIoN_na hP ?_ (fun _ _ => ?_)) | (refine PIoN_no hP ?_ (fun _ _ => ?_)) | (refine PIoN_ite ?_ ?_) | (refine PIoN_some ?_) | (exact PIoN_none) | (refine ih _ _ _ _ _ ?_)))
theorem pioN_ob_J7_fill_53178  {x0 : Option Nat} {x1 : Int32} {σ : oSt} (hP : iKptN P) (hc : cQoN P call)  (h : P σ) : PIo P (ob_J7_fill_53178 n call κ  x0 x1 σ) := by
  unfold ob_J7_fill_53178
  repeat' (with_reducible (first | assumption | (refine PIoN_gd ?_) | (refine PIoN_pf hP ?_ (by decide) (by with_unfolding_all rfl) (fun _ _ => ?_)) | (refine PIoN_si hP ?_ (fun _ _ => ?_)) | (refine PIoN_sj hP ?_ (fun _ _ => ?_)) | (refine PIoN_sr hP ?_ (fun _ _ => ?_)) | (refine PIoN_cy hP ?_ (fun _ _ => ?_)) | (refine PIoN_bn (fun _ => ?_)) | (refine PIoN_na hP ?_ (fun _ _ => ?_)) | (refine PIoN_no hP ?_ (fun _ _ => ?_)) | (refine PIoN_ite ?_ ?_) | (refine PIoN_some ?_) | (exact PIoN_none) | (refine pioN_ol_J7_fill_53178_5 hP hc  _ _ _ _ _ _ ?_)))
theorem pioN_ob_J9_floorDiv_f86c9  {x0 : Int64} {x2 : Int64} {σ : oSt} (hP : iKptN P) (hc : cQoN P call)  (h : P σ) : PIo P (ob_J9_floorDiv_f86c9 n call κ  x0 x2 σ) := by
  unfold ob_J9_floorDiv_f86c9
  repeat' (with_reducible (first | assumption | (refine PIoN_gd ?_) | (refine PIoN_pf hP ?_ (by decide) (by with_unfolding_all rfl) (fun _ _ => ?_)) | (refine PIoN_si hP ?_ (fun _ _ => ?_)) | (refine PIoN_sj hP ?_ (fun _ _ => ?_)) | (refine PIoN_sr hP ?_ (fun _ _ => ?_)) | (refine PIoN_cy hP ?_ (fun _ _ => ?_)) | (refine PIoN_bn (fun _ => ?_)) | (refine PIoN_na hP ?_ (fun _ _ => ?_)) | (refine PIoN_no hP ?_ (fun _ _ => ?_)) | (refine PIoN_ite ?_ ?_) | (refine PIoN_some ?_) | (exact PIoN_none)))
theorem pioN_ob_J9_floorMod_f86c9  {x0 : Int64} {x2 : Int64} {σ : oSt} (hP : iKptN P) (hc : cQoN P call)  (h : P σ) : PIo P (ob_J9_floorMod_f86c9 n call κ  x0 x2 σ) := by
  unfold ob_J9_floorMod_f86c9
  repeat' (with_reducible (first | assumption | (refine PIoN_gd ?_) | (refine PIoN_pf hP ?_ (by decide) (by with_unfolding_all rfl) (fun _ _ => ?_)) | (refine PIoN_si hP ?_ (fun _ _ => ?_)) | (refine PIoN_sj hP ?_ (fun _ _ => ?_)) | (refine PIoN_sr hP ?_ (fun _ _ => ?_)) | (refine PIoN_cy hP ?_ (fun _ _ => ?_)) | (refine PIoN_bn (fun _ => ?_)) | (refine PIoN_na hP ?_ (fun _ _ => ?_)) | (refine PIoN_no hP ?_ (fun _ _ => ?_)) | (refine PIoN_ite ?_ ?_) | (refine PIoN_some ?_) | (exact PIoN_none)))
/-- **all of them, however deep** -/
theorem cQoN_oF (hP : iKptN P) (T : Nat) : ∀ n, cQoN P (oF κ T n) := by
  intro n
  induction n with
  | zero =>
    refine ⟨?_, ?_, ?_, ?_, ?_, ?_, ?_, ?_, ?_, ?_, ?_, ?_, ?_, ?_, ?_, ?_, ?_, ?_, ?_, ?_, ?_, ?_, ?_, ?_, ?_, ?_, ?_, ?_, ?_, ?_, ?_, ?_, ?_, ?_, ?_, ?_, ?_, ?_, ?_, ?_, ?_, ?_, ?_, ?_, ?_, ?_, ?_⟩ <;> (intros; exact fun w e => by cases e)
  | succ n hc =>
    refine ⟨?_, ?_, ?_, ?_, ?_, ?_, ?_, ?_, ?_, ?_, ?_, ?_, ?_, ?_, ?_, ?_, ?_, ?_, ?_, ?_, ?_, ?_, ?_, ?_, ?_, ?_, ?_, ?_, ?_, ?_, ?_, ?_, ?_, ?_, ?_, ?_, ?_, ?_, ?_, ?_, ?_, ?_, ?_, ?_, ?_, ?_, ?_⟩
    · intro x0 x1 x2 x3 σ h
      rw [oE_X3_set]
      exact pioN_ob_X3_set hP hc h
    · intro x0 x1 x2 x3 σ h
      rw [oE_X3_setElement]
      exact pioN_ob_X3_setElement hP hc h
    · intro x0 x1 σ h
      rw [oE_X3_room]
      exact pioN_ob_X3_room hP hc h
    · intro x0 x1 σ h
      rw [oE_X3_array]
      exact pioN_ob_X3_array hP hc h
    · intro x0 x1 σ h
      rw [oE_X3_givenArray]
      exact pioN_ob_X3_givenArray hP hc h
    · intro x0 x1 x2 σ h
      rw [oE_X3_pair]
      exact pioN_ob_X3_pair hP hc h
    · intro x0 σ h
      rw [oE_X3_begin]
      exact pioN_ob_X3_begin hP hc h
    · intro x0 x1 x2 x3 σ h
      rw [oE_X3_await]
      exact pioN_ob_X3_await hP hc h
    · intro x0 x1 x2 x3 σ h
      rw [oE_X3_triple]
      exact pioN_ob_X3_triple hP hc h
    · intro x0 x1 x2 σ h
      rw [oE_X3_valueOf]
      exact pioN_ob_X3_valueOf hP hc h
    · intro x0 x1 x2 σ h
      rw [oE_X3_measure]
      exact pioN_ob_X3_measure hP hc h
    · intro x0 x1 σ h
      rw [oE_X3_sum]
      exact pioN_ob_X3_sum hP hc h
    · intro x0 x1 x2 x3 σ h
      rw [oE_X3_stands]
      exact pioN_ob_X3_stands hP hc h
    · intro x0 x1 σ h
      rw [oE_X3_holds]
      exact pioN_ob_X3_holds hP hc h
    · intro x0 x1 σ h
      rw [oE_X3_elementOf]
      exact pioN_ob_X3_elementOf hP hc h
    · intro x0 x1 σ h
      rw [oE_X3_change]
      exact pioN_ob_X3_change hP hc h
    · intro x0 x1 σ h
      rw [oE_X3_match]
      exact pioN_ob_X3_match hP hc h
    · intro x0 x1 σ h
      rw [oE_X3_argument]
      exact pioN_ob_X3_argument hP hc h
    · intro x0 x1 x2 σ h
      rw [oE_X3_apply]
      exact pioN_ob_X3_apply hP hc h
    · intro x0 x1 σ h
      rw [oE_X3_call]
      exact pioN_ob_X3_call hP hc h
    · intro x0 x1 σ h
      rw [oE_X3_newArray]
      exact pioN_ob_X3_newArray hP hc h
    · intro x0 x1 σ h
      rw [oE_X3_cons]
      exact pioN_ob_X3_cons hP hc h
    · intro x0 x1 x2 σ h
      rw [oE_X3_product]
      exact pioN_ob_X3_product hP hc h
    · intro x0 x1 σ h
      rw [oE_X3_quotient]
      exact pioN_ob_X3_quotient hP hc h
    · intro x0 x1 σ h
      rw [oE_X3_plain]
      exact pioN_ob_X3_plain hP hc h
    · intro x0 x1 σ h
      rw [oE_X3_start]
      exact pioN_ob_X3_start hP hc h
    · intro x0 σ h
      rw [oE_X3_resume]
      exact pioN_ob_X3_resume hP hc h
    · intro x0 x1 σ h
      rw [oE_X3_go]
      exact pioN_ob_X3_go hP hc h
    · intro x0 x1 σ h
      rw [oE_X12_lay]
      exact pioN_ob_X12_lay hP hc h
    · intro x0 x1 x2 x3 x4 x5 σ h
      rw [oE_X12_feed]
      exact pioN_ob_X12_feed hP hc h
    · intro x0 x1 σ h
      rw [oE_X12_end]
      exact pioN_ob_X12_end hP hc h
    · intro x0 σ h
      rw [oE_X12_place]
      exact pioN_ob_X12_place hP hc h
    · intro x0 x1 σ h
      rw [oE_X12_out]
      exact pioN_ob_X12_out hP hc h
    · intro x0 x1 x2 σ h
      rw [oE_X12_give]
      exact pioN_ob_X12_give hP hc h
    · intro x0 x1 x2 x3 σ h
      rw [oE_X12_element]
      exact pioN_ob_X12_element hP hc h
    · intro x0 x1 σ h
      rw [oE_X12_run]
      exact pioN_ob_X12_run hP hc h
    · intro x0 σ h
      rw [oE_X12_value]
      exact pioN_ob_X12_value hP hc h
    · intro x0 σ h
      rw [oE_X12_fuel]
      exact pioN_ob_X12_fuel hP hc h
    · intro x0 x1 σ h
      rw [oE_J15_checkIndex_7cf53]
      exact pioN_ob_J15_checkIndex_7cf53 hP hc h
    · intro x0 x1 x2 σ h
      rw [oE_J3_checkIndex_8e157]
      exact pioN_ob_J3_checkIndex_8e157 hP hc h
    · intro x0 x1 σ h
      rw [oE_Jx4a65c_get_915e3]
      exact pioN_ob_Jx4a65c_get_915e3 hP hc h
    · intro x0 x1 σ h
      rw [oE_Jx4a65c_elementData_915e3]
      exact pioN_ob_Jx4a65c_elementData_915e3 hP hc h
    · intro x0 σ h
      rw [oE_Jx4a65c_size_8abf5]
      exact pioN_ob_Jx4a65c_size_8abf5 hP hc h
    · intro x0 x1 σ h
      rw [oE_J7_copyOf_c38d5]
      exact pioN_ob_J7_copyOf_c38d5 hP hc h
    · intro x0 x1 σ h
      rw [oE_J7_fill_53178]
      exact pioN_ob_J7_fill_53178 hP hc h
    · intro x0 x1 σ h
      rw [oE_J9_floorDiv_f86c9]
      exact pioN_ob_J9_floorDiv_f86c9 hP hc h
    · intro x0 x1 σ h
      rw [oE_J9_floorMod_f86c9]
      exact pioN_ob_J9_floorMod_f86c9 hP hc h
end OPGN
