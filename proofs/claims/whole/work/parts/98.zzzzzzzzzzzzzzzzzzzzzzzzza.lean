/-! what the methods that are called keep (made by wip/opigen.py) -/
/-- which fields are written -/
def wrlK : List (Nat × Nat) := [(0, 0), (0, 1), (1, 0), (1, 1), (1, 2), (5, 0), (5, 1), (5, 16), (6, 0), (6, 1), (6, 2), (6, 3), (7, 0), (7, 1), (7, 2), (7, 3), (7, 4), (7, 5), (7, 6), (7, 7), (7, 8), (7, 9), (7, 10), (7, 11), (7, 12), (7, 13), (7, 14), (7, 15), (7, 16), (7, 17), (7, 18), (7, 19), (9, 0), (9, 1), (9, 2), (9, 3), (9, 4), (9, 5), (9, 6), (9, 7), (9, 8), (9, 9), (9, 10), (9, 11), (9, 12), (9, 13), (9, 14), (9, 15), (9, 16), (9, 17), (11, 0), (11, 1), (11, 2), (11, 3), (12, 0), (12, 1), (12, 2), (12, 3), (12, 4), (12, 5), (12, 6), (12, 7), (12, 8), (12, 9), (13, 0), (13, 1), (13, 2), (13, 3), (13, 4), (13, 5), (14, 1), (14, 2), (14, 3), (14, 4), (14, 5)]
/-- P is kept by new cells and single writes -/
def iKptK (P : oSt → Prop) : Prop := (∀ σ y n, P σ → P (onew σ (.inl y) n)) ∧ (∀ σ k n, P σ → P (onew σ (.inr (k, odef k)) n)) ∧ (∀ σ a ci fs k v, P σ → σ.1 a = some (.inr (ci, fs)) → (ci, k) ∈ wrlK → wIv8 ci k v = true → P (oput σ a (.inr (ci, fs.set k v)))) ∧ (∀ σ a y y', P σ → σ.1 a = some (.inl y) → P (oput σ a (.inl y'))) ∧ ∀ n call κ x0 x1 σ, P σ → PIo P (ob_X2_makeRoom n call κ x0 x1 σ)
section PIBK
variable {P : oSt → Prop}
theorem PIoK_none : PIo P none := fun w h => by cases h
theorem PIoK_some {x : Option Value} {σ : oSt} (h : P σ) : PIo P (some (x, σ)) := fun w e => by
  injection e with e
  rw [← e]; exact h
theorem PIoK_gd {b : Bool} {r : oRs} (h : PIo P r) : PIo P (ogd b r) := by
  unfold ogd
  split
  · exact h
  · exact PIoK_none
theorem PIoK_ite {c : Prop} [Decidable c] {a b : oRs} (h : PIo P a) (g : PIo P b) : PIo P (if c then a else b) := by
  split
  · exact h
  · exact g
theorem PIoK_bn {α : Type} {x : Option α} {f : α → oRs} (h : ∀ a, PIo P (f a)) : PIo P (obn x f) := by
  unfold obn
  split
  · exact h _
  · exact PIoK_none
theorem PIoK_bs {x : Option oSt} {f : oSt → oRs} (h : ∀ s, x = some s → P s) (g : ∀ s, P s → PIo P (f s)) : PIo P (obn x f) := by
  unfold obn
  split
  · exact g _ (h _ rfl)
  · exact PIoK_none
theorem PIoK_pf (hP : iKptK P) {σ : oSt} {r : Option Nat} {ci k : Nat} {x : Value} {f : oSt → oRs} (h : P σ) (hw : (ci, k) ∈ wrlK) (hv : wIv8 ci k x = true) (g : ∀ s, P s → PIo P (f s)) : PIo P (obn (opf σ r ci k x) f) := PIoK_bs (fun s e => by
  unfold opf at e
  split at e
  · split at e
    · rename_i o e1
      split at e
      · rename_i c
        injection e with e
        rw [← e]
        obtain ⟨oi, ofs⟩ := o
        obtain ⟨c1, -⟩ := c
        have c1 : oi = ci := c1
        subst c1
        exact hP.2.2.1 σ _ oi ofs k x h e1 hw hv
      · cases e
    · cases e
  · cases e) g
theorem PIoK_si (hP : iKptK P) {σ : oSt} {r : Option Nat} {ty : FieldType} {i x : Int32} {f : oSt → oRs} (h : P σ) (g : ∀ s, P s → PIo P (f s)) : PIo P (obn (osi σ r ty i x) f) := PIoK_bs (fun s e => by
  unfold osi at e
  repeat' split at e
  all_goals first
    | (cases e; done)
    | (injection e with e; rw [← e]; exact hP.2.2.2.1 σ _ _ _ h (by assumption))) g
theorem PIoK_sj (hP : iKptK P) {σ : oSt} {r : Option Nat} {i : Int32} {x : Int64} {f : oSt → oRs} (h : P σ) (g : ∀ s, P s → PIo P (f s)) : PIo P (obn (osj σ r i x) f) := PIoK_bs (fun s e => by
  unfold osj at e
  repeat' split at e
  all_goals first
    | (cases e; done)
    | (injection e with e; rw [← e]; exact hP.2.2.2.1 σ _ _ _ h (by assumption))) g
theorem PIoK_sr (hP : iKptK P) {σ : oSt} {r : Option Nat} {i : Int32} {y : Option Nat} {f : oSt → oRs} (h : P σ) (g : ∀ s, P s → PIo P (f s)) : PIo P (obn (osr σ r i y) f) := PIoK_bs (fun s e => by
  unfold osr at e
  repeat' split at e
  all_goals first
    | (cases e; done)
    | (injection e with e; rw [← e]; exact hP.2.2.2.1 σ _ _ _ h (by assumption))) g
theorem PIoK_cy (hP : iKptK P) {σ : oSt} {r0 r1 : Option Nat} {sp dp n : Int32} {f : oSt → oRs} (h : P σ) (g : ∀ s, P s → PIo P (f s)) : PIo P (obn (ocy σ r0 sp r1 dp n) f) := PIoK_bs (fun s e => by
  unfold ocy at e
  repeat' split at e
  all_goals first
    | (cases e; done)
    | (injection e with e; rw [← e]; exact hP.2.2.2.1 σ _ _ _ h (by assumption))) g
theorem PIoK_na (hP : iKptK P) {σ : oSt} {y} {n : Nat} {f : oSt → oRs} (h : P σ) (g : ∀ s, P s → PIo P (f s)) : PIo P (olet (onew σ (.inl y) n) f) := g _ (hP.1 σ y n h)
theorem PIoK_no (hP : iKptK P) {σ : oSt} {k n : Nat} {f : oSt → oRs} (h : P σ) (g : ∀ s, P s → PIo P (f s)) : PIo P (olet (onew σ (.inr (k, odef k)) n) f) := g _ (hP.2.1 σ k n h)
theorem PIoK_cv {r : oRs} {f : oSt → oRs} (h : PIo P r) (g : ∀ s, P s → PIo P (f s)) : PIo P (ocv r f) := by
  unfold ocv
  split
  · exact g _ (h _ rfl)
  · exact PIoK_none
theorem PIoK_in {r : oRs} {f : Int32 → oSt → oRs} (h : PIo P r) (g : ∀ x s, P s → PIo P (f x s)) : PIo P (oin r f) := by
  unfold oin
  split
  · exact g _ _ (h _ rfl)
  · exact PIoK_none
theorem PIoK_rn {r : oRs} {f : Option Nat → oSt → oRs} (h : PIo P r) (g : ∀ x s, P s → PIo P (f x s)) : PIo P (orn r f) := by
  unfold orn
  split
  · exact g _ _ (h _ rfl)
  · exact g _ _ (h _ rfl)
  · exact PIoK_none
theorem PIoK_ln {r : oRs} {f : Int64 → oSt → oRs} (h : PIo P r) (g : ∀ x s, P s → PIo P (f x s)) : PIo P (oln' r f) := by
  unfold oln'
  split
  · exact g _ _ (h _ rfl)
  · exact PIoK_none
end PIBK
/-- what is called keeps P -/
def cQoK (P : oSt → Prop) (call : oCl) : Prop := (∀ (x0 : Option Nat) (x1 : Option Nat) (x2 : Int32), ∀ σ, P σ → PIo P (call 7 [va_rf x0, va_rf x1, .int x2] σ)) ∧ (∀ (x0 : Option Nat), ∀ σ, P σ → PIo P (call 8 [va_rf x0] σ)) ∧ (∀ (x0 : Option Nat) (x1 : Option Nat), ∀ σ, P σ → PIo P (call 9 [va_rf x0, va_rf x1] σ)) ∧ (∀ (x0 : Option Nat) (x1 : Option Nat) (x2 : Int32), ∀ σ, P σ → PIo P (call 10 [va_rf x0, va_rf x1, .int x2] σ)) ∧ (∀ (x0 : Option Nat) (x1 : Int32) (x2 : Int64), ∀ σ, P σ → PIo P (call 11 [va_rf x0, .int x1, .long x2] σ)) ∧ (∀ (x0 : Option Nat), ∀ σ, P σ → PIo P (call 14 [va_rf x0] σ)) ∧ (∀ (x0 : Option Nat) (x1 : Int32), ∀ σ, P σ → PIo P (call 21 [va_rf x0, .int x1] σ)) ∧ (∀ (x0 : Option Nat) (x1 : Int32), ∀ σ, P σ → PIo P (call 22 [va_rf x0, .int x1] σ)) ∧ (∀ (x0 : Option Nat), ∀ σ, P σ → PIo P (call 38 [va_rf x0] σ)) ∧ (∀ (x0 : Option Nat), ∀ σ, P σ → PIo P (call 72 [va_rf x0] σ)) ∧ (∀ (x0 : Option Nat) (x1 : Option Nat) (x2 : Int32), ∀ σ, P σ → PIo P (call 73 [va_rf x0, va_rf x1, .int x2] σ)) ∧ (∀ (x0 : Option Nat) (x1 : Int32) (x2 : Int32) (x3 : Int32), ∀ σ, P σ → PIo P (call 102 [va_rf x0, .int x1, .int x2, .int x3] σ)) ∧ (∀ (x0 : Option Nat) (x1 : Option Nat), ∀ σ, P σ → PIo P (call 103 [va_rf x0, va_rf x1] σ)) ∧ (∀ (x0 : Option Nat), ∀ σ, P σ → PIo P (call 104 [va_rf x0] σ)) ∧ (∀ (x0 : Option Nat), ∀ σ, P σ → PIo P (call 105 [va_rf x0] σ)) ∧ (∀ (x0 : Option Nat), ∀ σ, P σ → PIo P (call 106 [va_rf x0] σ)) ∧ (∀ (x0 : Option Nat), ∀ σ, P σ → PIo P (call 107 [va_rf x0] σ)) ∧ (∀ (x0 : Option Nat) (x1 : Int32), ∀ σ, P σ → PIo P (call 108 [va_rf x0, .int x1] σ)) ∧ (∀ (x0 : Int32), ∀ σ, P σ → PIo P (call 109 [.int x0] σ)) ∧ (∀ (x0 : Option Nat) (x1 : Int32), ∀ σ, P σ → PIo P (call 110 [va_rf x0, .int x1] σ)) ∧ (∀ (x0 : Option Nat), ∀ σ, P σ → PIo P (call 111 [va_rf x0] σ)) ∧ (∀ (x0 : Option Nat), ∀ σ, P σ → PIo P (call 112 [va_rf x0] σ)) ∧ (∀ (x0 : Option Nat) (x1 : Int32), ∀ σ, P σ → PIo P (call 113 [va_rf x0, .int x1] σ)) ∧ (∀ (x0 : Option Nat) (x1 : Option Nat), ∀ σ, P σ → PIo P (call 114 [va_rf x0, va_rf x1] σ)) ∧ (∀ (x0 : Option Nat), ∀ σ, P σ → PIo P (call 115 [va_rf x0] σ)) ∧ (∀ (x0 : Option Nat) (x1 : Option Nat), ∀ σ, P σ → PIo P (call 116 [va_rf x0, va_rf x1] σ)) ∧ (∀ (x0 : Option Nat), ∀ σ, P σ → PIo P (call 117 [va_rf x0] σ)) ∧ (∀ (x0 : Option Nat) (x1 : Int32), ∀ σ, P σ → PIo P (call 118 [va_rf x0, .int x1] σ)) ∧ (∀ (x0 : Option Nat), ∀ σ, P σ → PIo P (call 119 [va_rf x0] σ)) ∧ (∀ (x0 : Option Nat) (x1 : Int32), ∀ σ, P σ → PIo P (call 120 [va_rf x0, .int x1] σ)) ∧ (∀ (x0 : Option Nat), ∀ σ, P σ → PIo P (call 121 [va_rf x0] σ)) ∧ (∀ (x0 : Option Nat) (x1 : Int32), ∀ σ, P σ → PIo P (call 122 [va_rf x0, .int x1] σ)) ∧ (∀ (x0 : Option Nat) (x1 : Option Nat) (x2 : Int32), ∀ σ, P σ → PIo P (call 123 [va_rf x0, va_rf x1, .int x2] σ)) ∧ (∀ (x0 : Option Nat) (x1 : Option Nat) (x2 : Int32), ∀ σ, P σ → PIo P (call 124 [va_rf x0, va_rf x1, .int x2] σ)) ∧ (∀ (x0 : Option Nat) (x1 : Option Nat), ∀ σ, P σ → PIo P (call 125 [va_rf x0, va_rf x1] σ)) ∧ (∀ (x0 : Option Nat) (x1 : Int32), ∀ σ, P σ → PIo P (call 126 [va_rf x0, .int x1] σ)) ∧ (∀ (x0 : Option Nat) (x1 : Int32), ∀ σ, P σ → PIo P (call 127 [va_rf x0, .int x1] σ)) ∧ (∀ (x0 : Option Nat) (x1 : Int32), ∀ σ, P σ → PIo P (call 128 [va_rf x0, .int x1] σ)) ∧ (∀ (x0 : Option Nat) (x1 : Int32), ∀ σ, P σ → PIo P (call 129 [va_rf x0, .int x1] σ)) ∧ (∀ (x0 : Int32), ∀ σ, P σ → PIo P (call 130 [.int x0] σ)) ∧ (∀ (x0 : Option Nat) (x1 : Option Nat), ∀ σ, P σ → PIo P (call 131 [va_rf x0, va_rf x1] σ)) ∧ (∀ (x0 : Option Nat) (x1 : Option Nat), ∀ σ, P σ → PIo P (call 132 [va_rf x0, va_rf x1] σ)) ∧ (∀ (x0 : Option Nat) (x1 : Option Nat), ∀ σ, P σ → PIo P (call 133 [va_rf x0, va_rf x1] σ)) ∧ (∀ (x0 : Option Nat) (x1 : Int32), ∀ σ, P σ → PIo P (call 134 [va_rf x0, .int x1] σ)) ∧ (∀ (x0 : Option Nat) (x1 : Int32), ∀ σ, P σ → PIo P (call 135 [va_rf x0, .int x1] σ)) ∧ (∀ (x0 : Option Nat) (x1 : Option Nat) (x2 : Int32), ∀ σ, P σ → PIo P (call 136 [va_rf x0, va_rf x1, .int x2] σ)) ∧ (∀ (x0 : Option Nat) (x1 : Int32), ∀ σ, P σ → PIo P (call 137 [va_rf x0, .int x1] σ)) ∧ (∀ (x0 : Option Nat) (x1 : Option Nat) (x2 : Int32), ∀ σ, P σ → PIo P (call 138 [va_rf x0, va_rf x1, .int x2] σ)) ∧ (∀ (x0 : Option Nat) (x1 : Option Nat) (x2 : Int32), ∀ σ, P σ → PIo P (call 139 [va_rf x0, va_rf x1, .int x2] σ)) ∧ (∀ (x0 : Option Nat) (x1 : Option Nat) (x2 : Int32), ∀ σ, P σ → PIo P (call 140 [va_rf x0, va_rf x1, .int x2] σ)) ∧ (∀ (x0 : Option Nat) (x1 : Option Nat) (x2 : Int32), ∀ σ, P σ → PIo P (call 141 [va_rf x0, va_rf x1, .int x2] σ)) ∧ (∀ (x0 : Option Nat) (x1 : Int32), ∀ σ, P σ → PIo P (call 142 [va_rf x0, .int x1] σ)) ∧ (∀ (x0 : Option Nat) (x1 : Option Nat) (x2 : Int32), ∀ σ, P σ → PIo P (call 143 [va_rf x0, va_rf x1, .int x2] σ)) ∧ (∀ (x0 : Option Nat) (x1 : Option Nat) (x2 : Int32), ∀ σ, P σ → PIo P (call 144 [va_rf x0, va_rf x1, .int x2] σ)) ∧ (∀ (x0 : Option Nat), ∀ σ, P σ → PIo P (call 145 [va_rf x0] σ)) ∧ (∀ (x0 : Option Nat) (x1 : Int32), ∀ σ, P σ → PIo P (call 146 [va_rf x0, .int x1] σ)) ∧ (∀ (x0 : Option Nat) (x1 : Int32), ∀ σ, P σ → PIo P (call 147 [va_rf x0, .int x1] σ)) ∧ (∀ (x0 : Int32), ∀ σ, P σ → PIo P (call 148 [.int x0] σ)) ∧ (∀ (x0 : Option Nat) (x1 : Int32) (x2 : Int32), ∀ σ, P σ → PIo P (call 149 [va_rf x0, .int x1, .int x2] σ)) ∧ (∀ (x0 : Option Nat) (x1 : Int32) (x2 : Int32), ∀ σ, P σ → PIo P (call 150 [va_rf x0, .int x1, .int x2] σ)) ∧ (∀ (x0 : Option Nat) (x1 : Int32), ∀ σ, P σ → PIo P (call 151 [va_rf x0, .int x1] σ)) ∧ (∀ (x0 : Option Nat) (x1 : Int32) (x2 : Int32) (x3 : Int32), ∀ σ, P σ → PIo P (call 152 [va_rf x0, .int x1, .int x2, .int x3] σ)) ∧ (∀ (x0 : Option Nat) (x1 : Option Nat), ∀ σ, P σ → PIo P (call 153 [va_rf x0, va_rf x1] σ)) ∧ (∀ (x0 : Option Nat) (x1 : Option Nat), ∀ σ, P σ → PIo P (call 154 [va_rf x0, va_rf x1] σ)) ∧ (∀ (x0 : Option Nat) (x1 : Option Nat), ∀ σ, P σ → PIo P (call 155 [va_rf x0, va_rf x1] σ)) ∧ (∀ (x0 : Option Nat) (x1 : Option Nat), ∀ σ, P σ → PIo P (call 156 [va_rf x0, va_rf x1] σ)) ∧ (∀ (x0 : Option Nat) (x1 : Option Nat), ∀ σ, P σ → PIo P (call 157 [va_rf x0, va_rf x1] σ)) ∧ (∀ (x0 : Option Nat) (x1 : Option Nat), ∀ σ, P σ → PIo P (call 158 [va_rf x0, va_rf x1] σ)) ∧ (∀ (x0 : Option Nat) (x1 : Option Nat), ∀ σ, P σ → PIo P (call 159 [va_rf x0, va_rf x1] σ)) ∧ (∀ (x0 : Option Nat) (x1 : Int32), ∀ σ, P σ → PIo P (call 160 [va_rf x0, .int x1] σ)) ∧ (∀ (x0 : Option Nat) (x1 : Option Nat), ∀ σ, P σ → PIo P (call 161 [va_rf x0, va_rf x1] σ)) ∧ (∀ (x0 : Option Nat) (x1 : Option Nat), ∀ σ, P σ → PIo P (call 162 [va_rf x0, va_rf x1] σ)) ∧ (∀ (x0 : Int32), ∀ σ, P σ → PIo P (call 163 [.int x0] σ)) ∧ (∀ (x0 : Int32), ∀ σ, P σ → PIo P (call 164 [.int x0] σ)) ∧ (∀ (x0 : Int32) (x1 : Int32), ∀ σ, P σ → PIo P (call 165 [.int x0, .int x1] σ)) ∧ (∀ (x0 : Option Nat) (x1 : Int32), ∀ σ, P σ → PIo P (call 166 [va_rf x0, .int x1] σ)) ∧ (∀ (x0 : Option Nat) (x1 : Int32), ∀ σ, P σ → PIo P (call 167 [va_rf x0, .int x1] σ)) ∧ (∀ (x0 : Option Nat) (x1 : Int32) (x2 : Int32) (x3 : Int32), ∀ σ, P σ → PIo P (call 168 [va_rf x0, .int x1, .int x2, .int x3] σ)) ∧ (∀ (x0 : Option Nat) (x1 : Int32) (x2 : Int32), ∀ σ, P σ → PIo P (call 169 [va_rf x0, .int x1, .int x2] σ)) ∧ (∀ (x0 : Option Nat) (x1 : Int32) (x2 : Int32), ∀ σ, P σ → PIo P (call 170 [va_rf x0, .int x1, .int x2] σ)) ∧ (∀ (x0 : Option Nat), ∀ σ, P σ → PIo P (call 171 [va_rf x0] σ)) ∧ (∀ (x0 : Option Nat) (x1 : Option Nat), ∀ σ, P σ → PIo P (call 172 [va_rf x0, va_rf x1] σ)) ∧ (∀ (x0 : Option Nat) (x1 : Int32) (x2 : Int32), ∀ σ, P σ → PIo P (call 177 [va_rf x0, .int x1, .int x2] σ)) ∧ (∀ (x0 : Option Nat), ∀ σ, P σ → PIo P (call 178 [va_rf x0] σ)) ∧ (∀ (x0 : Option Nat) (x1 : Option Nat), ∀ σ, P σ → PIo P (call 196 [va_rf x0, va_rf x1] σ)) ∧ (∀ (x0 : Option Nat) (x1 : Option Nat) (x2 : Int32) (x3 : Int32) (x4 : Option Nat), ∀ σ, P σ → PIo P (call 197 [va_rf x0, va_rf x1, .int x2, .int x3, va_rf x4] σ)) ∧ (∀ (x0 : Option Nat) (x1 : Int32) (x2 : Int32), ∀ σ, P σ → PIo P (call 198 [va_rf x0, .int x1, .int x2] σ)) ∧ (∀ (x0 : Option Nat) (x1 : Int32) (x2 : Option Nat) (x3 : Int32) (x4 : Int32), ∀ σ, P σ → PIo P (call 199 [va_rf x0, .int x1, va_rf x2, .int x3, .int x4] σ)) ∧ (∀ (x0 : Option Nat) (x1 : Int32), ∀ σ, P σ → PIo P (call 200 [va_rf x0, .int x1] σ)) ∧ (∀ (x0 : Option Nat) (x1 : Int32), ∀ σ, P σ → PIo P (call 201 [va_rf x0, .int x1] σ)) ∧ (∀ (x0 : Option Nat), ∀ σ, P σ → PIo P (call 202 [va_rf x0] σ)) ∧ (∀ (x0 : Option Nat) (x1 : Int32), ∀ σ, P σ → PIo P (call 203 [va_rf x0, .int x1] σ)) ∧ (∀ (x0 : Int32) (x1 : Int32), ∀ σ, P σ → PIo P (call 204 [.int x0, .int x1] σ)) ∧ (∀ (x0 : Int32) (x1 : Int32), ∀ σ, P σ → PIo P (call 205 [.int x0, .int x1] σ)) ∧ (∀ (x0 : Int32) (x1 : Int32) (x2 : Option Nat), ∀ σ, P σ → PIo P (call 206 [.int x0, .int x1, va_rf x2] σ)) ∧ (∀ (x0 : Option Nat), ∀ σ, P σ → PIo P (call 207 [va_rf x0] σ)) ∧ (∀ (x0 : Option Nat), ∀ σ, P σ → PIo P (call 208 [va_rf x0] σ)) ∧ (∀ (x0 : Option Nat) (x1 : Int32) (x2 : Int32), ∀ σ, P σ → PIo P (call 209 [va_rf x0, .int x1, .int x2] σ)) ∧ (∀ (x0 : Int32) (x1 : Int32) (x2 : Int32), ∀ σ, P σ → PIo P (call 210 [.int x0, .int x1, .int x2] σ)) ∧ (∀ (x0 : Int32) (x1 : Int32) (x2 : Int32) (x3 : Option Nat), ∀ σ, P σ → PIo P (call 211 [.int x0, .int x1, .int x2, va_rf x3] σ)) ∧ (∀ (x0 : Option Nat) (x1 : Int32) (x2 : Int32), ∀ σ, P σ → PIo P (call 212 [va_rf x0, .int x1, .int x2] σ)) ∧ (∀ (x0 : Option Nat) (x1 : Int32) (x2 : Int32), ∀ σ, P σ → PIo P (call 213 [va_rf x0, .int x1, .int x2] σ)) ∧ (∀ (x0 : Option Nat) (x1 : Int32) (x2 : Int32), ∀ σ, P σ → PIo P (call 214 [va_rf x0, .int x1, .int x2] σ)) ∧ (∀ (x0 : Int32) (x1 : Int32), ∀ σ, P σ → PIo P (call 215 [.int x0, .int x1] σ)) ∧ (∀ (x0 : Option Nat) (x1 : Option Nat) (x2 : Int32), ∀ σ, P σ → PIo P (call 216 [va_rf x0, va_rf x1, .int x2] σ)) ∧ (∀ (x0 : Option Nat) (x1 : Option Nat), ∀ σ, P σ → PIo P (call 217 [va_rf x0, va_rf x1] σ)) ∧ (∀ (x0 : Option Nat) (x1 : Option Nat), ∀ σ, P σ → PIo P (call 218 [va_rf x0, va_rf x1] σ)) ∧ (∀ (x0 : Option Nat) (x1 : Int32), ∀ σ, P σ → PIo P (call 219 [va_rf x0, .int x1] σ)) ∧ (∀ (x0 : Option Nat) (x1 : Int32) (x2 : Int32), ∀ σ, P σ → PIo P (call 220 [va_rf x0, .int x1, .int x2] σ)) ∧ (∀ (x0 : Option Nat) (x1 : Int32) (x2 : Int32) (x3 : Int32), ∀ σ, P σ → PIo P (call 221 [va_rf x0, .int x1, .int x2, .int x3] σ)) ∧ (∀ (x0 : Int32), ∀ σ, P σ → PIo P (call 222 [.int x0] σ)) ∧ (∀ (x0 : Option Nat) (x1 : Int32) (x2 : Int32) (x3 : Int32), ∀ σ, P σ → PIo P (call 223 [va_rf x0, .int x1, .int x2, .int x3] σ)) ∧ (∀ (x0 : Option Nat), ∀ σ, P σ → PIo P (call 224 [va_rf x0] σ)) ∧ (∀ (x0 : Option Nat), ∀ σ, P σ → PIo P (call 225 [va_rf x0] σ)) ∧ (∀ (x0 : Option Nat), ∀ σ, P σ → PIo P (call 226 [va_rf x0] σ)) ∧ (∀ (x0 : Option Nat) (x1 : Option Nat), ∀ σ, P σ → PIo P (call 227 [va_rf x0, va_rf x1] σ)) ∧ (∀ (x0 : Option Nat) (x1 : Option Nat) (x2 : Option Nat) (x3 : Int32), ∀ σ, P σ → PIo P (call 228 [va_rf x0, va_rf x1, va_rf x2, .int x3] σ)) ∧ (∀ (x0 : Option Nat), ∀ σ, P σ → PIo P (call 229 [va_rf x0] σ)) ∧ (∀ (x0 : Option Nat) (x1 : Int32), ∀ σ, P σ → PIo P (call 230 [va_rf x0, .int x1] σ)) ∧ (∀ (x0 : Int32) (x1 : Int32) (x2 : Int32), ∀ σ, P σ → PIo P (call 231 [.int x0, .int x1, .int x2] σ)) ∧ (∀ (x0 : Option Nat) (x1 : Int32), ∀ σ, P σ → PIo P (call 232 [va_rf x0, .int x1] σ)) ∧ (∀ (x0 : Option Nat) (x1 : Int32) (x2 : Option Nat), ∀ σ, P σ → PIo P (call 233 [va_rf x0, .int x1, va_rf x2] σ)) ∧ (∀ (x0 : Option Nat) (x1 : Int32), ∀ σ, P σ → PIo P (call 234 [va_rf x0, .int x1] σ)) ∧ (∀ (x0 : Option Nat) (x1 : Int32), ∀ σ, P σ → PIo P (call 235 [va_rf x0, .int x1] σ)) ∧ (∀ (x0 : Option Nat), ∀ σ, P σ → PIo P (call 236 [va_rf x0] σ)) ∧ (∀ (x0 : Option Nat) (x1 : Int32), ∀ σ, P σ → PIo P (call 238 [va_rf x0, .int x1] σ)) ∧ (∀ (x0 : Option Nat) (x1 : Int64), ∀ σ, P σ → PIo P (call 241 [va_rf x0, .long x1] σ)) ∧ (∀ (x0 : Option Nat) (x1 : Int32), ∀ σ, P σ → PIo P (call 242 [va_rf x0, .int x1] σ))
theorem cQoK.c7 {P : oSt → Prop} {call : oCl} (hc : cQoK P call) (x0 : Option Nat) (x1 : Option Nat) (x2 : Int32) (σ : oSt) (h : P σ) : PIo P (call 7 [va_rf x0, va_rf x1, .int x2] σ) := hc.1 x0 x1 x2 σ h
theorem cQoK.c8 {P : oSt → Prop} {call : oCl} (hc : cQoK P call) (x0 : Option Nat) (σ : oSt) (h : P σ) : PIo P (call 8 [va_rf x0] σ) := hc.2.1 x0 σ h
theorem cQoK.c9 {P : oSt → Prop} {call : oCl} (hc : cQoK P call) (x0 : Option Nat) (x1 : Option Nat) (σ : oSt) (h : P σ) : PIo P (call 9 [va_rf x0, va_rf x1] σ) := hc.2.2.1 x0 x1 σ h
theorem cQoK.c10 {P : oSt → Prop} {call : oCl} (hc : cQoK P call) (x0 : Option Nat) (x1 : Option Nat) (x2 : Int32) (σ : oSt) (h : P σ) : PIo P (call 10 [va_rf x0, va_rf x1, .int x2] σ) := hc.2.2.2.1 x0 x1 x2 σ h
theorem cQoK.c11 {P : oSt → Prop} {call : oCl} (hc : cQoK P call) (x0 : Option Nat) (x1 : Int32) (x2 : Int64) (σ : oSt) (h : P σ) : PIo P (call 11 [va_rf x0, .int x1, .long x2] σ) := hc.2.2.2.2.1 x0 x1 x2 σ h
theorem cQoK.c14 {P : oSt → Prop} {call : oCl} (hc : cQoK P call) (x0 : Option Nat) (σ : oSt) (h : P σ) : PIo P (call 14 [va_rf x0] σ) := hc.2.2.2.2.2.1 x0 σ h
theorem cQoK.c21 {P : oSt → Prop} {call : oCl} (hc : cQoK P call) (x0 : Option Nat) (x1 : Int32) (σ : oSt) (h : P σ) : PIo P (call 21 [va_rf x0, .int x1] σ) := hc.2.2.2.2.2.2.1 x0 x1 σ h
theorem cQoK.c22 {P : oSt → Prop} {call : oCl} (hc : cQoK P call) (x0 : Option Nat) (x1 : Int32) (σ : oSt) (h : P σ) : PIo P (call 22 [va_rf x0, .int x1] σ) := hc.2.2.2.2.2.2.2.1 x0 x1 σ h
theorem cQoK.c38 {P : oSt → Prop} {call : oCl} (hc : cQoK P call) (x0 : Option Nat) (σ : oSt) (h : P σ) : PIo P (call 38 [va_rf x0] σ) := hc.2.2.2.2.2.2.2.2.1 x0 σ h
theorem cQoK.c72 {P : oSt → Prop} {call : oCl} (hc : cQoK P call) (x0 : Option Nat) (σ : oSt) (h : P σ) : PIo P (call 72 [va_rf x0] σ) := hc.2.2.2.2.2.2.2.2.2.1 x0 σ h
theorem cQoK.c73 {P : oSt → Prop} {call : oCl} (hc : cQoK P call) (x0 : Option Nat) (x1 : Option Nat) (x2 : Int32) (σ : oSt) (h : P σ) : PIo P (call 73 [va_rf x0, va_rf x1, .int x2] σ) := hc.2.2.2.2.2.2.2.2.2.2.1 x0 x1 x2 σ h
theorem cQoK.c102 {P : oSt → Prop} {call : oCl} (hc : cQoK P call) (x0 : Option Nat) (x1 : Int32) (x2 : Int32) (x3 : Int32) (σ : oSt) (h : P σ) : PIo P (call 102 [va_rf x0, .int x1, .int x2, .int x3] σ) := hc.2.2.2.2.2.2.2.2.2.2.2.1 x0 x1 x2 x3 σ h
theorem cQoK.c103 {P : oSt → Prop} {call : oCl} (hc : cQoK P call) (x0 : Option Nat) (x1 : Option Nat) (σ : oSt) (h : P σ) : PIo P (call 103 [va_rf x0, va_rf x1] σ) := hc.2.2.2.2.2.2.2.2.2.2.2.2.1 x0 x1 σ h
theorem cQoK.c104 {P : oSt → Prop} {call : oCl} (hc : cQoK P call) (x0 : Option Nat) (σ : oSt) (h : P σ) : PIo P (call 104 [va_rf x0] σ) := hc.2.2.2.2.2.2.2.2.2.2.2.2.2.1 x0 σ h
theorem cQoK.c105 {P : oSt → Prop} {call : oCl} (hc : cQoK P call) (x0 : Option Nat) (σ : oSt) (h : P σ) : PIo P (call 105 [va_rf x0] σ) := hc.2.2.2.2.2.2.2.2.2.2.2.2.2.2.1 x0 σ h
theorem cQoK.c106 {P : oSt → Prop} {call : oCl} (hc : cQoK P call) (x0 : Option Nat) (σ : oSt) (h : P σ) : PIo P (call 106 [va_rf x0] σ) := hc.2.2.2.2.2.2.2.2.2.2.2.2.2.2.2.1 x0 σ h
theorem cQoK.c107 {P : oSt → Prop} {call : oCl} (hc : cQoK P call) (x0 : Option Nat) (σ : oSt) (h : P σ) : PIo P (call 107 [va_rf x0] σ) := hc.2.2.2.2.2.2.2.2.2.2.2.2.2.2.2.2.1 x0 σ h
theorem cQoK.c108 {P : oSt → Prop} {call : oCl} (hc : cQoK P call) (x0 : Option Nat) (x1 : Int32) (σ : oSt) (h : P σ) : PIo P (call 108 [va_rf x0, .int x1] σ) := hc.2.2.2.2.2.2.2.2.2.2.2.2.2.2.2.2.2.1 x0 x1 σ h
theorem cQoK.c109 {P : oSt → Prop} {call : oCl} (hc : cQoK P call) (x0 : Int32) (σ : oSt) (h : P σ) : PIo P (call 109 [.int x0] σ) := hc.2.2.2.2.2.2.2.2.2.2.2.2.2.2.2.2.2.2.1 x0 σ h
theorem cQoK.c110 {P : oSt → Prop} {call : oCl} (hc : cQoK P call) (x0 : Option Nat) (x1 : Int32) (σ : oSt) (h : P σ) : PIo P (call 110 [va_rf x0, .int x1] σ) := hc.2.2.2.2.2.2.2.2.2.2.2.2.2.2.2.2.2.2.2.1 x0 x1 σ h
theorem cQoK.c111 {P : oSt → Prop} {call : oCl} (hc : cQoK P call) (x0 : Option Nat) (σ : oSt) (h : P σ) : PIo P (call 111 [va_rf x0] σ) := hc.2.2.2.2.2.2.2.2.2.2.2.2.2.2.2.2.2.2.2.2.1 x0 σ h
theorem cQoK.c112 {P : oSt → Prop} {call : oCl} (hc : cQoK P call) (x0 : Option Nat) (σ : oSt) (h : P σ) : PIo P (call 112 [va_rf x0] σ) := hc.2.2.2.2.2.2.2.2.2.2.2.2.2.2.2.2.2.2.2.2.2.1 x0 σ h
theorem cQoK.c113 {P : oSt → Prop} {call : oCl} (hc : cQoK P call) (x0 : Option Nat) (x1 : Int32) (σ : oSt) (h : P σ) : PIo P (call 113 [va_rf x0, .int x1] σ) := hc.2.2.2.2.2.2.2.2.2.2.2.2.2.2.2.2.2.2.2.2.2.2.1 x0 x1 σ h
theorem cQoK.c114 {P : oSt → Prop} {call : oCl} (hc : cQoK P call) (x0 : Option Nat) (x1 : Option Nat) (σ : oSt) (h : P σ) : PIo P (call 114 [va_rf x0, va_rf x1] σ) := hc.2.2.2.2.2.2.2.2.2.2.2.2.2.2.2.2.2.2.2.2.2.2.2.1 x0 x1 σ h
theorem cQoK.c115 {P : oSt → Prop} {call : oCl} (hc : cQoK P call) (x0 : Option Nat) (σ : oSt) (h : P σ) : PIo P (call 115 [va_rf x0] σ) := hc.2.2.2.2.2.2.2.2.2.2.2.2.2.2.2.2.2.2.2.2.2.2.2.2.1 x0 σ h
theorem cQoK.c116 {P : oSt → Prop} {call : oCl} (hc : cQoK P call) (x0 : Option Nat) (x1 : Option Nat) (σ : oSt) (h : P σ) : PIo P (call 116 [va_rf x0, va_rf x1] σ) := hc.2.2.2.2.2.2.2.2.2.2.2.2.2.2.2.2.2.2.2.2.2.2.2.2.2.1 x0 x1 σ h
theorem cQoK.c117 {P : oSt → Prop} {call : oCl} (hc : cQoK P call) (x0 : Option Nat) (σ : oSt) (h : P σ) : PIo P (call 117 [va_rf x0] σ) := hc.2.2.2.2.2.2.2.2.2.2.2.2.2.2.2.2.2.2.2.2.2.2.2.2.2.2.1 x0 σ h
theorem cQoK.c118 {P : oSt → Prop} {call : oCl} (hc : cQoK P call) (x0 : Option Nat) (x1 : Int32) (σ : oSt) (h : P σ) : PIo P (call 118 [va_rf x0, .int x1] σ) := hc.2.2.2.2.2.2.2.2.2.2.2.2.2.2.2.2.2.2.2.2.2.2.2.2.2.2.2.1 x0 x1 σ h
theorem cQoK.c119 {P : oSt → Prop} {call : oCl} (hc : cQoK P call) (x0 : Option Nat) (σ : oSt) (h : P σ) : PIo P (call 119 [va_rf x0] σ) := hc.2.2.2.2.2.2.2.2.2.2.2.2.2.2.2.2.2.2.2.2.2.2.2.2.2.2.2.2.1 x0 σ h
theorem cQoK.c120 {P : oSt → Prop} {call : oCl} (hc : cQoK P call) (x0 : Option Nat) (x1 : Int32) (σ : oSt) (h : P σ) : PIo P (call 120 [va_rf x0, .int x1] σ) := hc.2.2.2.2.2.2.2.2.2.2.2.2.2.2.2.2.2.2.2.2.2.2.2.2.2.2.2.2.2.1 x0 x1 σ h
theorem cQoK.c121 {P : oSt → Prop} {call : oCl} (hc : cQoK P call) (x0 : Option Nat) (σ : oSt) (h : P σ) : PIo P (call 121 [va_rf x0] σ) := hc.2.2.2.2.2.2.2.2.2.2.2.2.2.2.2.2.2.2.2.2.2.2.2.2.2.2.2.2.2.2.1 x0 σ h
theorem cQoK.c122 {P : oSt → Prop} {call : oCl} (hc : cQoK P call) (x0 : Option Nat) (x1 : Int32) (σ : oSt) (h : P σ) : PIo P (call 122 [va_rf x0, .int x1] σ) := hc.2.2.2.2.2.2.2.2.2.2.2.2.2.2.2.2.2.2.2.2.2.2.2.2.2.2.2.2.2.2.2.1 x0 x1 σ h
theorem cQoK.c123 {P : oSt → Prop} {call : oCl} (hc : cQoK P call) (x0 : Option Nat) (x1 : Option Nat) (x2 : Int32) (σ : oSt) (h : P σ) : PIo P (call 123 [va_rf x0, va_rf x1, .int x2] σ) := hc.2.2.2.2.2.2.2.2.2.2.2.2.2.2.2.2.2.2.2.2.2.2.2.2.2.2.2.2.2.2.2.2.1 x0 x1 x2 σ h
theorem cQoK.c124 {P : oSt → Prop} {call : oCl} (hc : cQoK P call) (x0 : Option Nat) (x1 : Option Nat) (x2 : Int32) (σ : oSt) (h : P σ) : PIo P (call 124 [va_rf x0, va_rf x1, .int x2] σ) := hc.2.2.2.2.2.2.2.2.2.2.2.2.2.2.2.2.2.2.2.2.2.2.2.2.2.2.2.2.2.2.2.2.2.1 x0 x1 x2 σ h
theorem cQoK.c125 {P : oSt → Prop} {call : oCl} (hc : cQoK P call) (x0 : Option Nat) (x1 : Option Nat) (σ : oSt) (h : P σ) : PIo P (call 125 [va_rf x0, va_rf x1] σ) := hc.2.2.2.2.2.2.2.2.2.2.2.2.2.2.2.2.2.2.2.2.2.2.2.2.2.2.2.2.2.2.2.2.2.2.1 x0 x1 σ h
theorem cQoK.c126 {P : oSt → Prop} {call : oCl} (hc : cQoK P call) (x0 : Option Nat) (x1 : Int32) (σ : oSt) (h : P σ) : PIo P (call 126 [va_rf x0, .int x1] σ) := hc.2.2.2.2.2.2.2.2.2.2.2.2.2.2.2.2.2.2.2.2.2.2.2.2.2.2.2.2.2.2.2.2.2.2.2.1 x0 x1 σ h
theorem cQoK.c127 {P : oSt → Prop} {call : oCl} (hc : cQoK P call) (x0 : Option Nat) (x1 : Int32) (σ : oSt) (h : P σ) : PIo P (call 127 [va_rf x0, .int x1] σ) := hc.2.2.2.2.2.2.2.2.2.2.2.2.2.2.2.2.2.2.2.2.2.2.2.2.2.2.2.2.2.2.2.2.2.2.2.2.1 x0 x1 σ h
theorem cQoK.c128 {P : oSt → Prop} {call : oCl} (hc : cQoK P call) (x0 : Option Nat) (x1 : Int32) (σ : oSt) (h : P σ) : PIo P (call 128 [va_rf x0, .int x1] σ) := hc.2.2.2.2.2.2.2.2.2.2.2.2.2.2.2.2.2.2.2.2.2.2.2.2.2.2.2.2.2.2.2.2.2.2.2.2.2.1 x0 x1 σ h
theorem cQoK.c129 {P : oSt → Prop} {call : oCl} (hc : cQoK P call) (x0 : Option Nat) (x1 : Int32) (σ : oSt) (h : P σ) : PIo P (call 129 [va_rf x0, .int x1] σ) := hc.2.2.2.2.2.2.2.2.2.2.2.2.2.2.2.2.2.2.2.2.2.2.2.2.2.2.2.2.2.2.2.2.2.2.2.2.2.2.1 x0 x1 σ h
theorem cQoK.c130 {P : oSt → Prop} {call : oCl} (hc : cQoK P call) (x0 : Int32) (σ : oSt) (h : P σ) : PIo P (call 130 [.int x0] σ) := hc.2.2.2.2.2.2.2.2.2.2.2.2.2.2.2.2.2.2.2.2.2.2.2.2.2.2.2.2.2.2.2.2.2.2.2.2.2.2.2.1 x0 σ h
theorem cQoK.c131 {P : oSt → Prop} {call : oCl} (hc : cQoK P call) (x0 : Option Nat) (x1 : Option Nat) (σ : oSt) (h : P σ) : PIo P (call 131 [va_rf x0, va_rf x1] σ) := hc.2.2.2.2.2.2.2.2.2.2.2.2.2.2.2.2.2.2.2.2.2.2.2.2.2.2.2.2.2.2.2.2.2.2.2.2.2.2.2.2.1 x0 x1 σ h
theorem cQoK.c132 {P : oSt → Prop} {call : oCl} (hc : cQoK P call) (x0 : Option Nat) (x1 : Option Nat) (σ : oSt) (h : P σ) : PIo P (call 132 [va_rf x0, va_rf x1] σ) := hc.2.2.2.2.2.2.2.2.2.2.2.2.2.2.2.2.2.2.2.2.2.2.2.2.2.2.2.2.2.2.2.2.2.2.2.2.2.2.2.2.2.1 x0 x1 σ h
theorem cQoK.c133 {P : oSt → Prop} {call : oCl} (hc : cQoK P call) (x0 : Option Nat) (x1 : Option Nat) (σ : oSt) (h : P σ) : PIo P (call 133 [va_rf x0, va_rf x1] σ) := hc.2.2.2.2.2.2.2.2.2.2.2.2.2.2.2.2.2.2.2.2.2.2.2.2.2.2.2.2.2.2.2.2.2.2.2.2.2.2.2.2.2.2.1 x0 x1 σ h
theorem cQoK.c134 {P : oSt → Prop} {call : oCl} (hc : cQoK P call) (x0 : Option Nat) (x1 : Int32) (σ : oSt) (h : P σ) : PIo P (call 134 [va_rf x0, .int x1] σ) := hc.2.2.2.2.2.2.2.2.2.2.2.2.2.2.2.2.2.2.2.2.2.2.2.2.2.2.2.2.2.2.2.2.2.2.2.2.2.2.2.2.2.2.2.1 x0 x1 σ h
theorem cQoK.c135 {P : oSt → Prop} {call : oCl} (hc : cQoK P call) (x0 : Option Nat) (x1 : Int32) (σ : oSt) (h : P σ) : PIo P (call 135 [va_rf x0, .int x1] σ) := hc.2.2.2.2.2.2.2.2.2.2.2.2.2.2.2.2.2.2.2.2.2.2.2.2.2.2.2.2.2.2.2.2.2.2.2.2.2.2.2.2.2.2.2.2.1 x0 x1 σ h
theorem cQoK.c136 {P : oSt → Prop} {call : oCl} (hc : cQoK P call) (x0 : Option Nat) (x1 : Option Nat) (x2 : Int32) (σ : oSt) (h : P σ) : PIo P (call 136 [va_rf x0, va_rf x1, .int x2] σ) := hc.2.2.2.2.2.2.2.2.2.2.2.2.2.2.2.2.2.2.2.2.2.2.2.2.2.2.2.2.2.2.2.2.2.2.2.2.2.2.2.2.2.2.2.2.2.1 x0 x1 x2 σ h
theorem cQoK.c137 {P : oSt → Prop} {call : oCl} (hc : cQoK P call) (x0 : Option Nat) (x1 : Int32) (σ : oSt) (h : P σ) : PIo P (call 137 [va_rf x0, .int x1] σ) := hc.2.2.2.2.2.2.2.2.2.2.2.2.2.2.2.2.2.2.2.2.2.2.2.2.2.2.2.2.2.2.2.2.2.2.2.2.2.2.2.2.2.2.2.2.2.2.1 x0 x1 σ h
theorem cQoK.c138 {P : oSt → Prop} {call : oCl} (hc : cQoK P call) (x0 : Option Nat) (x1 : Option Nat) (x2 : Int32) (σ : oSt) (h : P σ) : PIo P (call 138 [va_rf x0, va_rf x1, .int x2] σ) := hc.2.2.2.2.2.2.2.2.2.2.2.2.2.2.2.2.2.2.2.2.2.2.2.2.2.2.2.2.2.2.2.2.2.2.2.2.2.2.2.2.2.2.2.2.2.2.2.1 x0 x1 x2 σ h
theorem cQoK.c139 {P : oSt → Prop} {call : oCl} (hc : cQoK P call) (x0 : Option Nat) (x1 : Option Nat) (x2 : Int32) (σ : oSt) (h : P σ) : PIo P (call 139 [va_rf x0, va_rf x1, .int x2] σ) := hc.2.2.2.2.2.2.2.2.2.2.2.2.2.2.2.2.2.2.2.2.2.2.2.2.2.2.2.2.2.2.2.2.2.2.2.2.2.2.2.2.2.2.2.2.2.2.2.2.1 x0 x1 x2 σ h
theorem cQoK.c140 {P : oSt → Prop} {call : oCl} (hc : cQoK P call) (x0 : Option Nat) (x1 : Option Nat) (x2 : Int32) (σ : oSt) (h : P σ) : PIo P (call 140 [va_rf x0, va_rf x1, .int x2] σ) := hc.2.2.2.2.2.2.2.2.2.2.2.2.2.2.2.2.2.2.2.2.2.2.2.2.2.2.2.2.2.2.2.2.2.2.2.2.2.2.2.2.2.2.2.2.2.2.2.2.2.1 x0 x1 x2 σ h
theorem cQoK.c141 {P : oSt → Prop} {call : oCl} (hc : cQoK P call) (x0 : Option Nat) (x1 : Option Nat) (x2 : Int32) (σ : oSt) (h : P σ) : PIo P (call 141 [va_rf x0, va_rf x1, .int x2] σ) := hc.2.2.2.2.2.2.2.2.2.2.2.2.2.2.2.2.2.2.2.2.2.2.2.2.2.2.2.2.2.2.2.2.2.2.2.2.2.2.2.2.2.2.2.2.2.2.2.2.2.2.1 x0 x1 x2 σ h
theorem cQoK.c142 {P : oSt → Prop} {call : oCl} (hc : cQoK P call) (x0 : Option Nat) (x1 : Int32) (σ : oSt) (h : P σ) : PIo P (call 142 [va_rf x0, .int x1] σ) := hc.2.2.2.2.2.2.2.2.2.2.2.2.2.2.2.2.2.2.2.2.2.2.2.2.2.2.2.2.2.2.2.2.2.2.2.2.2.2.2.2.2.2.2.2.2.2.2.2.2.2.2.1 x0 x1 σ h
theorem cQoK.c143 {P : oSt → Prop} {call : oCl} (hc : cQoK P call) (x0 : Option Nat) (x1 : Option Nat) (x2 : Int32) (σ : oSt) (h : P σ) : PIo P (call 143 [va_rf x0, va_rf x1, .int x2] σ) := hc.2.2.2.2.2.2.2.2.2.2.2.2.2.2.2.2.2.2.2.2.2.2.2.2.2.2.2.2.2.2.2.2.2.2.2.2.2.2.2.2.2.2.2.2.2.2.2.2.2.2.2.2.1 x0 x1 x2 σ h
theorem cQoK.c144 {P : oSt → Prop} {call : oCl} (hc : cQoK P call) (x0 : Option Nat) (x1 : Option Nat) (x2 : Int32) (σ : oSt) (h : P σ) : PIo P (call 144 [va_rf x0, va_rf x1, .int x2] σ) := hc.2.2.2.2.2.2.2.2.2.2.2.2.2.2.2.2.2.2.2.2.2.2.2.2.2.2.2.2.2.2.2.2.2.2.2.2.2.2.2.2.2.2.2.2.2.2.2.2.2.2.2.2.2.1 x0 x1 x2 σ h
theorem cQoK.c145 {P : oSt → Prop} {call : oCl} (hc : cQoK P call) (x0 : Option Nat) (σ : oSt) (h : P σ) : PIo P (call 145 [va_rf x0] σ) := hc.2.2.2.2.2.2.2.2.2.2.2.2.2.2.2.2.2.2.2.2.2.2.2.2.2.2.2.2.2.2.2.2.2.2.2.2.2.2.2.2.2.2.2.2.2.2.2.2.2.2.2.2.2.2.1 x0 σ h
theorem cQoK.c146 {P : oSt → Prop} {call : oCl} (hc : cQoK P call) (x0 : Option Nat) (x1 : Int32) (σ : oSt) (h : P σ) : PIo P (call 146 [va_rf x0, .int x1] σ) := hc.2.2.2.2.2.2.2.2.2.2.2.2.2.2.2.2.2.2.2.2.2.2.2.2.2.2.2.2.2.2.2.2.2.2.2.2.2.2.2.2.2.2.2.2.2.2.2.2.2.2.2.2.2.2.2.1 x0 x1 σ h
theorem cQoK.c147 {P : oSt → Prop} {call : oCl} (hc : cQoK P call) (x0 : Option Nat) (x1 : Int32) (σ : oSt) (h : P σ) : PIo P (call 147 [va_rf x0, .int x1] σ) := hc.2.2.2.2.2.2.2.2.2.2.2.2.2.2.2.2.2.2.2.2.2.2.2.2.2.2.2.2.2.2.2.2.2.2.2.2.2.2.2.2.2.2.2.2.2.2.2.2.2.2.2.2.2.2.2.2.1 x0 x1 σ h
theorem cQoK.c148 {P : oSt → Prop} {call : oCl} (hc : cQoK P call) (x0 : Int32) (σ : oSt) (h : P σ) : PIo P (call 148 [.int x0] σ) := hc.2.2.2.2.2.2.2.2.2.2.2.2.2.2.2.2.2.2.2.2.2.2.2.2.2.2.2.2.2.2.2.2.2.2.2.2.2.2.2.2.2.2.2.2.2.2.2.2.2.2.2.2.2.2.2.2.2.1 x0 σ h
theorem cQoK.c149 {P : oSt → Prop} {call : oCl} (hc : cQoK P call) (x0 : Option Nat) (x1 : Int32) (x2 : Int32) (σ : oSt) (h : P σ) : PIo P (call 149 [va_rf x0, .int x1, .int x2] σ) := hc.2.2.2.2.2.2.2.2.2.2.2.2.2.2.2.2.2.2.2.2.2.2.2.2.2.2.2.2.2.2.2.2.2.2.2.2.2.2.2.2.2.2.2.2.2.2.2.2.2.2.2.2.2.2.2.2.2.2.1 x0 x1 x2 σ h
theorem cQoK.c150 {P : oSt → Prop} {call : oCl} (hc : cQoK P call) (x0 : Option Nat) (x1 : Int32) (x2 : Int32) (σ : oSt) (h : P σ) : PIo P (call 150 [va_rf x0, .int x1, .int x2] σ) := hc.2.2.2.2.2.2.2.2.2.2.2.2.2.2.2.2.2.2.2.2.2.2.2.2.2.2.2.2.2.2.2.2.2.2.2.2.2.2.2.2.2.2.2.2.2.2.2.2.2.2.2.2.2.2.2.2.2.2.2.1 x0 x1 x2 σ h
theorem cQoK.c151 {P : oSt → Prop} {call : oCl} (hc : cQoK P call) (x0 : Option Nat) (x1 : Int32) (σ : oSt) (h : P σ) : PIo P (call 151 [va_rf x0, .int x1] σ) := hc.2.2.2.2.2.2.2.2.2.2.2.2.2.2.2.2.2.2.2.2.2.2.2.2.2.2.2.2.2.2.2.2.2.2.2.2.2.2.2.2.2.2.2.2.2.2.2.2.2.2.2.2.2.2.2.2.2.2.2.2.1 x0 x1 σ h
theorem cQoK.c152 {P : oSt → Prop} {call : oCl} (hc : cQoK P call) (x0 : Option Nat) (x1 : Int32) (x2 : Int32) (x3 : Int32) (σ : oSt) (h : P σ) : PIo P (call 152 [va_rf x0, .int x1, .int x2, .int x3] σ) := hc.2.2.2.2.2.2.2.2.2.2.2.2.2.2.2.2.2.2.2.2.2.2.2.2.2.2.2.2.2.2.2.2.2.2.2.2.2.2.2.2.2.2.2.2.2.2.2.2.2.2.2.2.2.2.2.2.2.2.2.2.2.1 x0 x1 x2 x3 σ h
theorem cQoK.c153 {P : oSt → Prop} {call : oCl} (hc : cQoK P call) (x0 : Option Nat) (x1 : Option Nat) (σ : oSt) (h : P σ) : PIo P (call 153 [va_rf x0, va_rf x1] σ) := hc.2.2.2.2.2.2.2.2.2.2.2.2.2.2.2.2.2.2.2.2.2.2.2.2.2.2.2.2.2.2.2.2.2.2.2.2.2.2.2.2.2.2.2.2.2.2.2.2.2.2.2.2.2.2.2.2.2.2.2.2.2.2.1 x0 x1 σ h
theorem cQoK.c154 {P : oSt → Prop} {call : oCl} (hc : cQoK P call) (x0 : Option Nat) (x1 : Option Nat) (σ : oSt) (h : P σ) : PIo P (call 154 [va_rf x0, va_rf x1] σ) := hc.2.2.2.2.2.2.2.2.2.2.2.2.2.2.2.2.2.2.2.2.2.2.2.2.2.2.2.2.2.2.2.2.2.2.2.2.2.2.2.2.2.2.2.2.2.2.2.2.2.2.2.2.2.2.2.2.2.2.2.2.2.2.2.1 x0 x1 σ h
theorem cQoK.c155 {P : oSt → Prop} {call : oCl} (hc : cQoK P call) (x0 : Option Nat) (x1 : Option Nat) (σ : oSt) (h : P σ) : PIo P (call 155 [va_rf x0, va_rf x1] σ) := hc.2.2.2.2.2.2.2.2.2.2.2.2.2.2.2.2.2.2.2.2.2.2.2.2.2.2.2.2.2.2.2.2.2.2.2.2.2.2.2.2.2.2.2.2.2.2.2.2.2.2.2.2.2.2.2.2.2.2.2.2.2.2.2.2.1 x0 x1 σ h
theorem cQoK.c156 {P : oSt → Prop} {call : oCl} (hc : cQoK P call) (x0 : Option Nat) (x1 : Option Nat) (σ : oSt) (h : P σ) : PIo P (call 156 [va_rf x0, va_rf x1] σ) := hc.2.2.2.2.2.2.2.2.2.2.2.2.2.2.2.2.2.2.2.2.2.2.2.2.2.2.2.2.2.2.2.2.2.2.2.2.2.2.2.2.2.2.2.2.2.2.2.2.2.2.2.2.2.2.2.2.2.2.2.2.2.2.2.2.2.1 x0 x1 σ h
theorem cQoK.c157 {P : oSt → Prop} {call : oCl} (hc : cQoK P call) (x0 : Option Nat) (x1 : Option Nat) (σ : oSt) (h : P σ) : PIo P (call 157 [va_rf x0, va_rf x1] σ) := hc.2.2.2.2.2.2.2.2.2.2.2.2.2.2.2.2.2.2.2.2.2.2.2.2.2.2.2.2.2.2.2.2.2.2.2.2.2.2.2.2.2.2.2.2.2.2.2.2.2.2.2.2.2.2.2.2.2.2.2.2.2.2.2.2.2.2.1 x0 x1 σ h
theorem cQoK.c158 {P : oSt → Prop} {call : oCl} (hc : cQoK P call) (x0 : Option Nat) (x1 : Option Nat) (σ : oSt) (h : P σ) : PIo P (call 158 [va_rf x0, va_rf x1] σ) := hc.2.2.2.2.2.2.2.2.2.2.2.2.2.2.2.2.2.2.2.2.2.2.2.2.2.2.2.2.2.2.2.2.2.2.2.2.2.2.2.2.2.2.2.2.2.2.2.2.2.2.2.2.2.2.2.2.2.2.2.2.2.2.2.2.2.2.2.1 x0 x1 σ h
theorem cQoK.c159 {P : oSt → Prop} {call : oCl} (hc : cQoK P call) (x0 : Option Nat) (x1 : Option Nat) (σ : oSt) (h : P σ) : PIo P (call 159 [va_rf x0, va_rf x1] σ) := hc.2.2.2.2.2.2.2.2.2.2.2.2.2.2.2.2.2.2.2.2.2.2.2.2.2.2.2.2.2.2.2.2.2.2.2.2.2.2.2.2.2.2.2.2.2.2.2.2.2.2.2.2.2.2.2.2.2.2.2.2.2.2.2.2.2.2.2.2.1 x0 x1 σ h
theorem cQoK.c160 {P : oSt → Prop} {call : oCl} (hc : cQoK P call) (x0 : Option Nat) (x1 : Int32) (σ : oSt) (h : P σ) : PIo P (call 160 [va_rf x0, .int x1] σ) := hc.2.2.2.2.2.2.2.2.2.2.2.2.2.2.2.2.2.2.2.2.2.2.2.2.2.2.2.2.2.2.2.2.2.2.2.2.2.2.2.2.2.2.2.2.2.2.2.2.2.2.2.2.2.2.2.2.2.2.2.2.2.2.2.2.2.2.2.2.2.1 x0 x1 σ h
theorem cQoK.c161 {P : oSt → Prop} {call : oCl} (hc : cQoK P call) (x0 : Option Nat) (x1 : Option Nat) (σ : oSt) (h : P σ) : PIo P (call 161 [va_rf x0, va_rf x1] σ) := hc.2.2.2.2.2.2.2.2.2.2.2.2.2.2.2.2.2.2.2.2.2.2.2.2.2.2.2.2.2.2.2.2.2.2.2.2.2.2.2.2.2.2.2.2.2.2.2.2.2.2.2.2.2.2.2.2.2.2.2.2.2.2.2.2.2.2.2.2.2.2.1 x0 x1 σ h
theorem cQoK.c162 {P : oSt → Prop} {call : oCl} (hc : cQoK P call) (x0 : Option Nat) (x1 : Option Nat) (σ : oSt) (h : P σ) : PIo P (call 162 [va_rf x0, va_rf x1] σ) := hc.2.2.2.2.2.2.2.2.2.2.2.2.2.2.2.2.2.2.2.2.2.2.2.2.2.2.2.2.2.2.2.2.2.2.2.2.2.2.2.2.2.2.2.2.2.2.2.2.2.2.2.2.2.2.2.2.2.2.2.2.2.2.2.2.2.2.2.2.2.2.2.1 x0 x1 σ h
theorem cQoK.c163 {P : oSt → Prop} {call : oCl} (hc : cQoK P call) (x0 : Int32) (σ : oSt) (h : P σ) : PIo P (call 163 [.int x0] σ) := hc.2.2.2.2.2.2.2.2.2.2.2.2.2.2.2.2.2.2.2.2.2.2.2.2.2.2.2.2.2.2.2.2.2.2.2.2.2.2.2.2.2.2.2.2.2.2.2.2.2.2.2.2.2.2.2.2.2.2.2.2.2.2.2.2.2.2.2.2.2.2.2.2.1 x0 σ h
theorem cQoK.c164 {P : oSt → Prop} {call : oCl} (hc : cQoK P call) (x0 : Int32) (σ : oSt) (h : P σ) : PIo P (call 164 [.int x0] σ) := hc.2.2.2.2.2.2.2.2.2.2.2.2.2.2.2.2.2.2.2.2.2.2.2.2.2.2.2.2.2.2.2.2.2.2.2.2.2.2.2.2.2.2.2.2.2.2.2.2.2.2.2.2.2.2.2.2.2.2.2.2.2.2.2.2.2.2.2.2.2.2.2.2.2.1 x0 σ h
theorem cQoK.c165 {P : oSt → Prop} {call : oCl} (hc : cQoK P call) (x0 : Int32) (x1 : Int32) (σ : oSt) (h : P σ) : PIo P (call 165 [.int x0, .int x1] σ) := hc.2.2.2.2.2.2.2.2.2.2.2.2.2.2.2.2.2.2.2.2.2.2.2.2.2.2.2.2.2.2.2.2.2.2.2.2.2.2.2.2.2.2.2.2.2.2.2.2.2.2.2.2.2.2.2.2.2.2.2.2.2.2.2.2.2.2.2.2.2.2.2.2.2.2.1 x0 x1 σ h
theorem cQoK.c166 {P : oSt → Prop} {call : oCl} (hc : cQoK P call) (x0 : Option Nat) (x1 : Int32) (σ : oSt) (h : P σ) : PIo P (call 166 [va_rf x0, .int x1] σ) := hc.2.2.2.2.2.2.2.2.2.2.2.2.2.2.2.2.2.2.2.2.2.2.2.2.2.2.2.2.2.2.2.2.2.2.2.2.2.2.2.2.2.2.2.2.2.2.2.2.2.2.2.2.2.2.2.2.2.2.2.2.2.2.2.2.2.2.2.2.2.2.2.2.2.2.2.1 x0 x1 σ h
theorem cQoK.c167 {P : oSt → Prop} {call : oCl} (hc : cQoK P call) (x0 : Option Nat) (x1 : Int32) (σ : oSt) (h : P σ) : PIo P (call 167 [va_rf x0, .int x1] σ) := hc.2.2.2.2.2.2.2.2.2.2.2.2.2.2.2.2.2.2.2.2.2.2.2.2.2.2.2.2.2.2.2.2.2.2.2.2.2.2.2.2.2.2.2.2.2.2.2.2.2.2.2.2.2.2.2.2.2.2.2.2.2.2.2.2.2.2.2.2.2.2.2.2.2.2.2.2.1 x0 x1 σ h
theorem cQoK.c168 {P : oSt → Prop} {call : oCl} (hc : cQoK P call) (x0 : Option Nat) (x1 : Int32) (x2 : Int32) (x3 : Int32) (σ : oSt) (h : P σ) : PIo P (call 168 [va_rf x0, .int x1, .int x2, .int x3] σ) := hc.2.2.2.2.2.2.2.2.2.2.2.2.2.2.2.2.2.2.2.2.2.2.2.2.2.2.2.2.2.2.2.2.2.2.2.2.2.2.2.2.2.2.2.2.2.2.2.2.2.2.2.2.2.2.2.2.2.2.2.2.2.2.2.2.2.2.2.2.2.2.2.2.2.2.2.2.2.1 x0 x1 x2 x3 σ h
theorem cQoK.c169 {P : oSt → Prop} {call : oCl} (hc : cQoK P call) (x0 : Option Nat) (x1 : Int32) (x2 : Int32) (σ : oSt) (h : P σ) : PIo P (call 169 [va_rf x0, .int x1, .int x2] σ) := hc.2.2.2.2.2.2.2.2.2.2.2.2.2.2.2.2.2.2.2.2.2.2.2.2.2.2.2.2.2.2.2.2.2.2.2.2.2.2.2.2.2.2.2.2.2.2.2.2.2.2.2.2.2.2.2.2.2.2.2.2.2.2.2.2.2.2.2.2.2.2.2.2.2.2.2.2.2.2.1 x0 x1 x2 σ h
theorem cQoK.c170 {P : oSt → Prop} {call : oCl} (hc : cQoK P call) (x0 : Option Nat) (x1 : Int32) (x2 : Int32) (σ : oSt) (h : P σ) : PIo P (call 170 [va_rf x0, .int x1, .int x2] σ) := hc.2.2.2.2.2.2.2.2.2.2.2.2.2.2.2.2.2.2.2.2.2.2.2.2.2.2.2.2.2.2.2.2.2.2.2.2.2.2.2.2.2.2.2.2.2.2.2.2.2.2.2.2.2.2.2.2.2.2.2.2.2.2.2.2.2.2.2.2.2.2.2.2.2.2.2.2.2.2.2.1 x0 x1 x2 σ h
theorem cQoK.c171 {P : oSt → Prop} {call : oCl} (hc : cQoK P call) (x0 : Option Nat) (σ : oSt) (h : P σ) : PIo P (call 171 [va_rf x0] σ) := hc.2.2.2.2.2.2.2.2.2.2.2.2.2.2.2.2.2.2.2.2.2.2.2.2.2.2.2.2.2.2.2.2.2.2.2.2.2.2.2.2.2.2.2.2.2.2.2.2.2.2.2.2.2.2.2.2.2.2.2.2.2.2.2.2.2.2.2.2.2.2.2.2.2.2.2.2.2.2.2.2.1 x0 σ h
theorem cQoK.c172 {P : oSt → Prop} {call : oCl} (hc : cQoK P call) (x0 : Option Nat) (x1 : Option Nat) (σ : oSt) (h : P σ) : PIo P (call 172 [va_rf x0, va_rf x1] σ) := hc.2.2.2.2.2.2.2.2.2.2.2.2.2.2.2.2.2.2.2.2.2.2.2.2.2.2.2.2.2.2.2.2.2.2.2.2.2.2.2.2.2.2.2.2.2.2.2.2.2.2.2.2.2.2.2.2.2.2.2.2.2.2.2.2.2.2.2.2.2.2.2.2.2.2.2.2.2.2.2.2.2.1 x0 x1 σ h
theorem cQoK.c177 {P : oSt → Prop} {call : oCl} (hc : cQoK P call) (x0 : Option Nat) (x1 : Int32) (x2 : Int32) (σ : oSt) (h : P σ) : PIo P (call 177 [va_rf x0, .int x1, .int x2] σ) := hc.2.2.2.2.2.2.2.2.2.2.2.2.2.2.2.2.2.2.2.2.2.2.2.2.2.2.2.2.2.2.2.2.2.2.2.2.2.2.2.2.2.2.2.2.2.2.2.2.2.2.2.2.2.2.2.2.2.2.2.2.2.2.2.2.2.2.2.2.2.2.2.2.2.2.2.2.2.2.2.2.2.2.1 x0 x1 x2 σ h
theorem cQoK.c178 {P : oSt → Prop} {call : oCl} (hc : cQoK P call) (x0 : Option Nat) (σ : oSt) (h : P σ) : PIo P (call 178 [va_rf x0] σ) := hc.2.2.2.2.2.2.2.2.2.2.2.2.2.2.2.2.2.2.2.2.2.2.2.2.2.2.2.2.2.2.2.2.2.2.2.2.2.2.2.2.2.2.2.2.2.2.2.2.2.2.2.2.2.2.2.2.2.2.2.2.2.2.2.2.2.2.2.2.2.2.2.2.2.2.2.2.2.2.2.2.2.2.2.1 x0 σ h
theorem cQoK.c196 {P : oSt → Prop} {call : oCl} (hc : cQoK P call) (x0 : Option Nat) (x1 : Option Nat) (σ : oSt) (h : P σ) : PIo P (call 196 [va_rf x0, va_rf x1] σ) := hc.2.2.2.2.2.2.2.2.2.2.2.2.2.2.2.2.2.2.2.2.2.2.2.2.2.2.2.2.2.2.2.2.2.2.2.2.2.2.2.2.2.2.2.2.2.2.2.2.2.2.2.2.2.2.2.2.2.2.2.2.2.2.2.2.2.2.2.2.2.2.2.2.2.2.2.2.2.2.2.2.2.2.2.2.1 x0 x1 σ h
theorem cQoK.c197 {P : oSt → Prop} {call : oCl} (hc : cQoK P call) (x0 : Option Nat) (x1 : Option Nat) (x2 : Int32) (x3 : Int32) (x4 : Option Nat) (σ : oSt) (h : P σ) : PIo P (call 197 [va_rf x0, va_rf x1, .int x2, .int x3, va_rf x4] σ) := hc.2.2.2.2.2.2.2.2.2.2.2.2.2.2.2.2.2.2.2.2.2.2.2.2.2.2.2.2.2.2.2.2.2.2.2.2.2.2.2.2.2.2.2.2.2.2.2.2.2.2.2.2.2.2.2.2.2.2.2.2.2.2.2.2.2.2.2.2.2.2.2.2.2.2.2.2.2.2.2.2.2.2.2.2.2.1 x0 x1 x2 x3 x4 σ h
theorem cQoK.c198 {P : oSt → Prop} {call : oCl} (hc : cQoK P call) (x0 : Option Nat) (x1 : Int32) (x2 : Int32) (σ : oSt) (h : P σ) : PIo P (call 198 [va_rf x0, .int x1, .int x2] σ) := hc.2.2.2.2.2.2.2.2.2.2.2.2.2.2.2.2.2.2.2.2.2.2.2.2.2.2.2.2.2.2.2.2.2.2.2.2.2.2.2.2.2.2.2.2.2.2.2.2.2.2.2.2.2.2.2.2.2.2.2.2.2.2.2.2.2.2.2.2.2.2.2.2.2.2.2.2.2.2.2.2.2.2.2.2.2.2.1 x0 x1 x2 σ h
theorem cQoK.c199 {P : oSt → Prop} {call : oCl} (hc : cQoK P call) (x0 : Option Nat) (x1 : Int32) (x2 : Option Nat) (x3 : Int32) (x4 : Int32) (σ : oSt) (h : P σ) : PIo P (call 199 [va_rf x0, .int x1, va_rf x2, .int x3, .int x4] σ) := hc.2.2.2.2.2.2.2.2.2.2.2.2.2.2.2.2.2.2.2.2.2.2.2.2.2.2.2.2.2.2.2.2.2.2.2.2.2.2.2.2.2.2.2.2.2.2.2.2.2.2.2.2.2.2.2.2.2.2.2.2.2.2.2.2.2.2.2.2.2.2.2.2.2.2.2.2.2.2.2.2.2.2.2.2.2.2.2.1 x0 x1 x2 x3 x4 σ h
theorem cQoK.c200 {P : oSt → Prop} {call : oCl} (hc : cQoK P call) (x0 : Option Nat) (x1 : Int32) (σ : oSt) (h : P σ) : PIo P (call 200 [va_rf x0, .int x1] σ) := hc.2.2.2.2.2.2.2.2.2.2.2.2.2.2.2.2.2.2.2.2.2.2.2.2.2.2.2.2.2.2.2.2.2.2.2.2.2.2.2.2.2.2.2.2.2.2.2.2.2.2.2.2.2.2.2.2.2.2.2.2.2.2.2.2.2.2.2.2.2.2.2.2.2.2.2.2.2.2.2.2.2.2.2.2.2.2.2.2.1 x0 x1 σ h
theorem cQoK.c201 {P : oSt → Prop} {call : oCl} (hc : cQoK P call) (x0 : Option Nat) (x1 : Int32) (σ : oSt) (h : P σ) : PIo P (call 201 [va_rf x0, .int x1] σ) := hc.2.2.2.2.2.2.2.2.2.2.2.2.2.2.2.2.2.2.2.2.2.2.2.2.2.2.2.2.2.2.2.2.2.2.2.2.2.2.2.2.2.2.2.2.2.2.2.2.2.2.2.2.2.2.2.2.2.2.2.2.2.2.2.2.2.2.2.2.2.2.2.2.2.2.2.2.2.2.2.2.2.2.2.2.2.2.2.2.2.1 x0 x1 σ h
theorem cQoK.c202 {P : oSt → Prop} {call : oCl} (hc : cQoK P call) (x0 : Option Nat) (σ : oSt) (h : P σ) : PIo P (call 202 [va_rf x0] σ) := hc.2.2.2.2.2.2.2.2.2.2.2.2.2.2.2.2.2.2.2.2.2.2.2.2.2.2.2.2.2.2.2.2.2.2.2.2.2.2.2.2.2.2.2.2.2.2.2.2.2.2.2.2.2.2.2.2.2.2.2.2.2.2.2.2.2.2.2.2.2.2.2.2.2.2.2.2.2.2.2.2.2.2.2.2.2.2.2.2.2.2.1 x0 σ h
theorem cQoK.c203 {P : oSt → Prop} {call : oCl} (hc : cQoK P call) (x0 : Option Nat) (x1 : Int32) (σ : oSt) (h : P σ) : PIo P (call 203 [va_rf x0, .int x1] σ) := hc.2.2.2.2.2.2.2.2.2.2.2.2.2.2.2.2.2.2.2.2.2.2.2.2.2.2.2.2.2.2.2.2.2.2.2.2.2.2.2.2.2.2.2.2.2.2.2.2.2.2.2.2.2.2.2.2.2.2.2.2.2.2.2.2.2.2.2.2.2.2.2.2.2.2.2.2.2.2.2.2.2.2.2.2.2.2.2.2.2.2.2.1 x0 x1 σ h
theorem cQoK.c204 {P : oSt → Prop} {call : oCl} (hc : cQoK P call) (x0 : Int32) (x1 : Int32) (σ : oSt) (h : P σ) : PIo P (call 204 [.int x0, .int x1] σ) := hc.2.2.2.2.2.2.2.2.2.2.2.2.2.2.2.2.2.2.2.2.2.2.2.2.2.2.2.2.2.2.2.2.2.2.2.2.2.2.2.2.2.2.2.2.2.2.2.2.2.2.2.2.2.2.2.2.2.2.2.2.2.2.2.2.2.2.2.2.2.2.2.2.2.2.2.2.2.2.2.2.2.2.2.2.2.2.2.2.2.2.2.2.1 x0 x1 σ h
theorem cQoK.c205 {P : oSt → Prop} {call : oCl} (hc : cQoK P call) (x0 : Int32) (x1 : Int32) (σ : oSt) (h : P σ) : PIo P (call 205 [.int x0, .int x1] σ) := hc.2.2.2.2.2.2.2.2.2.2.2.2.2.2.2.2.2.2.2.2.2.2.2.2.2.2.2.2.2.2.2.2.2.2.2.2.2.2.2.2.2.2.2.2.2.2.2.2.2.2.2.2.2.2.2.2.2.2.2.2.2.2.2.2.2.2.2.2.2.2.2.2.2.2.2.2.2.2.2.2.2.2.2.2.2.2.2.2.2.2.2.2.2.1 x0 x1 σ h
theorem cQoK.c206 {P : oSt → Prop} {call : oCl} (hc : cQoK P call) (x0 : Int32) (x1 : Int32) (x2 : Option Nat) (σ : oSt) (h : P σ) : PIo P (call 206 [.int x0, .int x1, va_rf x2] σ) := hc.2.2.2.2.2.2.2.2.2.2.2.2.2.2.2.2.2.2.2.2.2.2.2.2.2.2.2.2.2.2.2.2.2.2.2.2.2.2.2.2.2.2.2.2.2.2.2.2.2.2.2.2.2.2.2.2.2.2.2.2.2.2.2.2.2.2.2.2.2.2.2.2.2.2.2.2.2.2.2.2.2.2.2.2.2.2.2.2.2.2.2.2.2.2.1 x0 x1 x2 σ h
theorem cQoK.c207 {P : oSt → Prop} {call : oCl} (hc : cQoK P call) (x0 : Option Nat) (σ : oSt) (h : P σ) : PIo P (call 207 [va_rf x0] σ) := hc.2.2.2.2.2.2.2.2.2.2.2.2.2.2.2.2.2.2.2.2.2.2.2.2.2.2.2.2.2.2.2.2.2.2.2.2.2.2.2.2.2.2.2.2.2.2.2.2.2.2.2.2.2.2.2.2.2.2.2.2.2.2.2.2.2.2.2.2.2.2.2.2.2.2.2.2.2.2.2.2.2.2.2.2.2.2.2.2.2.2.2.2.2.2.2.1 x0 σ h
theorem cQoK.c208 {P : oSt → Prop} {call : oCl} (hc : cQoK P call) (x0 : Option Nat) (σ : oSt) (h : P σ) : PIo P (call 208 [va_rf x0] σ) := hc.2.2.2.2.2.2.2.2.2.2.2.2.2.2.2.2.2.2.2.2.2.2.2.2.2.2.2.2.2.2.2.2.2.2.2.2.2.2.2.2.2.2.2.2.2.2.2.2.2.2.2.2.2.2.2.2.2.2.2.2.2.2.2.2.2.2.2.2.2.2.2.2.2.2.2.2.2.2.2.2.2.2.2.2.2.2.2.2.2.2.2.2.2.2.2.2.1 x0 σ h
theorem cQoK.c209 {P : oSt → Prop} {call : oCl} (hc : cQoK P call) (x0 : Option Nat) (x1 : Int32) (x2 : Int32) (σ : oSt) (h : P σ) : PIo P (call 209 [va_rf x0, .int x1, .int x2] σ) := hc.2.2.2.2.2.2.2.2.2.2.2.2.2.2.2.2.2.2.2.2.2.2.2.2.2.2.2.2.2.2.2.2.2.2.2.2.2.2.2.2.2.2.2.2.2.2.2.2.2.2.2.2.2.2.2.2.2.2.2.2.2.2.2.2.2.2.2.2.2.2.2.2.2.2.2.2.2.2.2.2.2.2.2.2.2.2.2.2.2.2.2.2.2.2.2.2.2.1 x0 x1 x2 σ h
theorem cQoK.c210 {P : oSt → Prop} {call : oCl} (hc : cQoK P call) (x0 : Int32) (x1 : Int32) (x2 : Int32) (σ : oSt) (h : P σ) : PIo P (call 210 [.int x0, .int x1, .int x2] σ) := hc.2.2.2.2.2.2.2.2.2.2.2.2.2.2.2.2.2.2.2.2.2.2.2.2.2.2.2.2.2.2.2.2.2.2.2.2.2.2.2.2.2.2.2.2.2.2.2.2.2.2.2.2.2.2.2.2.2.2.2.2.2.2.2.2.2.2.2.2.2.2.2.2.2.2.2.2.2.2.2.2.2.2.2.2.2.2.2.2.2.2.2.2.2.2.2.2.2.2.1 x0 x1 x2 σ h
theorem cQoK.c211 {P : oSt → Prop} {call : oCl} (hc : cQoK P call) (x0 : Int32) (x1 : Int32) (x2 : Int32) (x3 : Option Nat) (σ : oSt) (h : P σ) : PIo P (call 211 [.int x0, .int x1, .int x2, va_rf x3] σ) := hc.2.2.2.2.2.2.2.2.2.2.2.2.2.2.2.2.2.2.2.2.2.2.2.2.2.2.2.2.2.2.2.2.2.2.2.2.2.2.2.2.2.2.2.2.2.2.2.2.2.2.2.2.2.2.2.2.2.2.2.2.2.2.2.2.2.2.2.2.2.2.2.2.2.2.2.2.2.2.2.2.2.2.2.2.2.2.2.2.2.2.2.2.2.2.2.2.2.2.2.1 x0 x1 x2 x3 σ h
theorem cQoK.c212 {P : oSt → Prop} {call : oCl} (hc : cQoK P call) (x0 : Option Nat) (x1 : Int32) (x2 : Int32) (σ : oSt) (h : P σ) : PIo P (call 212 [va_rf x0, .int x1, .int x2] σ) := hc.2.2.2.2.2.2.2.2.2.2.2.2.2.2.2.2.2.2.2.2.2.2.2.2.2.2.2.2.2.2.2.2.2.2.2.2.2.2.2.2.2.2.2.2.2.2.2.2.2.2.2.2.2.2.2.2.2.2.2.2.2.2.2.2.2.2.2.2.2.2.2.2.2.2.2.2.2.2.2.2.2.2.2.2.2.2.2.2.2.2.2.2.2.2.2.2.2.2.2.2.1 x0 x1 x2 σ h
theorem cQoK.c213 {P : oSt → Prop} {call : oCl} (hc : cQoK P call) (x0 : Option Nat) (x1 : Int32) (x2 : Int32) (σ : oSt) (h : P σ) : PIo P (call 213 [va_rf x0, .int x1, .int x2] σ) := hc.2.2.2.2.2.2.2.2.2.2.2.2.2.2.2.2.2.2.2.2.2.2.2.2.2.2.2.2.2.2.2.2.2.2.2.2.2.2.2.2.2.2.2.2.2.2.2.2.2.2.2.2.2.2.2.2.2.2.2.2.2.2.2.2.2.2.2.2.2.2.2.2.2.2.2.2.2.2.2.2.2.2.2.2.2.2.2.2.2.2.2.2.2.2.2.2.2.2.2.2.2.1 x0 x1 x2 σ h
theorem cQoK.c214 {P : oSt → Prop} {call : oCl} (hc : cQoK P call) (x0 : Option Nat) (x1 : Int32) (x2 : Int32) (σ : oSt) (h : P σ) : PIo P (call 214 [va_rf x0, .int x1, .int x2] σ) := hc.2.2.2.2.2.2.2.2.2.2.2.2.2.2.2.2.2.2.2.2.2.2.2.2.2.2.2.2.2.2.2.2.2.2.2.2.2.2.2.2.2.2.2.2.2.2.2.2.2.2.2.2.2.2.2.2.2.2.2.2.2.2.2.2.2.2.2.2.2.2.2.2.2.2.2.2.2.2.2.2.2.2.2.2.2.2.2.2.2.2.2.2.2.2.2.2.2.2.2.2.2.2.1 x0 x1 x2 σ h
theorem cQoK.c215 {P : oSt → Prop} {call : oCl} (hc : cQoK P call) (x0 : Int32) (x1 : Int32) (σ : oSt) (h : P σ) : PIo P (call 215 [.int x0, .int x1] σ) := hc.2.2.2.2.2.2.2.2.2.2.2.2.2.2.2.2.2.2.2.2.2.2.2.2.2.2.2.2.2.2.2.2.2.2.2.2.2.2.2.2.2.2.2.2.2.2.2.2.2.2.2.2.2.2.2.2.2.2.2.2.2.2.2.2.2.2.2.2.2.2.2.2.2.2.2.2.2.2.2.2.2.2.2.2.2.2.2.2.2.2.2.2.2.2.2.2.2.2.2.2.2.2.2.1 x0 x1 σ h
theorem cQoK.c216 {P : oSt → Prop} {call : oCl} (hc : cQoK P call) (x0 : Option Nat) (x1 : Option Nat) (x2 : Int32) (σ : oSt) (h : P σ) : PIo P (call 216 [va_rf x0, va_rf x1, .int x2] σ) := hc.2.2.2.2.2.2.2.2.2.2.2.2.2.2.2.2.2.2.2.2.2.2.2.2.2.2.2.2.2.2.2.2.2.2.2.2.2.2.2.2.2.2.2.2.2.2.2.2.2.2.2.2.2.2.2.2.2.2.2.2.2.2.2.2.2.2.2.2.2.2.2.2.2.2.2.2.2.2.2.2.2.2.2.2.2.2.2.2.2.2.2.2.2.2.2.2.2.2.2.2.2.2.2.2.1 x0 x1 x2 σ h
theorem cQoK.c217 {P : oSt → Prop} {call : oCl} (hc : cQoK P call) (x0 : Option Nat) (x1 : Option Nat) (σ : oSt) (h : P σ) : PIo P (call 217 [va_rf x0, va_rf x1] σ) := hc.2.2.2.2.2.2.2.2.2.2.2.2.2.2.2.2.2.2.2.2.2.2.2.2.2.2.2.2.2.2.2.2.2.2.2.2.2.2.2.2.2.2.2.2.2.2.2.2.2.2.2.2.2.2.2.2.2.2.2.2.2.2.2.2.2.2.2.2.2.2.2.2.2.2.2.2.2.2.2.2.2.2.2.2.2.2.2.2.2.2.2.2.2.2.2.2.2.2.2.2.2.2.2.2.2.1 x0 x1 σ h
theorem cQoK.c218 {P : oSt → Prop} {call : oCl} (hc : cQoK P call) (x0 : Option Nat) (x1 : Option Nat) (σ : oSt) (h : P σ) : PIo P (call 218 [va_rf x0, va_rf x1] σ) := hc.2.2.2.2.2.2.2.2.2.2.2.2.2.2.2.2.2.2.2.2.2.2.2.2.2.2.2.2.2.2.2.2.2.2.2.2.2.2.2.2.2.2.2.2.2.2.2.2.2.2.2.2.2.2.2.2.2.2.2.2.2.2.2.2.2.2.2.2.2.2.2.2.2.2.2.2.2.2.2.2.2.2.2.2.2.2.2.2.2.2.2.2.2.2.2.2.2.2.2.2.2.2.2.2.2.2.1 x0 x1 σ h
theorem cQoK.c219 {P : oSt → Prop} {call : oCl} (hc : cQoK P call) (x0 : Option Nat) (x1 : Int32) (σ : oSt) (h : P σ) : PIo P (call 219 [va_rf x0, .int x1] σ) := hc.2.2.2.2.2.2.2.2.2.2.2.2.2.2.2.2.2.2.2.2.2.2.2.2.2.2.2.2.2.2.2.2.2.2.2.2.2.2.2.2.2.2.2.2.2.2.2.2.2.2.2.2.2.2.2.2.2.2.2.2.2.2.2.2.2.2.2.2.2.2.2.2.2.2.2.2.2.2.2.2.2.2.2.2.2.2.2.2.2.2.2.2.2.2.2.2.2.2.2.2.2.2.2.2.2.2.2.1 x0 x1 σ h
theorem cQoK.c220 {P : oSt → Prop} {call : oCl} (hc : cQoK P call) (x0 : Option Nat) (x1 : Int32) (x2 : Int32) (σ : oSt) (h : P σ) : PIo P (call 220 [va_rf x0, .int x1, .int x2] σ) := hc.2.2.2.2.2.2.2.2.2.2.2.2.2.2.2.2.2.2.2.2.2.2.2.2.2.2.2.2.2.2.2.2.2.2.2.2.2.2.2.2.2.2.2.2.2.2.2.2.2.2.2.2.2.2.2.2.2.2.2.2.2.2.2.2.2.2.2.2.2.2.2.2.2.2.2.2.2.2.2.2.2.2.2.2.2.2.2.2.2.2.2.2.2.2.2.2.2.2.2.2.2.2.2.2.2.2.2.2.1 x0 x1 x2 σ h
theorem cQoK.c221 {P : oSt → Prop} {call : oCl} (hc : cQoK P call) (x0 : Option Nat) (x1 : Int32) (x2 : Int32) (x3 : Int32) (σ : oSt) (h : P σ) : PIo P (call 221 [va_rf x0, .int x1, .int x2, .int x3] σ) := hc.2.2.2.2.2.2.2.2.2.2.2.2.2.2.2.2.2.2.2.2.2.2.2.2.2.2.2.2.2.2.2.2.2.2.2.2.2.2.2.2.2.2.2.2.2.2.2.2.2.2.2.2.2.2.2.2.2.2.2.2.2.2.2.2.2.2.2.2.2.2.2.2.2.2.2.2.2.2.2.2.2.2.2.2.2.2.2.2.2.2.2.2.2.2.2.2.2.2.2.2.2.2.2.2.2.2.2.2.2.1 x0 x1 x2 x3 σ h
theorem cQoK.c222 {P : oSt → Prop} {call : oCl} (hc : cQoK P call) (x0 : Int32) (σ : oSt) (h : P σ) : PIo P (call 222 [.int x0] σ) := hc.2.2.2.2.2.2.2.2.2.2.2.2.2.2.2.2.2.2.2.2.2.2.2.2.2.2.2.2.2.2.2.2.2.2.2.2.2.2.2.2.2.2.2.2.2.2.2.2.2.2.2.2.2.2.2.2.2.2.2.2.2.2.2.2.2.2.2.2.2.2.2.2.2.2.2.2.2.2.2.2.2.2.2.2.2.2.2.2.2.2.2.2.2.2.2.2.2.2.2.2.2.2.2.2.2.2.2.2.2.2.1 x0 σ h
theorem cQoK.c223 {P : oSt → Prop} {call : oCl} (hc : cQoK P call) (x0 : Option Nat) (x1 : Int32) (x2 : Int32) (x3 : Int32) (σ : oSt) (h : P σ) : PIo P (call 223 [va_rf x0, .int x1, .int x2, .int x3] σ) := hc.2.2.2.2.2.2.2.2.2.2.2.2.2.2.2.2.2.2.2.2.2.2.2.2.2.2.2.2.2.2.2.2.2.2.2.2.2.2.2.2.2.2.2.2.2.2.2.2.2.2.2.2.2.2.2.2.2.2.2.2.2.2.2.2.2.2.2.2.2.2.2.2.2.2.2.2.2.2.2.2.2.2.2.2.2.2.2.2.2.2.2.2.2.2.2.2.2.2.2.2.2.2.2.2.2.2.2.2.2.2.2.1 x0 x1 x2 x3 σ h
theorem cQoK.c224 {P : oSt → Prop} {call : oCl} (hc : cQoK P call) (x0 : Option Nat) (σ : oSt) (h : P σ) : PIo P (call 224 [va_rf x0] σ) := hc.2.2.2.2.2.2.2.2.2.2.2.2.2.2.2.2.2.2.2.2.2.2.2.2.2.2.2.2.2.2.2.2.2.2.2.2.2.2.2.2.2.2.2.2.2.2.2.2.2.2.2.2.2.2.2.2.2.2.2.2.2.2.2.2.2.2.2.2.2.2.2.2.2.2.2.2.2.2.2.2.2.2.2.2.2.2.2.2.2.2.2.2.2.2.2.2.2.2.2.2.2.2.2.2.2.2.2.2.2.2.2.2.1 x0 σ h
theorem cQoK.c225 {P : oSt → Prop} {call : oCl} (hc : cQoK P call) (x0 : Option Nat) (σ : oSt) (h : P σ) : PIo P (call 225 [va_rf x0] σ) := hc.2.2.2.2.2.2.2.2.2.2.2.2.2.2.2.2.2.2.2.2.2.2.2.2.2.2.2.2.2.2.2.2.2.2.2.2.2.2.2.2.2.2.2.2.2.2.2.2.2.2.2.2.2.2.2.2.2.2.2.2.2.2.2.2.2.2.2.2.2.2.2.2.2.2.2.2.2.2.2.2.2.2.2.2.2.2.2.2.2.2.2.2.2.2.2.2.2.2.2.2.2.2.2.2.2.2.2.2.2.2.2.2.2.1 x0 σ h
theorem cQoK.c226 {P : oSt → Prop} {call : oCl} (hc : cQoK P call) (x0 : Option Nat) (σ : oSt) (h : P σ) : PIo P (call 226 [va_rf x0] σ) := hc.2.2.2.2.2.2.2.2.2.2.2.2.2.2.2.2.2.2.2.2.2.2.2.2.2.2.2.2.2.2.2.2.2.2.2.2.2.2.2.2.2.2.2.2.2.2.2.2.2.2.2.2.2.2.2.2.2.2.2.2.2.2.2.2.2.2.2.2.2.2.2.2.2.2.2.2.2.2.2.2.2.2.2.2.2.2.2.2.2.2.2.2.2.2.2.2.2.2.2.2.2.2.2.2.2.2.2.2.2.2.2.2.2.2.1 x0 σ h
theorem cQoK.c227 {P : oSt → Prop} {call : oCl} (hc : cQoK P call) (x0 : Option Nat) (x1 : Option Nat) (σ : oSt) (h : P σ) : PIo P (call 227 [va_rf x0, va_rf x1] σ) := hc.2.2.2.2.2.2.2.2.2.2.2.2.2.2.2.2.2.2.2.2.2.2.2.2.2.2.2.2.2.2.2.2.2.2.2.2.2.2.2.2.2.2.2.2.2.2.2.2.2.2.2.2.2.2.2.2.2.2.2.2.2.2.2.2.2.2.2.2.2.2.2.2.2.2.2.2.2.2.2.2.2.2.2.2.2.2.2.2.2.2.2.2.2.2.2.2.2.2.2.2.2.2.2.2.2.2.2.2.2.2.2.2.2.2.2.1 x0 x1 σ h
theorem cQoK.c228 {P : oSt → Prop} {call : oCl} (hc : cQoK P call) (x0 : Option Nat) (x1 : Option Nat) (x2 : Option Nat) (x3 : Int32) (σ : oSt) (h : P σ) : PIo P (call 228 [va_rf x0, va_rf x1, va_rf x2, .int x3] σ) := hc.2.2.2.2.2.2.2.2.2.2.2.2.2.2.2.2.2.2.2.2.2.2.2.2.2.2.2.2.2.2.2.2.2.2.2.2.2.2.2.2.2.2.2.2.2.2.2.2.2.2.2.2.2.2.2.2.2.2.2.2.2.2.2.2.2.2.2.2.2.2.2.2.2.2.2.2.2.2.2.2.2.2.2.2.2.2.2.2.2.2.2.2.2.2.2.2.2.2.2.2.2.2.2.2.2.2.2.2.2.2.2.2.2.2.2.2.1 x0 x1 x2 x3 σ h
theorem cQoK.c229 {P : oSt → Prop} {call : oCl} (hc : cQoK P call) (x0 : Option Nat) (σ : oSt) (h : P σ) : PIo P (call 229 [va_rf x0] σ) := hc.2.2.2.2.2.2.2.2.2.2.2.2.2.2.2.2.2.2.2.2.2.2.2.2.2.2.2.2.2.2.2.2.2.2.2.2.2.2.2.2.2.2.2.2.2.2.2.2.2.2.2.2.2.2.2.2.2.2.2.2.2.2.2.2.2.2.2.2.2.2.2.2.2.2.2.2.2.2.2.2.2.2.2.2.2.2.2.2.2.2.2.2.2.2.2.2.2.2.2.2.2.2.2.2.2.2.2.2.2.2.2.2.2.2.2.2.2.1 x0 σ h
theorem cQoK.c230 {P : oSt → Prop} {call : oCl} (hc : cQoK P call) (x0 : Option Nat) (x1 : Int32) (σ : oSt) (h : P σ) : PIo P (call 230 [va_rf x0, .int x1] σ) := hc.2.2.2.2.2.2.2.2.2.2.2.2.2.2.2.2.2.2.2.2.2.2.2.2.2.2.2.2.2.2.2.2.2.2.2.2.2.2.2.2.2.2.2.2.2.2.2.2.2.2.2.2.2.2.2.2.2.2.2.2.2.2.2.2.2.2.2.2.2.2.2.2.2.2.2.2.2.2.2.2.2.2.2.2.2.2.2.2.2.2.2.2.2.2.2.2.2.2.2.2.2.2.2.2.2.2.2.2.2.2.2.2.2.2.2.2.2.2.1 x0 x1 σ h
theorem cQoK.c231 {P : oSt → Prop} {call : oCl} (hc : cQoK P call) (x0 : Int32) (x1 : Int32) (x2 : Int32) (σ : oSt) (h : P σ) : PIo P (call 231 [.int x0, .int x1, .int x2] σ) := hc.2.2.2.2.2.2.2.2.2.2.2.2.2.2.2.2.2.2.2.2.2.2.2.2.2.2.2.2.2.2.2.2.2.2.2.2.2.2.2.2.2.2.2.2.2.2.2.2.2.2.2.2.2.2.2.2.2.2.2.2.2.2.2.2.2.2.2.2.2.2.2.2.2.2.2.2.2.2.2.2.2.2.2.2.2.2.2.2.2.2.2.2.2.2.2.2.2.2.2.2.2.2.2.2.2.2.2.2.2.2.2.2.2.2.2.2.2.2.2.1 x0 x1 x2 σ h
theorem cQoK.c232 {P : oSt → Prop} {call : oCl} (hc : cQoK P call) (x0 : Option Nat) (x1 : Int32) (σ : oSt) (h : P σ) : PIo P (call 232 [va_rf x0, .int x1] σ) := hc.2.2.2.2.2.2.2.2.2.2.2.2.2.2.2.2.2.2.2.2.2.2.2.2.2.2.2.2.2.2.2.2.2.2.2.2.2.2.2.2.2.2.2.2.2.2.2.2.2.2.2.2.2.2.2.2.2.2.2.2.2.2.2.2.2.2.2.2.2.2.2.2.2.2.2.2.2.2.2.2.2.2.2.2.2.2.2.2.2.2.2.2.2.2.2.2.2.2.2.2.2.2.2.2.2.2.2.2.2.2.2.2.2.2.2.2.2.2.2.2.1 x0 x1 σ h
theorem cQoK.c233 {P : oSt → Prop} {call : oCl} (hc : cQoK P call) (x0 : Option Nat) (x1 : Int32) (x2 : Option Nat) (σ : oSt) (h : P σ) : PIo P (call 233 [va_rf x0, .int x1, va_rf x2] σ) := hc.2.2.2.2.2.2.2.2.2.2.2.2.2.2.2.2.2.2.2.2.2.2.2.2.2.2.2.2.2.2.2.2.2.2.2.2.2.2.2.2.2.2.2.2.2.2.2.2.2.2.2.2.2.2.2.2.2.2.2.2.2.2.2.2.2.2.2.2.2.2.2.2.2.2.2.2.2.2.2.2.2.2.2.2.2.2.2.2.2.2.2.2.2.2.2.2.2.2.2.2.2.2.2.2.2.2.2.2.2.2.2.2.2.2.2.2.2.2.2.2.2.1 x0 x1 x2 σ h
theorem cQoK.c234 {P : oSt → Prop} {call : oCl} (hc : cQoK P call) (x0 : Option Nat) (x1 : Int32) (σ : oSt) (h : P σ) : PIo P (call 234 [va_rf x0, .int x1] σ) := hc.2.2.2.2.2.2.2.2.2.2.2.2.2.2.2.2.2.2.2.2.2.2.2.2.2.2.2.2.2.2.2.2.2.2.2.2.2.2.2.2.2.2.2.2.2.2.2.2.2.2.2.2.2.2.2.2.2.2.2.2.2.2.2.2.2.2.2.2.2.2.2.2.2.2.2.2.2.2.2.2.2.2.2.2.2.2.2.2.2.2.2.2.2.2.2.2.2.2.2.2.2.2.2.2.2.2.2.2.2.2.2.2.2.2.2.2.2.2.2.2.2.2.1 x0 x1 σ h
theorem cQoK.c235 {P : oSt → Prop} {call : oCl} (hc : cQoK P call) (x0 : Option Nat) (x1 : Int32) (σ : oSt) (h : P σ) : PIo P (call 235 [va_rf x0, .int x1] σ) := hc.2.2.2.2.2.2.2.2.2.2.2.2.2.2.2.2.2.2.2.2.2.2.2.2.2.2.2.2.2.2.2.2.2.2.2.2.2.2.2.2.2.2.2.2.2.2.2.2.2.2.2.2.2.2.2.2.2.2.2.2.2.2.2.2.2.2.2.2.2.2.2.2.2.2.2.2.2.2.2.2.2.2.2.2.2.2.2.2.2.2.2.2.2.2.2.2.2.2.2.2.2.2.2.2.2.2.2.2.2.2.2.2.2.2.2.2.2.2.2.2.2.2.2.1 x0 x1 σ h
theorem cQoK.c236 {P : oSt → Prop} {call : oCl} (hc : cQoK P call) (x0 : Option Nat) (σ : oSt) (h : P σ) : PIo P (call 236 [va_rf x0] σ) := hc.2.2.2.2.2.2.2.2.2.2.2.2.2.2.2.2.2.2.2.2.2.2.2.2.2.2.2.2.2.2.2.2.2.2.2.2.2.2.2.2.2.2.2.2.2.2.2.2.2.2.2.2.2.2.2.2.2.2.2.2.2.2.2.2.2.2.2.2.2.2.2.2.2.2.2.2.2.2.2.2.2.2.2.2.2.2.2.2.2.2.2.2.2.2.2.2.2.2.2.2.2.2.2.2.2.2.2.2.2.2.2.2.2.2.2.2.2.2.2.2.2.2.2.2.1 x0 σ h
theorem cQoK.c238 {P : oSt → Prop} {call : oCl} (hc : cQoK P call) (x0 : Option Nat) (x1 : Int32) (σ : oSt) (h : P σ) : PIo P (call 238 [va_rf x0, .int x1] σ) := hc.2.2.2.2.2.2.2.2.2.2.2.2.2.2.2.2.2.2.2.2.2.2.2.2.2.2.2.2.2.2.2.2.2.2.2.2.2.2.2.2.2.2.2.2.2.2.2.2.2.2.2.2.2.2.2.2.2.2.2.2.2.2.2.2.2.2.2.2.2.2.2.2.2.2.2.2.2.2.2.2.2.2.2.2.2.2.2.2.2.2.2.2.2.2.2.2.2.2.2.2.2.2.2.2.2.2.2.2.2.2.2.2.2.2.2.2.2.2.2.2.2.2.2.2.2.1 x0 x1 σ h
theorem cQoK.c241 {P : oSt → Prop} {call : oCl} (hc : cQoK P call) (x0 : Option Nat) (x1 : Int64) (σ : oSt) (h : P σ) : PIo P (call 241 [va_rf x0, .long x1] σ) := hc.2.2.2.2.2.2.2.2.2.2.2.2.2.2.2.2.2.2.2.2.2.2.2.2.2.2.2.2.2.2.2.2.2.2.2.2.2.2.2.2.2.2.2.2.2.2.2.2.2.2.2.2.2.2.2.2.2.2.2.2.2.2.2.2.2.2.2.2.2.2.2.2.2.2.2.2.2.2.2.2.2.2.2.2.2.2.2.2.2.2.2.2.2.2.2.2.2.2.2.2.2.2.2.2.2.2.2.2.2.2.2.2.2.2.2.2.2.2.2.2.2.2.2.2.2.2.1 x0 x1 σ h
theorem cQoK.c242 {P : oSt → Prop} {call : oCl} (hc : cQoK P call) (x0 : Option Nat) (x1 : Int32) (σ : oSt) (h : P σ) : PIo P (call 242 [va_rf x0, .int x1] σ) := hc.2.2.2.2.2.2.2.2.2.2.2.2.2.2.2.2.2.2.2.2.2.2.2.2.2.2.2.2.2.2.2.2.2.2.2.2.2.2.2.2.2.2.2.2.2.2.2.2.2.2.2.2.2.2.2.2.2.2.2.2.2.2.2.2.2.2.2.2.2.2.2.2.2.2.2.2.2.2.2.2.2.2.2.2.2.2.2.2.2.2.2.2.2.2.2.2.2.2.2.2.2.2.2.2.2.2.2.2.2.2.2.2.2.2.2.2.2.2.2.2.2.2.2.2.2.2.2 x0 x1 σ h
section OPGK
variable {P : oSt → Prop} {n : Nat} {call : oCl} {κ : oKv}
theorem pioK_ob_X4_init  {x0 : Option Nat} {x1 : Option Nat} {x2 : Int32} {σ : oSt} (hP : iKptK P) (hc : cQoK P call)  (h : P σ) : PIo P (ob_X4_init n call κ  x0 x1 x2 σ) := by
  unfold ob_X4_init
  repeat' (with_reducible (first | assumption | (refine PIoK_gd ?_) | (refine PIoK_pf hP ?_ (by decide) (by with_unfolding_all rfl) (fun _ _ => ?_)) | (refine PIoK_si hP ?_ (fun _ _ => ?_)) | (refine PIoK_sj hP ?_ (fun _ _ => ?_)) | (refine PIoK_sr hP ?_ (fun _ _ => ?_)) | (refine PIoK_cy hP ?_ (fun _ _ => ?_)) | (refine PIoK_bn (fun _ => ?_)) | (refine PIoK_na hP ?_ (fun _ _ => ?_)) | (refine PIoK_no hP ?_ (fun _ _ => ?_)) | (refine PIoK_ite ?_ ?_) | (refine PIoK_some ?_) | (exact PIoK_none)))
theorem pioK_ob_X9_init  {x0 : Option Nat} {σ : oSt} (hP : iKptK P) (hc : cQoK P call)  (h : P σ) : PIo P (ob_X9_init n call κ  x0 σ) := by
  unfold ob_X9_init
  repeat' (with_reducible (first | assumption | (refine PIoK_gd ?_) | (refine PIoK_pf hP ?_ (by decide) (by with_unfolding_all rfl) (fun _ _ => ?_)) | (refine PIoK_si hP ?_ (fun _ _ => ?_)) | (refine PIoK_sj hP ?_ (fun _ _ => ?_)) | (refine PIoK_sr hP ?_ (fun _ _ => ?_)) | (refine PIoK_cy hP ?_ (fun _ _ => ?_)) | (refine PIoK_bn (fun _ => ?_)) | (refine PIoK_na hP ?_ (fun _ _ => ?_)) | (refine PIoK_no hP ?_ (fun _ _ => ?_)) | (refine PIoK_ite ?_ ?_) | (refine PIoK_some ?_) | (exact PIoK_none)))
theorem pioK_oj_X9_append_58  {x0 : Option Nat} {x1 : Option Nat} {σ : oSt} (hP : iKptK P) (hc : cQoK P call)  (h : P σ) : PIo P (oj_X9_append_58 n call κ  x0 x1 σ) := by
  unfold oj_X9_append_58
  repeat' (with_reducible (first | assumption | (refine PIoK_gd ?_) | (refine PIoK_pf hP ?_ (by decide) (by with_unfolding_all rfl) (fun _ _ => ?_)) | (refine PIoK_si hP ?_ (fun _ _ => ?_)) | (refine PIoK_sj hP ?_ (fun _ _ => ?_)) | (refine PIoK_sr hP ?_ (fun _ _ => ?_)) | (refine PIoK_cy hP ?_ (fun _ _ => ?_)) | (refine PIoK_bn (fun _ => ?_)) | (refine PIoK_na hP ?_ (fun _ _ => ?_)) | (refine PIoK_no hP ?_ (fun _ _ => ?_)) | (refine PIoK_ite ?_ ?_) | (refine PIoK_some ?_) | (exact PIoK_none)))
theorem pioK_ob_X9_append  {x0 : Option Nat} {x1 : Option Nat} {σ : oSt} (hP : iKptK P) (hc : cQoK P call)  (h : P σ) : PIo P (ob_X9_append n call κ  x0 x1 σ) := by
  unfold ob_X9_append
  repeat' (with_reducible (first | assumption | (refine PIoK_gd ?_) | (refine PIoK_pf hP ?_ (by decide) (by with_unfolding_all rfl) (fun _ _ => ?_)) | (refine PIoK_si hP ?_ (fun _ _ => ?_)) | (refine PIoK_sj hP ?_ (fun _ _ => ?_)) | (refine PIoK_sr hP ?_ (fun _ _ => ?_)) | (refine PIoK_cy hP ?_ (fun _ _ => ?_)) | (refine PIoK_bn (fun _ => ?_)) | (refine PIoK_na hP ?_ (fun _ _ => ?_)) | (refine PIoK_no hP ?_ (fun _ _ => ?_)) | (refine PIoK_ite ?_ ?_) | (refine PIoK_some ?_) | (exact PIoK_none) | (refine PIoK_rn (cQoK.c238 hc _ _ _ ?_) (fun _ _ _ => ?_)) | (refine pioK_oj_X9_append_58 hP hc  ?_)))
theorem pioK_oj_X9_add_44  {x0 : Option Nat} {x2 : Int32} {x3 : Int32} {σ : oSt} (hP : iKptK P) (hc : cQoK P call)  (h : P σ) : PIo P (oj_X9_add_44 n call κ  x0 x2 x3 σ) := by
  unfold oj_X9_add_44
  repeat' (with_reducible (first | assumption | (refine PIoK_gd ?_) | (refine PIoK_pf hP ?_ (by decide) (by with_unfolding_all rfl) (fun _ _ => ?_)) | (refine PIoK_si hP ?_ (fun _ _ => ?_)) | (refine PIoK_sj hP ?_ (fun _ _ => ?_)) | (refine PIoK_sr hP ?_ (fun _ _ => ?_)) | (refine PIoK_cy hP ?_ (fun _ _ => ?_)) | (refine PIoK_bn (fun _ => ?_)) | (refine PIoK_na hP ?_ (fun _ _ => ?_)) | (refine PIoK_no hP ?_ (fun _ _ => ?_)) | (refine PIoK_ite ?_ ?_) | (refine PIoK_some ?_) | (exact PIoK_none)))
theorem pioK_oj_X9_add_31  {x0 : Option Nat} {x1 : Option Nat} {x2 : Int32} {x3 : Int32} {σ : oSt} (hP : iKptK P) (hc : cQoK P call)  (h : P σ) : PIo P (oj_X9_add_31 n call κ  x0 x1 x2 x3 σ) := by
  unfold oj_X9_add_31
  repeat' (with_reducible (first | assumption | (refine PIoK_gd ?_) | (refine PIoK_pf hP ?_ (by decide) (by with_unfolding_all rfl) (fun _ _ => ?_)) | (refine PIoK_si hP ?_ (fun _ _ => ?_)) | (refine PIoK_sj hP ?_ (fun _ _ => ?_)) | (refine PIoK_sr hP ?_ (fun _ _ => ?_)) | (refine PIoK_cy hP ?_ (fun _ _ => ?_)) | (refine PIoK_bn (fun _ => ?_)) | (refine PIoK_na hP ?_ (fun _ _ => ?_)) | (refine PIoK_no hP ?_ (fun _ _ => ?_)) | (refine PIoK_ite ?_ ?_) | (refine PIoK_some ?_) | (exact PIoK_none) | (refine PIoK_cv (cQoK.c9 hc _ _ _ ?_) (fun _ _ => ?_)) | (refine pioK_oj_X9_add_44 hP hc  ?_)))
theorem pioK_ol_X9_add_7  (hP : iKptK P) (hc : cQoK P call)  : ∀ (t : Nat) (x0 : Option Nat) (x1 : Option Nat) (x2 : Int32) (x3 : Int32) (σ : oSt), P σ → PIo P (ol_X9_add_7 n call κ  t x0 x1 x2 x3 σ) := by
  intro t
  induction t with
  | zero => intros; exact PIoK_none
  | succ t ih =>
    intro x0 x1 x2 x3 σ h
    rw [ol_X9_add_7]
    repeat' (with_reducible (first | assumption | (refine PIoK_gd ?_) | (refine PIoK_pf hP ?_ (by decide) (by with_unfolding_all rfl) (fun _ _ => ?_)) | (refine PIoK_si hP ?_ (fun _ _ => ?_)) | (refine PIoK_sj hP ?_ (fun _ _ => ?_)) | (refine PIoK_sr hP ?_ (fun _ _ => ?_)) | (refine PIoK_cy hP ?_ (fun _ _ => ?_)) | (refine PIoK_bn (fun _ => ?_)) | (refine PIoK_na hP ?_ (fun _ _ => ?_)) | (refine PIoK_no hP ?_ (fun _ _ => ?_)) | (refine PIoK_ite ?_ ?_) | (refine PIoK_some ?_) | (exact PIoK_none) | (refine pioK_oj_X9_add_31 hP hc  ?_) | (refine ih _ _ _ _ _ ?_)))
theorem pioK_ob_X9_add  {x0 : Option Nat} {x1 : Option Nat} {x2 : Int32} {σ : oSt} (hP : iKptK P) (hc : cQoK P call)  (h : P σ) : PIo P (ob_X9_add n call κ  x0 x1 x2 σ) := by
  unfold ob_X9_add
  repeat' (with_reducible (first | assumption | (refine PIoK_gd ?_) | (refine PIoK_pf hP ?_ (by decide) (by with_unfolding_all rfl) (fun _ _ => ?_)) | (refine PIoK_si hP ?_ (fun _ _ => ?_)) | (refine PIoK_sj hP ?_ (fun _ _ => ?_)) | (refine PIoK_sr hP ?_ (fun _ _ => ?_)) | (refine PIoK_cy hP ?_ (fun _ _ => ?_)) | (refine PIoK_bn (fun _ => ?_)) | (refine PIoK_na hP ?_ (fun _ _ => ?_)) | (refine PIoK_no hP ?_ (fun _ _ => ?_)) | (refine PIoK_ite ?_ ?_) | (refine PIoK_some ?_) | (exact PIoK_none) | (refine pioK_ol_X9_add_7 hP hc  _ _ _ _ _ _ ?_)))
theorem pioK_oj_X9_of_20  {x1 : Int32} {x2 : Int64} {x4 : Option Nat} {t0 : Option Nat} {t1 : Option Nat} {σ : oSt} (hP : iKptK P) (hc : cQoK P call)  (h : P σ) : PIo P (oj_X9_of_20 n call κ  x1 x2 x4 t0 t1 σ) := by
  unfold oj_X9_of_20
  repeat' (with_reducible (first | assumption | (refine PIoK_gd ?_) | (refine PIoK_pf hP ?_ (by decide) (by with_unfolding_all rfl) (fun _ _ => ?_)) | (refine PIoK_si hP ?_ (fun _ _ => ?_)) | (refine PIoK_sj hP ?_ (fun _ _ => ?_)) | (refine PIoK_sr hP ?_ (fun _ _ => ?_)) | (refine PIoK_cy hP ?_ (fun _ _ => ?_)) | (refine PIoK_bn (fun _ => ?_)) | (refine PIoK_na hP ?_ (fun _ _ => ?_)) | (refine PIoK_no hP ?_ (fun _ _ => ?_)) | (refine PIoK_ite ?_ ?_) | (refine PIoK_some ?_) | (exact PIoK_none) | (refine PIoK_cv (cQoK.c10 hc _ _ _ _ ?_) (fun _ _ => ?_))))
theorem pioK_ob_X9_of  {x0 : Option Nat} {x1 : Int32} {x2 : Int64} {σ : oSt} (hP : iKptK P) (hc : cQoK P call)  (h : P σ) : PIo P (ob_X9_of n call κ  x0 x1 x2 σ) := by
  unfold ob_X9_of
  repeat' (with_reducible (first | assumption | (refine PIoK_gd ?_) | (refine PIoK_pf hP ?_ (by decide) (by with_unfolding_all rfl) (fun _ _ => ?_)) | (refine PIoK_si hP ?_ (fun _ _ => ?_)) | (refine PIoK_sj hP ?_ (fun _ _ => ?_)) | (refine PIoK_sr hP ?_ (fun _ _ => ?_)) | (refine PIoK_cy hP ?_ (fun _ _ => ?_)) | (refine PIoK_bn (fun _ => ?_)) | (refine PIoK_na hP ?_ (fun _ _ => ?_)) | (refine PIoK_no hP ?_ (fun _ _ => ?_)) | (refine PIoK_ite ?_ ?_) | (refine PIoK_some ?_) | (exact PIoK_none) | (refine PIoK_cv (cQoK.c8 hc _ _ ?_) (fun _ _ => ?_)) | (refine pioK_oj_X9_of_20 hP hc  ?_)))
theorem pioK_oj_X9_isTerm_28   {σ : oSt} (hP : iKptK P) (hc : cQoK P call)  (h : P σ) : PIo P (oj_X9_isTerm_28 n call κ   σ) := by
  unfold oj_X9_isTerm_28
  repeat' (with_reducible (first | assumption | (refine PIoK_gd ?_) | (refine PIoK_pf hP ?_ (by decide) (by with_unfolding_all rfl) (fun _ _ => ?_)) | (refine PIoK_si hP ?_ (fun _ _ => ?_)) | (refine PIoK_sj hP ?_ (fun _ _ => ?_)) | (refine PIoK_sr hP ?_ (fun _ _ => ?_)) | (refine PIoK_cy hP ?_ (fun _ _ => ?_)) | (refine PIoK_bn (fun _ => ?_)) | (refine PIoK_na hP ?_ (fun _ _ => ?_)) | (refine PIoK_no hP ?_ (fun _ _ => ?_)) | (refine PIoK_ite ?_ ?_) | (refine PIoK_some ?_) | (exact PIoK_none)))
theorem pioK_ob_X9_isTerm  {x0 : Option Nat} {σ : oSt} (hP : iKptK P) (hc : cQoK P call)  (h : P σ) : PIo P (ob_X9_isTerm n call κ  x0 σ) := by
  unfold ob_X9_isTerm
  repeat' (with_reducible (first | assumption | (refine PIoK_gd ?_) | (refine PIoK_pf hP ?_ (by decide) (by with_unfolding_all rfl) (fun _ _ => ?_)) | (refine PIoK_si hP ?_ (fun _ _ => ?_)) | (refine PIoK_sj hP ?_ (fun _ _ => ?_)) | (refine PIoK_sr hP ?_ (fun _ _ => ?_)) | (refine PIoK_cy hP ?_ (fun _ _ => ?_)) | (refine PIoK_bn (fun _ => ?_)) | (refine PIoK_na hP ?_ (fun _ _ => ?_)) | (refine PIoK_no hP ?_ (fun _ _ => ?_)) | (refine PIoK_ite ?_ ?_) | (refine PIoK_some ?_) | (exact PIoK_none) | (refine pioK_oj_X9_isTerm_28 hP hc  ?_)))
theorem pioK_ol_X10_root_4  (hP : iKptK P) (hc : cQoK P call)  : ∀ (t : Nat) (x0 : Option Nat) (x1 : Int32) (x2 : Int32) (σ : oSt), P σ → PIo P (ol_X10_root_4 n call κ  t x0 x1 x2 σ) := by
  intro t
  induction t with
  | zero => intros; exact PIoK_none
  | succ t ih =>
    intro x0 x1 x2 σ h
    rw [ol_X10_root_4]
    repeat' (with_reducible (first | assumption | (refine PIoK_gd ?_) | (refine PIoK_pf hP ?_ (by decide) (by with_unfolding_all rfl) (fun _ _ => ?_)) | (refine PIoK_si hP ?_ (fun _ _ => ?_)) | (refine PIoK_sj hP ?_ (fun _ _ => ?_)) | (refine PIoK_sr hP ?_ (fun _ _ => ?_)) | (refine PIoK_cy hP ?_ (fun _ _ => ?_)) | (refine PIoK_bn (fun _ => ?_)) | (refine PIoK_na hP ?_ (fun _ _ => ?_)) | (refine PIoK_no hP ?_ (fun _ _ => ?_)) | (refine PIoK_ite ?_ ?_) | (refine PIoK_some ?_) | (exact PIoK_none) | (refine ih _ _ _ _ ?_)))
theorem pioK_ob_X10_root  {x0 : Option Nat} {x1 : Int32} {σ : oSt} (hP : iKptK P) (hc : cQoK P call)  (h : P σ) : PIo P (ob_X10_root n call κ  x0 x1 σ) := by
  unfold ob_X10_root
  repeat' (with_reducible (first | assumption | (refine PIoK_gd ?_) | (refine PIoK_pf hP ?_ (by decide) (by with_unfolding_all rfl) (fun _ _ => ?_)) | (refine PIoK_si hP ?_ (fun _ _ => ?_)) | (refine PIoK_sj hP ?_ (fun _ _ => ?_)) | (refine PIoK_sr hP ?_ (fun _ _ => ?_)) | (refine PIoK_cy hP ?_ (fun _ _ => ?_)) | (refine PIoK_bn (fun _ => ?_)) | (refine PIoK_na hP ?_ (fun _ _ => ?_)) | (refine PIoK_no hP ?_ (fun _ _ => ?_)) | (refine PIoK_ite ?_ ?_) | (refine PIoK_some ?_) | (exact PIoK_none) | (refine pioK_ol_X10_root_4 hP hc  _ _ _ _ _ ?_)))
theorem pioK_ob_X10_kindOf  {x0 : Option Nat} {x1 : Int32} {σ : oSt} (hP : iKptK P) (hc : cQoK P call)  (h : P σ) : PIo P (ob_X10_kindOf n call κ  x0 x1 σ) := by
  unfold ob_X10_kindOf
  repeat' (with_reducible (first | assumption | (refine PIoK_gd ?_) | (refine PIoK_pf hP ?_ (by decide) (by with_unfolding_all rfl) (fun _ _ => ?_)) | (refine PIoK_si hP ?_ (fun _ _ => ?_)) | (refine PIoK_sj hP ?_ (fun _ _ => ?_)) | (refine PIoK_sr hP ?_ (fun _ _ => ?_)) | (refine PIoK_cy hP ?_ (fun _ _ => ?_)) | (refine PIoK_bn (fun _ => ?_)) | (refine PIoK_na hP ?_ (fun _ _ => ?_)) | (refine PIoK_no hP ?_ (fun _ _ => ?_)) | (refine PIoK_ite ?_ ?_) | (refine PIoK_some ?_) | (exact PIoK_none) | (refine PIoK_in (cQoK.c21 hc _ _ _ ?_) (fun _ _ _ => ?_))))
theorem pioK_oj_X9_isFact_68   {σ : oSt} (hP : iKptK P) (hc : cQoK P call)  (h : P σ) : PIo P (oj_X9_isFact_68 n call κ   σ) := by
  unfold oj_X9_isFact_68
  repeat' (with_reducible (first | assumption | (refine PIoK_gd ?_) | (refine PIoK_pf hP ?_ (by decide) (by with_unfolding_all rfl) (fun _ _ => ?_)) | (refine PIoK_si hP ?_ (fun _ _ => ?_)) | (refine PIoK_sj hP ?_ (fun _ _ => ?_)) | (refine PIoK_sr hP ?_ (fun _ _ => ?_)) | (refine PIoK_cy hP ?_ (fun _ _ => ?_)) | (refine PIoK_bn (fun _ => ?_)) | (refine PIoK_na hP ?_ (fun _ _ => ?_)) | (refine PIoK_no hP ?_ (fun _ _ => ?_)) | (refine PIoK_ite ?_ ?_) | (refine PIoK_some ?_) | (exact PIoK_none)))
theorem pioK_ob_X9_isFact  {x0 : Option Nat} {σ : oSt} (hP : iKptK P) (hc : cQoK P call)  (h : P σ) : PIo P (ob_X9_isFact n call κ  x0 σ) := by
  unfold ob_X9_isFact
  repeat' (with_reducible (first | assumption | (refine PIoK_gd ?_) | (refine PIoK_pf hP ?_ (by decide) (by with_unfolding_all rfl) (fun _ _ => ?_)) | (refine PIoK_si hP ?_ (fun _ _ => ?_)) | (refine PIoK_sj hP ?_ (fun _ _ => ?_)) | (refine PIoK_sr hP ?_ (fun _ _ => ?_)) | (refine PIoK_cy hP ?_ (fun _ _ => ?_)) | (refine PIoK_bn (fun _ => ?_)) | (refine PIoK_na hP ?_ (fun _ _ => ?_)) | (refine PIoK_no hP ?_ (fun _ _ => ?_)) | (refine PIoK_ite ?_ ?_) | (refine PIoK_some ?_) | (exact PIoK_none) | (refine pioK_oj_X9_isFact_68 hP hc  ?_)))
theorem pioK_ob_X3_forget  {x0 : Option Nat} {σ : oSt} (hP : iKptK P) (hc : cQoK P call)  (h : P σ) : PIo P (ob_X3_forget n call κ  x0 σ) := by
  unfold ob_X3_forget
  repeat' (with_reducible (first | assumption | (refine PIoK_gd ?_) | (refine PIoK_pf hP ?_ (by decide) (by with_unfolding_all rfl) (fun _ _ => ?_)) | (refine PIoK_si hP ?_ (fun _ _ => ?_)) | (refine PIoK_sj hP ?_ (fun _ _ => ?_)) | (refine PIoK_sr hP ?_ (fun _ _ => ?_)) | (refine PIoK_cy hP ?_ (fun _ _ => ?_)) | (refine PIoK_bn (fun _ => ?_)) | (refine PIoK_na hP ?_ (fun _ _ => ?_)) | (refine PIoK_no hP ?_ (fun _ _ => ?_)) | (refine PIoK_ite ?_ ?_) | (refine PIoK_some ?_) | (exact PIoK_none)))
theorem pioK_ob_X3_take  {x0 : Option Nat} {x1 : Option Nat} {x2 : Int32} {σ : oSt} (hP : iKptK P) (hc : cQoK P call)  (h : P σ) : PIo P (ob_X3_take n call κ  x0 x1 x2 σ) := by
  unfold ob_X3_take
  repeat' (with_reducible (first | assumption | (refine PIoK_gd ?_) | (refine PIoK_pf hP ?_ (by decide) (by with_unfolding_all rfl) (fun _ _ => ?_)) | (refine PIoK_si hP ?_ (fun _ _ => ?_)) | (refine PIoK_sj hP ?_ (fun _ _ => ?_)) | (refine PIoK_sr hP ?_ (fun _ _ => ?_)) | (refine PIoK_cy hP ?_ (fun _ _ => ?_)) | (refine PIoK_bn (fun _ => ?_)) | (refine PIoK_na hP ?_ (fun _ _ => ?_)) | (refine PIoK_no hP ?_ (fun _ _ => ?_)) | (refine PIoK_ite ?_ ?_) | (refine PIoK_some ?_) | (exact PIoK_none) | (refine PIoK_cv (cQoK.c241 hc _ _ _ ?_) (fun _ _ => ?_))))
theorem pioK_ob_X5_init  {x0 : Option Nat} {x1 : Int32} {x2 : Int32} {x3 : Int32} {σ : oSt} (hP : iKptK P) (hc : cQoK P call)  (h : P σ) : PIo P (ob_X5_init n call κ  x0 x1 x2 x3 σ) := by
  unfold ob_X5_init
  repeat' (with_reducible (first | assumption | (refine PIoK_gd ?_) | (refine PIoK_pf hP ?_ (by decide) (by with_unfolding_all rfl) (fun _ _ => ?_)) | (refine PIoK_si hP ?_ (fun _ _ => ?_)) | (refine PIoK_sj hP ?_ (fun _ _ => ?_)) | (refine PIoK_sr hP ?_ (fun _ _ => ?_)) | (refine PIoK_cy hP ?_ (fun _ _ => ?_)) | (refine PIoK_bn (fun _ => ?_)) | (refine PIoK_na hP ?_ (fun _ _ => ?_)) | (refine PIoK_no hP ?_ (fun _ _ => ?_)) | (refine PIoK_ite ?_ ?_) | (refine PIoK_some ?_) | (exact PIoK_none)))
theorem pioK_ob_X7_init  {x0 : Option Nat} {x1 : Option Nat} {σ : oSt} (hP : iKptK P) (hc : cQoK P call)  (h : P σ) : PIo P (ob_X7_init n call κ  x0 x1 σ) := by
  unfold ob_X7_init
  repeat' (with_reducible (first | assumption | (refine PIoK_gd ?_) | (refine PIoK_pf hP ?_ (by decide) (by with_unfolding_all rfl) (fun _ _ => ?_)) | (refine PIoK_si hP ?_ (fun _ _ => ?_)) | (refine PIoK_sj hP ?_ (fun _ _ => ?_)) | (refine PIoK_sr hP ?_ (fun _ _ => ?_)) | (refine PIoK_cy hP ?_ (fun _ _ => ?_)) | (refine PIoK_bn (fun _ => ?_)) | (refine PIoK_na hP ?_ (fun _ _ => ?_)) | (refine PIoK_no hP ?_ (fun _ _ => ?_)) | (refine PIoK_ite ?_ ?_) | (refine PIoK_some ?_) | (exact PIoK_none) | (refine PIoK_cv (cQoK.c224 hc _ _ ?_) (fun _ _ => ?_))))
theorem pioK_ob_X7_kind  {x0 : Option Nat} {σ : oSt} (hP : iKptK P) (hc : cQoK P call)  (h : P σ) : PIo P (ob_X7_kind n call κ  x0 σ) := by
  unfold ob_X7_kind
  repeat' (with_reducible (first | assumption | (refine PIoK_gd ?_) | (refine PIoK_pf hP ?_ (by decide) (by with_unfolding_all rfl) (fun _ _ => ?_)) | (refine PIoK_si hP ?_ (fun _ _ => ?_)) | (refine PIoK_sj hP ?_ (fun _ _ => ?_)) | (refine PIoK_sr hP ?_ (fun _ _ => ?_)) | (refine PIoK_cy hP ?_ (fun _ _ => ?_)) | (refine PIoK_bn (fun _ => ?_)) | (refine PIoK_na hP ?_ (fun _ _ => ?_)) | (refine PIoK_no hP ?_ (fun _ _ => ?_)) | (refine PIoK_ite ?_ ?_) | (refine PIoK_some ?_) | (exact PIoK_none)))
theorem pioK_ob_X7_next  {x0 : Option Nat} {σ : oSt} (hP : iKptK P) (hc : cQoK P call)  (h : P σ) : PIo P (ob_X7_next n call κ  x0 σ) := by
  unfold ob_X7_next
  repeat' (with_reducible (first | assumption | (refine PIoK_gd ?_) | (refine PIoK_pf hP ?_ (by decide) (by with_unfolding_all rfl) (fun _ _ => ?_)) | (refine PIoK_si hP ?_ (fun _ _ => ?_)) | (refine PIoK_sj hP ?_ (fun _ _ => ?_)) | (refine PIoK_sr hP ?_ (fun _ _ => ?_)) | (refine PIoK_cy hP ?_ (fun _ _ => ?_)) | (refine PIoK_bn (fun _ => ?_)) | (refine PIoK_na hP ?_ (fun _ _ => ?_)) | (refine PIoK_no hP ?_ (fun _ _ => ?_)) | (refine PIoK_ite ?_ ?_) | (refine PIoK_some ?_) | (exact PIoK_none)))
theorem pioK_ob_X7_here  {x0 : Option Nat} {σ : oSt} (hP : iKptK P) (hc : cQoK P call)  (h : P σ) : PIo P (ob_X7_here n call κ  x0 σ) := by
  unfold ob_X7_here
  repeat' (with_reducible (first | assumption | (refine PIoK_gd ?_) | (refine PIoK_pf hP ?_ (by decide) (by with_unfolding_all rfl) (fun _ _ => ?_)) | (refine PIoK_si hP ?_ (fun _ _ => ?_)) | (refine PIoK_sj hP ?_ (fun _ _ => ?_)) | (refine PIoK_sr hP ?_ (fun _ _ => ?_)) | (refine PIoK_cy hP ?_ (fun _ _ => ?_)) | (refine PIoK_bn (fun _ => ?_)) | (refine PIoK_na hP ?_ (fun _ _ => ?_)) | (refine PIoK_no hP ?_ (fun _ _ => ?_)) | (refine PIoK_ite ?_ ?_) | (refine PIoK_some ?_) | (exact PIoK_none)))
theorem pioK_ob_X7_fail  {x0 : Option Nat} {σ : oSt} (hP : iKptK P) (hc : cQoK P call)  (h : P σ) : PIo P (ob_X7_fail n call κ  x0 σ) := by
  unfold ob_X7_fail
  repeat' (with_reducible (first | assumption | (refine PIoK_gd ?_) | (refine PIoK_pf hP ?_ (by decide) (by with_unfolding_all rfl) (fun _ _ => ?_)) | (refine PIoK_si hP ?_ (fun _ _ => ?_)) | (refine PIoK_sj hP ?_ (fun _ _ => ?_)) | (refine PIoK_sr hP ?_ (fun _ _ => ?_)) | (refine PIoK_cy hP ?_ (fun _ _ => ?_)) | (refine PIoK_bn (fun _ => ?_)) | (refine PIoK_na hP ?_ (fun _ _ => ?_)) | (refine PIoK_no hP ?_ (fun _ _ => ?_)) | (refine PIoK_ite ?_ ?_) | (refine PIoK_some ?_) | (exact PIoK_none) | (refine PIoK_in (cQoK.c106 hc _ _ ?_) (fun _ _ _ => ?_))))
theorem pioK_ob_X7_expect  {x0 : Option Nat} {x1 : Int32} {σ : oSt} (hP : iKptK P) (hc : cQoK P call)  (h : P σ) : PIo P (ob_X7_expect n call κ  x0 x1 σ) := by
  unfold ob_X7_expect
  repeat' (with_reducible (first | assumption | (refine PIoK_gd ?_) | (refine PIoK_pf hP ?_ (by decide) (by with_unfolding_all rfl) (fun _ _ => ?_)) | (refine PIoK_si hP ?_ (fun _ _ => ?_)) | (refine PIoK_sj hP ?_ (fun _ _ => ?_)) | (refine PIoK_sr hP ?_ (fun _ _ => ?_)) | (refine PIoK_cy hP ?_ (fun _ _ => ?_)) | (refine PIoK_bn (fun _ => ?_)) | (refine PIoK_na hP ?_ (fun _ _ => ?_)) | (refine PIoK_no hP ?_ (fun _ _ => ?_)) | (refine PIoK_ite ?_ ?_) | (refine PIoK_some ?_) | (exact PIoK_none) | (refine PIoK_cv (cQoK.c105 hc _ _ ?_) (fun _ _ => ?_)) | (refine PIoK_cv (cQoK.c107 hc _ _ ?_) (fun _ _ => ?_)) | (refine PIoK_in (cQoK.c104 hc _ _ ?_) (fun _ _ _ => ?_))))
theorem pioK_oj_X7_isRelation_32   {σ : oSt} (hP : iKptK P) (hc : cQoK P call)  (h : P σ) : PIo P (oj_X7_isRelation_32 n call κ   σ) := by
  unfold oj_X7_isRelation_32
  repeat' (with_reducible (first | assumption | (refine PIoK_gd ?_) | (refine PIoK_pf hP ?_ (by decide) (by with_unfolding_all rfl) (fun _ _ => ?_)) | (refine PIoK_si hP ?_ (fun _ _ => ?_)) | (refine PIoK_sj hP ?_ (fun _ _ => ?_)) | (refine PIoK_sr hP ?_ (fun _ _ => ?_)) | (refine PIoK_cy hP ?_ (fun _ _ => ?_)) | (refine PIoK_bn (fun _ => ?_)) | (refine PIoK_na hP ?_ (fun _ _ => ?_)) | (refine PIoK_no hP ?_ (fun _ _ => ?_)) | (refine PIoK_ite ?_ ?_) | (refine PIoK_some ?_) | (exact PIoK_none)))
theorem pioK_ob_X7_isRelation  {x0 : Int32} {σ : oSt} (hP : iKptK P) (hc : cQoK P call)  (h : P σ) : PIo P (ob_X7_isRelation n call κ  x0 σ) := by
  unfold ob_X7_isRelation
  repeat' (with_reducible (first | assumption | (refine PIoK_gd ?_) | (refine PIoK_pf hP ?_ (by decide) (by with_unfolding_all rfl) (fun _ _ => ?_)) | (refine PIoK_si hP ?_ (fun _ _ => ?_)) | (refine PIoK_sj hP ?_ (fun _ _ => ?_)) | (refine PIoK_sr hP ?_ (fun _ _ => ?_)) | (refine PIoK_cy hP ?_ (fun _ _ => ?_)) | (refine PIoK_bn (fun _ => ?_)) | (refine PIoK_na hP ?_ (fun _ _ => ?_)) | (refine PIoK_no hP ?_ (fun _ _ => ?_)) | (refine PIoK_ite ?_ ?_) | (refine PIoK_some ?_) | (exact PIoK_none) | (refine pioK_oj_X7_isRelation_32 hP hc  ?_)))
theorem pioK_ol_X11_numberOf_9  (hP : iKptK P) (hc : cQoK P call)  : ∀ (t : Nat) (x0 : Option Nat) (x1 : Int32) (x2 : Int32) (x3 : Int32) (σ : oSt), P σ → PIo P (ol_X11_numberOf_9 n call κ  t x0 x1 x2 x3 σ) := by
  intro t
  induction t with
  | zero => intros; exact PIoK_none
  | succ t ih =>
    intro x0 x1 x2 x3 σ h
    rw [ol_X11_numberOf_9]
    repeat' (with_reducible (first | assumption | (refine PIoK_gd ?_) | (refine PIoK_pf hP ?_ (by decide) (by with_unfolding_all rfl) (fun _ _ => ?_)) | (refine PIoK_si hP ?_ (fun _ _ => ?_)) | (refine PIoK_sj hP ?_ (fun _ _ => ?_)) | (refine PIoK_sr hP ?_ (fun _ _ => ?_)) | (refine PIoK_cy hP ?_ (fun _ _ => ?_)) | (refine PIoK_bn (fun _ => ?_)) | (refine PIoK_na hP ?_ (fun _ _ => ?_)) | (refine PIoK_no hP ?_ (fun _ _ => ?_)) | (refine PIoK_ite ?_ ?_) | (refine PIoK_some ?_) | (exact PIoK_none) | (refine PIoK_in (cQoK.c201 hc _ _ _ ?_) (fun _ _ _ => ?_)) | (refine ih _ _ _ _ _ ?_)))
theorem pioK_ob_X11_numberOf  {x0 : Option Nat} {x1 : Int32} {σ : oSt} (hP : iKptK P) (hc : cQoK P call)  (h : P σ) : PIo P (ob_X11_numberOf n call κ  x0 x1 σ) := by
  unfold ob_X11_numberOf
  repeat' (with_reducible (first | assumption | (refine PIoK_gd ?_) | (refine PIoK_pf hP ?_ (by decide) (by with_unfolding_all rfl) (fun _ _ => ?_)) | (refine PIoK_si hP ?_ (fun _ _ => ?_)) | (refine PIoK_sj hP ?_ (fun _ _ => ?_)) | (refine PIoK_sr hP ?_ (fun _ _ => ?_)) | (refine PIoK_cy hP ?_ (fun _ _ => ?_)) | (refine PIoK_bn (fun _ => ?_)) | (refine PIoK_na hP ?_ (fun _ _ => ?_)) | (refine PIoK_no hP ?_ (fun _ _ => ?_)) | (refine PIoK_ite ?_ ?_) | (refine PIoK_some ?_) | (exact PIoK_none) | (refine pioK_ol_X11_numberOf_9 hP hc  _ _ _ _ _ _ ?_)))
theorem pioK_oj_X7_readQualTerm_108  {x0 : Option Nat} {σ : oSt} (hP : iKptK P) (hc : cQoK P call)  (h : P σ) : PIo P (oj_X7_readQualTerm_108 n call κ  x0 σ) := by
  unfold oj_X7_readQualTerm_108
  repeat' (with_reducible (first | assumption | (refine PIoK_gd ?_) | (refine PIoK_pf hP ?_ (by decide) (by with_unfolding_all rfl) (fun _ _ => ?_)) | (refine PIoK_si hP ?_ (fun _ _ => ?_)) | (refine PIoK_sj hP ?_ (fun _ _ => ?_)) | (refine PIoK_sr hP ?_ (fun _ _ => ?_)) | (refine PIoK_cy hP ?_ (fun _ _ => ?_)) | (refine PIoK_bn (fun _ => ?_)) | (refine PIoK_na hP ?_ (fun _ _ => ?_)) | (refine PIoK_no hP ?_ (fun _ _ => ?_)) | (refine PIoK_ite ?_ ?_) | (refine PIoK_some ?_) | (exact PIoK_none) | (refine PIoK_cv (cQoK.c108 hc _ _ _ ?_) (fun _ _ => ?_))))
theorem pioK_oj_X7_readQualTerm_78  {x0 : Option Nat} {x1 : Int32} {σ : oSt} (hP : iKptK P) (hc : cQoK P call)  (h : P σ) : PIo P (oj_X7_readQualTerm_78 n call κ  x0 x1 σ) := by
  unfold oj_X7_readQualTerm_78
  repeat' (with_reducible (first | assumption | (refine PIoK_gd ?_) | (refine PIoK_pf hP ?_ (by decide) (by with_unfolding_all rfl) (fun _ _ => ?_)) | (refine PIoK_si hP ?_ (fun _ _ => ?_)) | (refine PIoK_sj hP ?_ (fun _ _ => ?_)) | (refine PIoK_sr hP ?_ (fun _ _ => ?_)) | (refine PIoK_cy hP ?_ (fun _ _ => ?_)) | (refine PIoK_bn (fun _ => ?_)) | (refine PIoK_na hP ?_ (fun _ _ => ?_)) | (refine PIoK_no hP ?_ (fun _ _ => ?_)) | (refine PIoK_ite ?_ ?_) | (refine PIoK_some ?_) | (exact PIoK_none) | (refine PIoK_in (cQoK.c104 hc _ _ ?_) (fun _ _ _ => ?_)) | (refine PIoK_in (cQoK.c110 hc _ _ _ ?_) (fun _ _ _ => ?_)) | (refine pioK_oj_X7_readQualTerm_108 hP hc  ?_)))
theorem pioK_oj_X7_readQualTerm_73  {x0 : Option Nat} {t0 : Int32} {σ : oSt} (hP : iKptK P) (hc : cQoK P call)  (h : P σ) : PIo P (oj_X7_readQualTerm_73 n call κ  x0 t0 σ) := by
  unfold oj_X7_readQualTerm_73
  repeat' (with_reducible (first | assumption | (refine PIoK_gd ?_) | (refine PIoK_pf hP ?_ (by decide) (by with_unfolding_all rfl) (fun _ _ => ?_)) | (refine PIoK_si hP ?_ (fun _ _ => ?_)) | (refine PIoK_sj hP ?_ (fun _ _ => ?_)) | (refine PIoK_sr hP ?_ (fun _ _ => ?_)) | (refine PIoK_cy hP ?_ (fun _ _ => ?_)) | (refine PIoK_bn (fun _ => ?_)) | (refine PIoK_na hP ?_ (fun _ _ => ?_)) | (refine PIoK_no hP ?_ (fun _ _ => ?_)) | (refine PIoK_ite ?_ ?_) | (refine PIoK_some ?_) | (exact PIoK_none) | (refine PIoK_cv (cQoK.c105 hc _ _ ?_) (fun _ _ => ?_)) | (refine pioK_oj_X7_readQualTerm_78 hP hc  ?_)))
theorem pioK_oj_X7_readQualTerm_59  {x0 : Option Nat} {σ : oSt} (hP : iKptK P) (hc : cQoK P call)  (h : P σ) : PIo P (oj_X7_readQualTerm_59 n call κ  x0 σ) := by
  unfold oj_X7_readQualTerm_59
  repeat' (with_reducible (first | assumption | (refine PIoK_gd ?_) | (refine PIoK_pf hP ?_ (by decide) (by with_unfolding_all rfl) (fun _ _ => ?_)) | (refine PIoK_si hP ?_ (fun _ _ => ?_)) | (refine PIoK_sj hP ?_ (fun _ _ => ?_)) | (refine PIoK_sr hP ?_ (fun _ _ => ?_)) | (refine PIoK_cy hP ?_ (fun _ _ => ?_)) | (refine PIoK_bn (fun _ => ?_)) | (refine PIoK_na hP ?_ (fun _ _ => ?_)) | (refine PIoK_no hP ?_ (fun _ _ => ?_)) | (refine PIoK_ite ?_ ?_) | (refine PIoK_some ?_) | (exact PIoK_none) | (refine PIoK_in (cQoK.c104 hc _ _ ?_) (fun _ _ _ => ?_)) | (refine pioK_oj_X7_readQualTerm_73 hP hc  ?_)))
theorem pioK_oj_X7_readQualTerm_17  {x0 : Option Nat} {x1 : Int32} {σ : oSt} (hP : iKptK P) (hc : cQoK P call)  (h : P σ) : PIo P (oj_X7_readQualTerm_17 n call κ  x0 x1 σ) := by
  unfold oj_X7_readQualTerm_17
  repeat' (with_reducible (first | assumption | (refine PIoK_gd ?_) | (refine PIoK_pf hP ?_ (by decide) (by with_unfolding_all rfl) (fun _ _ => ?_)) | (refine PIoK_si hP ?_ (fun _ _ => ?_)) | (refine PIoK_sj hP ?_ (fun _ _ => ?_)) | (refine PIoK_sr hP ?_ (fun _ _ => ?_)) | (refine PIoK_cy hP ?_ (fun _ _ => ?_)) | (refine PIoK_bn (fun _ => ?_)) | (refine PIoK_na hP ?_ (fun _ _ => ?_)) | (refine PIoK_no hP ?_ (fun _ _ => ?_)) | (refine PIoK_ite ?_ ?_) | (refine PIoK_some ?_) | (exact PIoK_none) | (refine PIoK_cv (cQoK.c105 hc _ _ ?_) (fun _ _ => ?_)) | (refine PIoK_in (cQoK.c104 hc _ _ ?_) (fun _ _ _ => ?_)) | (refine pioK_oj_X7_readQualTerm_59 hP hc  ?_) | (refine pioK_oj_X7_readQualTerm_78 hP hc  ?_)))
theorem pioK_ob_X7_readQualTerm  {x0 : Option Nat} {σ : oSt} (hP : iKptK P) (hc : cQoK P call)  (h : P σ) : PIo P (ob_X7_readQualTerm n call κ  x0 σ) := by
  unfold ob_X7_readQualTerm
  repeat' (with_reducible (first | assumption | (refine PIoK_gd ?_) | (refine PIoK_pf hP ?_ (by decide) (by with_unfolding_all rfl) (fun _ _ => ?_)) | (refine PIoK_si hP ?_ (fun _ _ => ?_)) | (refine PIoK_sj hP ?_ (fun _ _ => ?_)) | (refine PIoK_sr hP ?_ (fun _ _ => ?_)) | (refine PIoK_cy hP ?_ (fun _ _ => ?_)) | (refine PIoK_bn (fun _ => ?_)) | (refine PIoK_na hP ?_ (fun _ _ => ?_)) | (refine PIoK_no hP ?_ (fun _ _ => ?_)) | (refine PIoK_ite ?_ ?_) | (refine PIoK_some ?_) | (exact PIoK_none) | (refine PIoK_cv (cQoK.c105 hc _ _ ?_) (fun _ _ => ?_)) | (refine PIoK_in (cQoK.c104 hc _ _ ?_) (fun _ _ _ => ?_)) | (refine pioK_oj_X7_readQualTerm_17 hP hc  ?_)))
theorem pioK_oj_X7_readQual_98  {x0 : Option Nat} {σ : oSt} (hP : iKptK P) (hc : cQoK P call)  (h : P σ) : PIo P (oj_X7_readQual_98 n call κ  x0 σ) := by
  unfold oj_X7_readQual_98
  repeat' (with_reducible (first | assumption | (refine PIoK_gd ?_) | (refine PIoK_pf hP ?_ (by decide) (by with_unfolding_all rfl) (fun _ _ => ?_)) | (refine PIoK_si hP ?_ (fun _ _ => ?_)) | (refine PIoK_sj hP ?_ (fun _ _ => ?_)) | (refine PIoK_sr hP ?_ (fun _ _ => ?_)) | (refine PIoK_cy hP ?_ (fun _ _ => ?_)) | (refine PIoK_bn (fun _ => ?_)) | (refine PIoK_na hP ?_ (fun _ _ => ?_)) | (refine PIoK_no hP ?_ (fun _ _ => ?_)) | (refine PIoK_ite ?_ ?_) | (refine PIoK_some ?_) | (exact PIoK_none) | (refine PIoK_cv (cQoK.c108 hc _ _ _ ?_) (fun _ _ => ?_)) | (refine PIoK_cv (cQoK.c111 hc _ _ ?_) (fun _ _ => ?_))))
theorem pioK_oj_X7_readQual_51  {x0 : Option Nat} {σ : oSt} (hP : iKptK P) (hc : cQoK P call)  (h : P σ) : PIo P (oj_X7_readQual_51 n call κ  x0 σ) := by
  unfold oj_X7_readQual_51
  repeat' (with_reducible (first | assumption | (refine PIoK_gd ?_) | (refine PIoK_pf hP ?_ (by decide) (by with_unfolding_all rfl) (fun _ _ => ?_)) | (refine PIoK_si hP ?_ (fun _ _ => ?_)) | (refine PIoK_sj hP ?_ (fun _ _ => ?_)) | (refine PIoK_sr hP ?_ (fun _ _ => ?_)) | (refine PIoK_cy hP ?_ (fun _ _ => ?_)) | (refine PIoK_bn (fun _ => ?_)) | (refine PIoK_na hP ?_ (fun _ _ => ?_)) | (refine PIoK_no hP ?_ (fun _ _ => ?_)) | (refine PIoK_ite ?_ ?_) | (refine PIoK_some ?_) | (exact PIoK_none) | (refine PIoK_cv (cQoK.c105 hc _ _ ?_) (fun _ _ => ?_)) | (refine PIoK_cv (cQoK.c107 hc _ _ ?_) (fun _ _ => ?_)) | (refine PIoK_cv (cQoK.c108 hc _ _ _ ?_) (fun _ _ => ?_)) | (refine PIoK_in (cQoK.c104 hc _ _ ?_) (fun _ _ _ => ?_)) | (refine PIoK_in (cQoK.c109 hc _ _ ?_) (fun _ _ _ => ?_)) | (refine pioK_oj_X7_readQual_98 hP hc  ?_)))
theorem pioK_oj_X7_readQual_30  {x0 : Option Nat} {x1 : Int32} {σ : oSt} (hP : iKptK P) (hc : cQoK P call)  (h : P σ) : PIo P (oj_X7_readQual_30 n call κ  x0 x1 σ) := by
  unfold oj_X7_readQual_30
  repeat' (with_reducible (first | assumption | (refine PIoK_gd ?_) | (refine PIoK_pf hP ?_ (by decide) (by with_unfolding_all rfl) (fun _ _ => ?_)) | (refine PIoK_si hP ?_ (fun _ _ => ?_)) | (refine PIoK_sj hP ?_ (fun _ _ => ?_)) | (refine PIoK_sr hP ?_ (fun _ _ => ?_)) | (refine PIoK_cy hP ?_ (fun _ _ => ?_)) | (refine PIoK_bn (fun _ => ?_)) | (refine PIoK_na hP ?_ (fun _ _ => ?_)) | (refine PIoK_no hP ?_ (fun _ _ => ?_)) | (refine PIoK_ite ?_ ?_) | (refine PIoK_some ?_) | (exact PIoK_none) | (refine PIoK_cv (cQoK.c105 hc _ _ ?_) (fun _ _ => ?_)) | (refine pioK_oj_X7_readQual_51 hP hc  ?_)))
theorem pioK_ob_X7_readQual  {x0 : Option Nat} {σ : oSt} (hP : iKptK P) (hc : cQoK P call)  (h : P σ) : PIo P (ob_X7_readQual n call κ  x0 σ) := by
  unfold ob_X7_readQual
  repeat' (with_reducible (first | assumption | (refine PIoK_gd ?_) | (refine PIoK_pf hP ?_ (by decide) (by with_unfolding_all rfl) (fun _ _ => ?_)) | (refine PIoK_si hP ?_ (fun _ _ => ?_)) | (refine PIoK_sj hP ?_ (fun _ _ => ?_)) | (refine PIoK_sr hP ?_ (fun _ _ => ?_)) | (refine PIoK_cy hP ?_ (fun _ _ => ?_)) | (refine PIoK_bn (fun _ => ?_)) | (refine PIoK_na hP ?_ (fun _ _ => ?_)) | (refine PIoK_no hP ?_ (fun _ _ => ?_)) | (refine PIoK_ite ?_ ?_) | (refine PIoK_some ?_) | (exact PIoK_none) | (refine PIoK_cv (cQoK.c105 hc _ _ ?_) (fun _ _ => ?_)) | (refine PIoK_cv (cQoK.c107 hc _ _ ?_) (fun _ _ => ?_)) | (refine PIoK_in (cQoK.c104 hc _ _ ?_) (fun _ _ _ => ?_)) | (refine pioK_oj_X7_readQual_30 hP hc  ?_) | (refine pioK_oj_X7_readQual_51 hP hc  ?_)))
theorem pioK_ob_X11_textOf  {x0 : Option Nat} {x1 : Int32} {σ : oSt} (hP : iKptK P) (hc : cQoK P call)  (h : P σ) : PIo P (ob_X11_textOf n call κ  x0 x1 σ) := by
  unfold ob_X11_textOf
  repeat' (with_reducible (first | assumption | (refine PIoK_gd ?_) | (refine PIoK_pf hP ?_ (by decide) (by with_unfolding_all rfl) (fun _ _ => ?_)) | (refine PIoK_si hP ?_ (fun _ _ => ?_)) | (refine PIoK_sj hP ?_ (fun _ _ => ?_)) | (refine PIoK_sr hP ?_ (fun _ _ => ?_)) | (refine PIoK_cy hP ?_ (fun _ _ => ?_)) | (refine PIoK_bn (fun _ => ?_)) | (refine PIoK_na hP ?_ (fun _ _ => ?_)) | (refine PIoK_no hP ?_ (fun _ _ => ?_)) | (refine PIoK_ite ?_ ?_) | (refine PIoK_some ?_) | (exact PIoK_none) | (refine PIoK_rn (cQoK.c209 hc _ _ _ _ ?_) (fun _ _ _ => ?_))))
theorem pioK_ol_X7_counts_2  (hP : iKptK P) (hc : cQoK P call)  : ∀ (t : Nat) (x0 : Option Nat) (x1 : Option Nat) (x2 : Int32) (σ : oSt), P σ → PIo P (ol_X7_counts_2 n call κ  t x0 x1 x2 σ) := by
  intro t
  induction t with
  | zero => intros; exact PIoK_none
  | succ t ih =>
    intro x0 x1 x2 σ h
    rw [ol_X7_counts_2]
    repeat' (with_reducible (first | assumption | (refine PIoK_gd ?_) | (refine PIoK_pf hP ?_ (by decide) (by with_unfolding_all rfl) (fun _ _ => ?_)) | (refine PIoK_si hP ?_ (fun _ _ => ?_)) | (refine PIoK_sj hP ?_ (fun _ _ => ?_)) | (refine PIoK_sr hP ?_ (fun _ _ => ?_)) | (refine PIoK_cy hP ?_ (fun _ _ => ?_)) | (refine PIoK_bn (fun _ => ?_)) | (refine PIoK_na hP ?_ (fun _ _ => ?_)) | (refine PIoK_no hP ?_ (fun _ _ => ?_)) | (refine PIoK_ite ?_ ?_) | (refine PIoK_some ?_) | (exact PIoK_none) | (refine PIoK_in (cQoK.c217 hc _ _ _ ?_) (fun _ _ _ => ?_)) | (refine ih _ _ _ _ ?_)))
theorem pioK_ob_X7_counts  {x0 : Option Nat} {x1 : Option Nat} {σ : oSt} (hP : iKptK P) (hc : cQoK P call)  (h : P σ) : PIo P (ob_X7_counts n call κ  x0 x1 σ) := by
  unfold ob_X7_counts
  repeat' (with_reducible (first | assumption | (refine PIoK_gd ?_) | (refine PIoK_pf hP ?_ (by decide) (by with_unfolding_all rfl) (fun _ _ => ?_)) | (refine PIoK_si hP ?_ (fun _ _ => ?_)) | (refine PIoK_sj hP ?_ (fun _ _ => ?_)) | (refine PIoK_sr hP ?_ (fun _ _ => ?_)) | (refine PIoK_cy hP ?_ (fun _ _ => ?_)) | (refine PIoK_bn (fun _ => ?_)) | (refine PIoK_na hP ?_ (fun _ _ => ?_)) | (refine PIoK_no hP ?_ (fun _ _ => ?_)) | (refine PIoK_ite ?_ ?_) | (refine PIoK_some ?_) | (exact PIoK_none) | (refine pioK_ol_X7_counts_2 hP hc  _ _ _ _ _ ?_)))
theorem pioK_oj_X7_tell_82  {x0 : Option Nat} {x1 : Option Nat} {σ : oSt} (hP : iKptK P) (hc : cQoK P call)  (h : P σ) : PIo P (oj_X7_tell_82 n call κ  x0 x1 σ) := by
  unfold oj_X7_tell_82
  repeat' (with_reducible (first | assumption | (refine PIoK_gd ?_) | (refine PIoK_pf hP ?_ (by decide) (by with_unfolding_all rfl) (fun _ _ => ?_)) | (refine PIoK_si hP ?_ (fun _ _ => ?_)) | (refine PIoK_sj hP ?_ (fun _ _ => ?_)) | (refine PIoK_sr hP ?_ (fun _ _ => ?_)) | (refine PIoK_cy hP ?_ (fun _ _ => ?_)) | (refine PIoK_bn (fun _ => ?_)) | (refine PIoK_na hP ?_ (fun _ _ => ?_)) | (refine PIoK_no hP ?_ (fun _ _ => ?_)) | (refine PIoK_ite ?_ ?_) | (refine PIoK_some ?_) | (exact PIoK_none) | (refine PIoK_cv (cQoK.c105 hc _ _ ?_) (fun _ _ => ?_)) | (refine PIoK_in (cQoK.c227 hc _ _ _ ?_) (fun _ _ _ => ?_))))
theorem pioK_oj_X7_tell_74  {x0 : Option Nat} {x1 : Option Nat} {σ : oSt} (hP : iKptK P) (hc : cQoK P call)  (h : P σ) : PIo P (oj_X7_tell_74 n call κ  x0 x1 σ) := by
  unfold oj_X7_tell_74
  repeat' (with_reducible (first | assumption | (refine PIoK_gd ?_) | (refine PIoK_pf hP ?_ (by decide) (by with_unfolding_all rfl) (fun _ _ => ?_)) | (refine PIoK_si hP ?_ (fun _ _ => ?_)) | (refine PIoK_sj hP ?_ (fun _ _ => ?_)) | (refine PIoK_sr hP ?_ (fun _ _ => ?_)) | (refine PIoK_cy hP ?_ (fun _ _ => ?_)) | (refine PIoK_bn (fun _ => ?_)) | (refine PIoK_na hP ?_ (fun _ _ => ?_)) | (refine PIoK_no hP ?_ (fun _ _ => ?_)) | (refine PIoK_ite ?_ ?_) | (refine PIoK_some ?_) | (exact PIoK_none) | (refine PIoK_in (cQoK.c106 hc _ _ ?_) (fun _ _ _ => ?_)) | (refine pioK_oj_X7_tell_82 hP hc  ?_)))
theorem pioK_ob_X7_tell  {x0 : Option Nat} {σ : oSt} (hP : iKptK P) (hc : cQoK P call)  (h : P σ) : PIo P (ob_X7_tell n call κ  x0 σ) := by
  unfold ob_X7_tell
  repeat' (with_reducible (first | assumption | (refine PIoK_gd ?_) | (refine PIoK_pf hP ?_ (by decide) (by with_unfolding_all rfl) (fun _ _ => ?_)) | (refine PIoK_si hP ?_ (fun _ _ => ?_)) | (refine PIoK_sj hP ?_ (fun _ _ => ?_)) | (refine PIoK_sr hP ?_ (fun _ _ => ?_)) | (refine PIoK_cy hP ?_ (fun _ _ => ?_)) | (refine PIoK_bn (fun _ => ?_)) | (refine PIoK_na hP ?_ (fun _ _ => ?_)) | (refine PIoK_no hP ?_ (fun _ _ => ?_)) | (refine PIoK_ite ?_ ?_) | (refine PIoK_some ?_) | (exact PIoK_none) | (refine PIoK_cv (cQoK.c7 hc _ _ _ _ ?_) (fun _ _ => ?_)) | (refine PIoK_cv (cQoK.c107 hc _ _ ?_) (fun _ _ => ?_)) | (refine PIoK_in (cQoK.c104 hc _ _ ?_) (fun _ _ _ => ?_)) | (refine PIoK_rn (cQoK.c113 hc _ _ _ ?_) (fun _ _ _ => ?_)) | (refine PIoK_rn (cQoK.c114 hc _ _ _ ?_) (fun _ _ _ => ?_)) | (refine pioK_oj_X7_tell_82 hP hc  ?_) | (refine pioK_oj_X7_tell_74 hP hc  ?_)))
theorem pioK_oj_X7_count_27  {x0 : Option Nat} {σ : oSt} (hP : iKptK P) (hc : cQoK P call)  (h : P σ) : PIo P (oj_X7_count_27 n call κ  x0 σ) := by
  unfold oj_X7_count_27
  repeat' (with_reducible (first | assumption | (refine PIoK_gd ?_) | (refine PIoK_pf hP ?_ (by decide) (by with_unfolding_all rfl) (fun _ _ => ?_)) | (refine PIoK_si hP ?_ (fun _ _ => ?_)) | (refine PIoK_sj hP ?_ (fun _ _ => ?_)) | (refine PIoK_sr hP ?_ (fun _ _ => ?_)) | (refine PIoK_cy hP ?_ (fun _ _ => ?_)) | (refine PIoK_bn (fun _ => ?_)) | (refine PIoK_na hP ?_ (fun _ _ => ?_)) | (refine PIoK_no hP ?_ (fun _ _ => ?_)) | (refine PIoK_ite ?_ ?_) | (refine PIoK_some ?_) | (exact PIoK_none)))
theorem pioK_ob_X7_count  {x0 : Option Nat} {x1 : Option Nat} {σ : oSt} (hP : iKptK P) (hc : cQoK P call)  (h : P σ) : PIo P (ob_X7_count n call κ  x0 x1 σ) := by
  unfold ob_X7_count
  repeat' (with_reducible (first | assumption | (refine PIoK_gd ?_) | (refine PIoK_pf hP ?_ (by decide) (by with_unfolding_all rfl) (fun _ _ => ?_)) | (refine PIoK_si hP ?_ (fun _ _ => ?_)) | (refine PIoK_sj hP ?_ (fun _ _ => ?_)) | (refine PIoK_sr hP ?_ (fun _ _ => ?_)) | (refine PIoK_cy hP ?_ (fun _ _ => ?_)) | (refine PIoK_bn (fun _ => ?_)) | (refine PIoK_na hP ?_ (fun _ _ => ?_)) | (refine PIoK_no hP ?_ (fun _ _ => ?_)) | (refine PIoK_ite ?_ ?_) | (refine PIoK_some ?_) | (exact PIoK_none) | (refine pioK_oj_X7_count_27 hP hc  ?_)))
theorem pioK_oj_X7_readInput_57  {x0 : Option Nat} {x1 : Option Nat} {σ : oSt} (hP : iKptK P) (hc : cQoK P call)  (h : P σ) : PIo P (oj_X7_readInput_57 n call κ  x0 x1 σ) := by
  unfold oj_X7_readInput_57
  repeat' (with_reducible (first | assumption | (refine PIoK_gd ?_) | (refine PIoK_pf hP ?_ (by decide) (by with_unfolding_all rfl) (fun _ _ => ?_)) | (refine PIoK_si hP ?_ (fun _ _ => ?_)) | (refine PIoK_sj hP ?_ (fun _ _ => ?_)) | (refine PIoK_sr hP ?_ (fun _ _ => ?_)) | (refine PIoK_cy hP ?_ (fun _ _ => ?_)) | (refine PIoK_bn (fun _ => ?_)) | (refine PIoK_na hP ?_ (fun _ _ => ?_)) | (refine PIoK_no hP ?_ (fun _ _ => ?_)) | (refine PIoK_ite ?_ ?_) | (refine PIoK_some ?_) | (exact PIoK_none) | (refine PIoK_cv (cQoK.c108 hc _ _ _ ?_) (fun _ _ => ?_)) | (refine PIoK_cv (cQoK.c116 hc _ _ _ ?_) (fun _ _ => ?_))))
theorem pioK_oj_X7_readInput_41  {x0 : Option Nat} {x1 : Option Nat} {x2 : Int32} {σ : oSt} (hP : iKptK P) (hc : cQoK P call)  (h : P σ) : PIo P (oj_X7_readInput_41 n call κ  x0 x1 x2 σ) := by
  unfold oj_X7_readInput_41
  repeat' (with_reducible (first | assumption | (refine PIoK_gd ?_) | (refine PIoK_pf hP ?_ (by decide) (by with_unfolding_all rfl) (fun _ _ => ?_)) | (refine PIoK_si hP ?_ (fun _ _ => ?_)) | (refine PIoK_sj hP ?_ (fun _ _ => ?_)) | (refine PIoK_sr hP ?_ (fun _ _ => ?_)) | (refine PIoK_cy hP ?_ (fun _ _ => ?_)) | (refine PIoK_bn (fun _ => ?_)) | (refine PIoK_na hP ?_ (fun _ _ => ?_)) | (refine PIoK_no hP ?_ (fun _ _ => ?_)) | (refine PIoK_ite ?_ ?_) | (refine PIoK_some ?_) | (exact PIoK_none) | (refine PIoK_cv (cQoK.c105 hc _ _ ?_) (fun _ _ => ?_)) | (refine pioK_oj_X7_readInput_57 hP hc  ?_)))
theorem pioK_ob_X7_readInput  {x0 : Option Nat} {σ : oSt} (hP : iKptK P) (hc : cQoK P call)  (h : P σ) : PIo P (ob_X7_readInput n call κ  x0 σ) := by
  unfold ob_X7_readInput
  repeat' (with_reducible (first | assumption | (refine PIoK_gd ?_) | (refine PIoK_pf hP ?_ (by decide) (by with_unfolding_all rfl) (fun _ _ => ?_)) | (refine PIoK_si hP ?_ (fun _ _ => ?_)) | (refine PIoK_sj hP ?_ (fun _ _ => ?_)) | (refine PIoK_sr hP ?_ (fun _ _ => ?_)) | (refine PIoK_cy hP ?_ (fun _ _ => ?_)) | (refine PIoK_bn (fun _ => ?_)) | (refine PIoK_na hP ?_ (fun _ _ => ?_)) | (refine PIoK_no hP ?_ (fun _ _ => ?_)) | (refine PIoK_ite ?_ ?_) | (refine PIoK_some ?_) | (exact PIoK_none) | (refine PIoK_cv (cQoK.c105 hc _ _ ?_) (fun _ _ => ?_)) | (refine PIoK_cv (cQoK.c107 hc _ _ ?_) (fun _ _ => ?_)) | (refine PIoK_cv (cQoK.c108 hc _ _ _ ?_) (fun _ _ => ?_)) | (refine PIoK_in (cQoK.c104 hc _ _ ?_) (fun _ _ _ => ?_)) | (refine PIoK_rn (cQoK.c115 hc _ _ ?_) (fun _ _ _ => ?_)) | (refine pioK_oj_X7_readInput_41 hP hc  ?_) | (refine pioK_oj_X7_readInput_57 hP hc  ?_)))
theorem pioK_ob_X7_node  {x0 : Option Nat} {x1 : Int32} {σ : oSt} (hP : iKptK P) (hc : cQoK P call)  (h : P σ) : PIo P (ob_X7_node n call κ  x0 x1 σ) := by
  unfold ob_X7_node
  repeat' (with_reducible (first | assumption | (refine PIoK_gd ?_) | (refine PIoK_pf hP ?_ (by decide) (by with_unfolding_all rfl) (fun _ _ => ?_)) | (refine PIoK_si hP ?_ (fun _ _ => ?_)) | (refine PIoK_sj hP ?_ (fun _ _ => ?_)) | (refine PIoK_sr hP ?_ (fun _ _ => ?_)) | (refine PIoK_cy hP ?_ (fun _ _ => ?_)) | (refine PIoK_bn (fun _ => ?_)) | (refine PIoK_na hP ?_ (fun _ _ => ?_)) | (refine PIoK_no hP ?_ (fun _ _ => ?_)) | (refine PIoK_ite ?_ ?_) | (refine PIoK_some ?_) | (exact PIoK_none) | (refine PIoK_cv (cQoK.c102 hc _ _ _ _ _ ?_) (fun _ _ => ?_)) | (refine PIoK_in (cQoK.c106 hc _ _ ?_) (fun _ _ _ => ?_))))
theorem pioK_oj_X7_use_49  {x0 : Option Nat} {x1 : Option Nat} {σ : oSt} (hP : iKptK P) (hc : cQoK P call)  (h : P σ) : PIo P (oj_X7_use_49 n call κ  x0 x1 σ) := by
  unfold oj_X7_use_49
  repeat' (with_reducible (first | assumption | (refine PIoK_gd ?_) | (refine PIoK_pf hP ?_ (by decide) (by with_unfolding_all rfl) (fun _ _ => ?_)) | (refine PIoK_si hP ?_ (fun _ _ => ?_)) | (refine PIoK_sj hP ?_ (fun _ _ => ?_)) | (refine PIoK_sr hP ?_ (fun _ _ => ?_)) | (refine PIoK_cy hP ?_ (fun _ _ => ?_)) | (refine PIoK_bn (fun _ => ?_)) | (refine PIoK_na hP ?_ (fun _ _ => ?_)) | (refine PIoK_no hP ?_ (fun _ _ => ?_)) | (refine PIoK_ite ?_ ?_) | (refine PIoK_some ?_) | (exact PIoK_none) | (refine PIoK_cv (cQoK.c105 hc _ _ ?_) (fun _ _ => ?_))))
theorem pioK_ob_X7_use  {x0 : Option Nat} {σ : oSt} (hP : iKptK P) (hc : cQoK P call)  (h : P σ) : PIo P (ob_X7_use n call κ  x0 σ) := by
  unfold ob_X7_use
  repeat' (with_reducible (first | assumption | (refine PIoK_gd ?_) | (refine PIoK_pf hP ?_ (by decide) (by with_unfolding_all rfl) (fun _ _ => ?_)) | (refine PIoK_si hP ?_ (fun _ _ => ?_)) | (refine PIoK_sj hP ?_ (fun _ _ => ?_)) | (refine PIoK_sr hP ?_ (fun _ _ => ?_)) | (refine PIoK_cy hP ?_ (fun _ _ => ?_)) | (refine PIoK_bn (fun _ => ?_)) | (refine PIoK_na hP ?_ (fun _ _ => ?_)) | (refine PIoK_no hP ?_ (fun _ _ => ?_)) | (refine PIoK_ite ?_ ?_) | (refine PIoK_some ?_) | (exact PIoK_none) | (refine PIoK_cv (cQoK.c107 hc _ _ ?_) (fun _ _ => ?_)) | (refine PIoK_in (cQoK.c104 hc _ _ ?_) (fun _ _ _ => ?_)) | (refine PIoK_in (cQoK.c106 hc _ _ ?_) (fun _ _ _ => ?_)) | (refine PIoK_rn (cQoK.c113 hc _ _ _ ?_) (fun _ _ _ => ?_)) | (refine PIoK_rn (cQoK.c114 hc _ _ _ ?_) (fun _ _ _ => ?_)) | (refine pioK_oj_X7_use_49 hP hc  ?_)))
theorem pioK_oj_X7_sum__260 {k43 : Option Nat → Int32 → Option Nat → Int32 → Int32 → oSt → oRs} {x0 : Option Nat} {x1 : Int32} {x2 : Option Nat} {x4 : Int32} {t0 : Int32} {σ : oSt} (hP : iKptK P) (hc : cQoK P call) (hk43 : ∀ (a0 : Option Nat) (a1 : Int32) (a2 : Option Nat) (a3 : Int32) (a4 : Int32), ∀ σ, P σ → PIo P (k43 a0 a1 a2 a3 a4 σ)) (h : P σ) : PIo P (oj_X7_sum__260 n call κ k43 x0 x1 x2 x4 t0 σ) := by
  unfold oj_X7_sum__260
  repeat' (with_reducible (first | assumption | (refine PIoK_gd ?_) | (refine PIoK_pf hP ?_ (by decide) (by with_unfolding_all rfl) (fun _ _ => ?_)) | (refine PIoK_si hP ?_ (fun _ _ => ?_)) | (refine PIoK_sj hP ?_ (fun _ _ => ?_)) | (refine PIoK_sr hP ?_ (fun _ _ => ?_)) | (refine PIoK_cy hP ?_ (fun _ _ => ?_)) | (refine PIoK_bn (fun _ => ?_)) | (refine PIoK_na hP ?_ (fun _ _ => ?_)) | (refine PIoK_no hP ?_ (fun _ _ => ?_)) | (refine PIoK_ite ?_ ?_) | (refine PIoK_some ?_) | (exact PIoK_none) | (refine hk43 _ _ _ _ _ _ ?_)))
theorem pioK_oj_X7_sum__255 {k43 : Option Nat → Int32 → Option Nat → Int32 → Int32 → oSt → oRs} {x0 : Option Nat} {x1 : Int32} {x2 : Option Nat} {x4 : Int32} {σ : oSt} (hP : iKptK P) (hc : cQoK P call) (hk43 : ∀ (a0 : Option Nat) (a1 : Int32) (a2 : Option Nat) (a3 : Int32) (a4 : Int32), ∀ σ, P σ → PIo P (k43 a0 a1 a2 a3 a4 σ)) (h : P σ) : PIo P (oj_X7_sum__255 n call κ k43 x0 x1 x2 x4 σ) := by
  unfold oj_X7_sum__255
  repeat' (with_reducible (first | assumption | (refine PIoK_gd ?_) | (refine PIoK_pf hP ?_ (by decide) (by with_unfolding_all rfl) (fun _ _ => ?_)) | (refine PIoK_si hP ?_ (fun _ _ => ?_)) | (refine PIoK_sj hP ?_ (fun _ _ => ?_)) | (refine PIoK_sr hP ?_ (fun _ _ => ?_)) | (refine PIoK_cy hP ?_ (fun _ _ => ?_)) | (refine PIoK_bn (fun _ => ?_)) | (refine PIoK_na hP ?_ (fun _ _ => ?_)) | (refine PIoK_no hP ?_ (fun _ _ => ?_)) | (refine PIoK_ite ?_ ?_) | (refine PIoK_some ?_) | (exact PIoK_none) | (refine pioK_oj_X7_sum__260 hP hc hk43 ?_) | (refine hk43 _ _ _ _ _ _ ?_)))
theorem pioK_oj_X7_sum__237 {k43 : Option Nat → Int32 → Option Nat → Int32 → Int32 → oSt → oRs} {x0 : Option Nat} {x1 : Int32} {x2 : Option Nat} {x4 : Int32} {σ : oSt} (hP : iKptK P) (hc : cQoK P call) (hk43 : ∀ (a0 : Option Nat) (a1 : Int32) (a2 : Option Nat) (a3 : Int32) (a4 : Int32), ∀ σ, P σ → PIo P (k43 a0 a1 a2 a3 a4 σ)) (h : P σ) : PIo P (oj_X7_sum__237 n call κ k43 x0 x1 x2 x4 σ) := by
  unfold oj_X7_sum__237
  repeat' (with_reducible (first | assumption | (refine PIoK_gd ?_) | (refine PIoK_pf hP ?_ (by decide) (by with_unfolding_all rfl) (fun _ _ => ?_)) | (refine PIoK_si hP ?_ (fun _ _ => ?_)) | (refine PIoK_sj hP ?_ (fun _ _ => ?_)) | (refine PIoK_sr hP ?_ (fun _ _ => ?_)) | (refine PIoK_cy hP ?_ (fun _ _ => ?_)) | (refine PIoK_bn (fun _ => ?_)) | (refine PIoK_na hP ?_ (fun _ _ => ?_)) | (refine PIoK_no hP ?_ (fun _ _ => ?_)) | (refine PIoK_ite ?_ ?_) | (refine PIoK_some ?_) | (exact PIoK_none) | (refine PIoK_in (cQoK.c104 hc _ _ ?_) (fun _ _ _ => ?_)) | (refine pioK_oj_X7_sum__255 hP hc hk43 ?_) | (refine pioK_oj_X7_sum__260 hP hc hk43 ?_) | (refine hk43 _ _ _ _ _ _ ?_)))
theorem pioK_oj_X7_sum__190 {k43 : Option Nat → Int32 → Option Nat → Int32 → Int32 → oSt → oRs} {x0 : Option Nat} {x1 : Int32} {x2 : Option Nat} {x4 : Int32} {x5 : Int32} {t0 : Option Nat} {t1 : Int32} {σ : oSt} (hP : iKptK P) (hc : cQoK P call) (hk43 : ∀ (a0 : Option Nat) (a1 : Int32) (a2 : Option Nat) (a3 : Int32) (a4 : Int32), ∀ σ, P σ → PIo P (k43 a0 a1 a2 a3 a4 σ)) (h : P σ) : PIo P (oj_X7_sum__190 n call κ k43 x0 x1 x2 x4 x5 t0 t1 σ) := by
  unfold oj_X7_sum__190
  repeat' (with_reducible (first | assumption | (refine PIoK_gd ?_) | (refine PIoK_pf hP ?_ (by decide) (by with_unfolding_all rfl) (fun _ _ => ?_)) | (refine PIoK_si hP ?_ (fun _ _ => ?_)) | (refine PIoK_sj hP ?_ (fun _ _ => ?_)) | (refine PIoK_sr hP ?_ (fun _ _ => ?_)) | (refine PIoK_cy hP ?_ (fun _ _ => ?_)) | (refine PIoK_bn (fun _ => ?_)) | (refine PIoK_na hP ?_ (fun _ _ => ?_)) | (refine PIoK_no hP ?_ (fun _ _ => ?_)) | (refine PIoK_ite ?_ ?_) | (refine PIoK_some ?_) | (exact PIoK_none) | (refine PIoK_cv (cQoK.c10 hc _ _ _ _ ?_) (fun _ _ => ?_)) | (refine PIoK_in (cQoK.c227 hc _ _ _ ?_) (fun _ _ _ => ?_)) | (refine PIoK_rn (cQoK.c118 hc _ _ _ ?_) (fun _ _ _ => ?_)) | (refine PIoK_rn (cQoK.c119 hc _ _ ?_) (fun _ _ _ => ?_)) | (refine pioK_oj_X7_sum__237 hP hc hk43 ?_) | (refine hk43 _ _ _ _ _ _ ?_)))
theorem pioK_oj_X7_sum__158 {k43 : Option Nat → Int32 → Option Nat → Int32 → Int32 → oSt → oRs} {x0 : Option Nat} {x1 : Int32} {x2 : Option Nat} {x4 : Int32} {x5 : Int32} {x6 : Int32} {σ : oSt} (hP : iKptK P) (hc : cQoK P call) (hk43 : ∀ (a0 : Option Nat) (a1 : Int32) (a2 : Option Nat) (a3 : Int32) (a4 : Int32), ∀ σ, P σ → PIo P (k43 a0 a1 a2 a3 a4 σ)) (h : P σ) : PIo P (oj_X7_sum__158 n call κ k43 x0 x1 x2 x4 x5 x6 σ) := by
  unfold oj_X7_sum__158
  repeat' (with_reducible (first | assumption | (refine PIoK_gd ?_) | (refine PIoK_pf hP ?_ (by decide) (by with_unfolding_all rfl) (fun _ _ => ?_)) | (refine PIoK_si hP ?_ (fun _ _ => ?_)) | (refine PIoK_sj hP ?_ (fun _ _ => ?_)) | (refine PIoK_sr hP ?_ (fun _ _ => ?_)) | (refine PIoK_cy hP ?_ (fun _ _ => ?_)) | (refine PIoK_bn (fun _ => ?_)) | (refine PIoK_na hP ?_ (fun _ _ => ?_)) | (refine PIoK_no hP ?_ (fun _ _ => ?_)) | (refine PIoK_ite ?_ ?_) | (refine PIoK_some ?_) | (exact PIoK_none) | (refine pioK_oj_X7_sum__190 hP hc hk43 ?_) | (refine hk43 _ _ _ _ _ _ ?_)))
theorem pioK_oj_X7_sum__154 {k43 : Option Nat → Int32 → Option Nat → Int32 → Int32 → oSt → oRs} {x0 : Option Nat} {x1 : Int32} {x2 : Option Nat} {x4 : Int32} {x5 : Int32} {x6 : Int32} {σ : oSt} (hP : iKptK P) (hc : cQoK P call) (hk43 : ∀ (a0 : Option Nat) (a1 : Int32) (a2 : Option Nat) (a3 : Int32) (a4 : Int32), ∀ σ, P σ → PIo P (k43 a0 a1 a2 a3 a4 σ)) (h : P σ) : PIo P (oj_X7_sum__154 n call κ k43 x0 x1 x2 x4 x5 x6 σ) := by
  unfold oj_X7_sum__154
  repeat' (with_reducible (first | assumption | (refine PIoK_gd ?_) | (refine PIoK_pf hP ?_ (by decide) (by with_unfolding_all rfl) (fun _ _ => ?_)) | (refine PIoK_si hP ?_ (fun _ _ => ?_)) | (refine PIoK_sj hP ?_ (fun _ _ => ?_)) | (refine PIoK_sr hP ?_ (fun _ _ => ?_)) | (refine PIoK_cy hP ?_ (fun _ _ => ?_)) | (refine PIoK_bn (fun _ => ?_)) | (refine PIoK_na hP ?_ (fun _ _ => ?_)) | (refine PIoK_no hP ?_ (fun _ _ => ?_)) | (refine PIoK_ite ?_ ?_) | (refine PIoK_some ?_) | (exact PIoK_none) | (refine PIoK_cv (cQoK.c105 hc _ _ ?_) (fun _ _ => ?_)) | (refine pioK_oj_X7_sum__158 hP hc hk43 ?_) | (refine hk43 _ _ _ _ _ _ ?_)))
theorem pioK_oj_X7_sum__92 {k43 : Option Nat → Int32 → Option Nat → Int32 → Int32 → oSt → oRs} {x0 : Option Nat} {x1 : Int32} {x2 : Option Nat} {x4 : Int32} {x5 : Int32} {σ : oSt} (hP : iKptK P) (hc : cQoK P call) (hk43 : ∀ (a0 : Option Nat) (a1 : Int32) (a2 : Option Nat) (a3 : Int32) (a4 : Int32), ∀ σ, P σ → PIo P (k43 a0 a1 a2 a3 a4 σ)) (h : P σ) : PIo P (oj_X7_sum__92 n call κ k43 x0 x1 x2 x4 x5 σ) := by
  unfold oj_X7_sum__92
  repeat' (with_reducible (first | assumption | (refine PIoK_gd ?_) | (refine PIoK_pf hP ?_ (by decide) (by with_unfolding_all rfl) (fun _ _ => ?_)) | (refine PIoK_si hP ?_ (fun _ _ => ?_)) | (refine PIoK_sj hP ?_ (fun _ _ => ?_)) | (refine PIoK_sr hP ?_ (fun _ _ => ?_)) | (refine PIoK_cy hP ?_ (fun _ _ => ?_)) | (refine PIoK_bn (fun _ => ?_)) | (refine PIoK_na hP ?_ (fun _ _ => ?_)) | (refine PIoK_no hP ?_ (fun _ _ => ?_)) | (refine PIoK_ite ?_ ?_) | (refine PIoK_some ?_) | (exact PIoK_none) | (refine PIoK_cv (cQoK.c105 hc _ _ ?_) (fun _ _ => ?_)) | (refine PIoK_in (cQoK.c104 hc _ _ ?_) (fun _ _ _ => ?_)) | (refine PIoK_in (cQoK.c110 hc _ _ _ ?_) (fun _ _ _ => ?_)) | (refine pioK_oj_X7_sum__237 hP hc hk43 ?_) | (refine pioK_oj_X7_sum__154 hP hc hk43 ?_) | (refine pioK_oj_X7_sum__158 hP hc hk43 ?_) | (refine hk43 _ _ _ _ _ _ ?_)))
theorem pioK_oj_X7_sum__83 {k43 : Option Nat → Int32 → Option Nat → Int32 → Int32 → oSt → oRs} {x0 : Option Nat} {x1 : Int32} {x2 : Option Nat} {x4 : Int32} {x5 : Int32} {σ : oSt} (hP : iKptK P) (hc : cQoK P call) (hk43 : ∀ (a0 : Option Nat) (a1 : Int32) (a2 : Option Nat) (a3 : Int32) (a4 : Int32), ∀ σ, P σ → PIo P (k43 a0 a1 a2 a3 a4 σ)) (h : P σ) : PIo P (oj_X7_sum__83 n call κ k43 x0 x1 x2 x4 x5 σ) := by
  unfold oj_X7_sum__83
  repeat' (with_reducible (first | assumption | (refine PIoK_gd ?_) | (refine PIoK_pf hP ?_ (by decide) (by with_unfolding_all rfl) (fun _ _ => ?_)) | (refine PIoK_si hP ?_ (fun _ _ => ?_)) | (refine PIoK_sj hP ?_ (fun _ _ => ?_)) | (refine PIoK_sr hP ?_ (fun _ _ => ?_)) | (refine PIoK_cy hP ?_ (fun _ _ => ?_)) | (refine PIoK_bn (fun _ => ?_)) | (refine PIoK_na hP ?_ (fun _ _ => ?_)) | (refine PIoK_no hP ?_ (fun _ _ => ?_)) | (refine PIoK_ite ?_ ?_) | (refine PIoK_some ?_) | (exact PIoK_none) | (refine PIoK_cv (cQoK.c105 hc _ _ ?_) (fun _ _ => ?_)) | (refine pioK_oj_X7_sum__92 hP hc hk43 ?_) | (refine hk43 _ _ _ _ _ _ ?_)))
theorem pioK_oj_X7_sum__67 {k43 : Option Nat → Int32 → Option Nat → Int32 → Int32 → oSt → oRs} {x0 : Option Nat} {x1 : Int32} {x2 : Option Nat} {x4 : Int32} {t0 : Int32} {σ : oSt} (hP : iKptK P) (hc : cQoK P call) (hk43 : ∀ (a0 : Option Nat) (a1 : Int32) (a2 : Option Nat) (a3 : Int32) (a4 : Int32), ∀ σ, P σ → PIo P (k43 a0 a1 a2 a3 a4 σ)) (h : P σ) : PIo P (oj_X7_sum__67 n call κ k43 x0 x1 x2 x4 t0 σ) := by
  unfold oj_X7_sum__67
  repeat' (with_reducible (first | assumption | (refine PIoK_gd ?_) | (refine PIoK_pf hP ?_ (by decide) (by with_unfolding_all rfl) (fun _ _ => ?_)) | (refine PIoK_si hP ?_ (fun _ _ => ?_)) | (refine PIoK_sj hP ?_ (fun _ _ => ?_)) | (refine PIoK_sr hP ?_ (fun _ _ => ?_)) | (refine PIoK_cy hP ?_ (fun _ _ => ?_)) | (refine PIoK_bn (fun _ => ?_)) | (refine PIoK_na hP ?_ (fun _ _ => ?_)) | (refine PIoK_no hP ?_ (fun _ _ => ?_)) | (refine PIoK_ite ?_ ?_) | (refine PIoK_some ?_) | (exact PIoK_none) | (refine PIoK_in (cQoK.c104 hc _ _ ?_) (fun _ _ _ => ?_)) | (refine pioK_oj_X7_sum__83 hP hc hk43 ?_) | (refine pioK_oj_X7_sum__92 hP hc hk43 ?_) | (refine hk43 _ _ _ _ _ _ ?_)))
theorem pioK_ol_X7_sum__43  (hP : iKptK P) (hc : cQoK P call)  : ∀ (t : Nat) (x0 : Option Nat) (x1 : Int32) (x2 : Option Nat) (x3 : Int32) (x4 : Int32) (σ : oSt), P σ → PIo P (ol_X7_sum__43 n call κ  t x0 x1 x2 x3 x4 σ) := by
  intro t
  induction t with
  | zero => intros; exact PIoK_none
  | succ t ih =>
    intro x0 x1 x2 x3 x4 σ h
    rw [ol_X7_sum__43]
    repeat' (with_reducible (first | assumption | (refine PIoK_gd ?_) | (refine PIoK_pf hP ?_ (by decide) (by with_unfolding_all rfl) (fun _ _ => ?_)) | (refine PIoK_si hP ?_ (fun _ _ => ?_)) | (refine PIoK_sj hP ?_ (fun _ _ => ?_)) | (refine PIoK_sr hP ?_ (fun _ _ => ?_)) | (refine PIoK_cy hP ?_ (fun _ _ => ?_)) | (refine PIoK_bn (fun _ => ?_)) | (refine PIoK_na hP ?_ (fun _ _ => ?_)) | (refine PIoK_no hP ?_ (fun _ _ => ?_)) | (refine PIoK_ite ?_ ?_) | (refine PIoK_some ?_) | (exact PIoK_none) | (refine PIoK_in (cQoK.c104 hc _ _ ?_) (fun _ _ _ => ?_)) | (refine pioK_oj_X7_sum__67 hP hc ih ?_)))
theorem pioK_ob_X7_sum_  {x0 : Option Nat} {x1 : Int32} {σ : oSt} (hP : iKptK P) (hc : cQoK P call)  (h : P σ) : PIo P (ob_X7_sum_ n call κ  x0 x1 σ) := by
  unfold ob_X7_sum_
  repeat' (with_reducible (first | assumption | (refine PIoK_gd ?_) | (refine PIoK_pf hP ?_ (by decide) (by with_unfolding_all rfl) (fun _ _ => ?_)) | (refine PIoK_si hP ?_ (fun _ _ => ?_)) | (refine PIoK_sj hP ?_ (fun _ _ => ?_)) | (refine PIoK_sr hP ?_ (fun _ _ => ?_)) | (refine PIoK_cy hP ?_ (fun _ _ => ?_)) | (refine PIoK_bn (fun _ => ?_)) | (refine PIoK_na hP ?_ (fun _ _ => ?_)) | (refine PIoK_no hP ?_ (fun _ _ => ?_)) | (refine PIoK_ite ?_ ?_) | (refine PIoK_some ?_) | (exact PIoK_none) | (refine PIoK_cv (cQoK.c8 hc _ _ ?_) (fun _ _ => ?_)) | (refine PIoK_cv (cQoK.c224 hc _ _ ?_) (fun _ _ => ?_)) | (refine PIoK_in (cQoK.c104 hc _ _ ?_) (fun _ _ _ => ?_)) | (refine PIoK_rn (cQoK.c118 hc _ _ _ ?_) (fun _ _ _ => ?_)) | (refine pioK_ol_X7_sum__43 hP hc  _ _ _ _ _ _ _ ?_)))
theorem pioK_ob_X7_sum  {x0 : Option Nat} {σ : oSt} (hP : iKptK P) (hc : cQoK P call)  (h : P σ) : PIo P (ob_X7_sum n call κ  x0 σ) := by
  unfold ob_X7_sum
  repeat' (with_reducible (first | assumption | (refine PIoK_gd ?_) | (refine PIoK_pf hP ?_ (by decide) (by with_unfolding_all rfl) (fun _ _ => ?_)) | (refine PIoK_si hP ?_ (fun _ _ => ?_)) | (refine PIoK_sj hP ?_ (fun _ _ => ?_)) | (refine PIoK_sr hP ?_ (fun _ _ => ?_)) | (refine PIoK_cy hP ?_ (fun _ _ => ?_)) | (refine PIoK_bn (fun _ => ?_)) | (refine PIoK_na hP ?_ (fun _ _ => ?_)) | (refine PIoK_no hP ?_ (fun _ _ => ?_)) | (refine PIoK_ite ?_ ?_) | (refine PIoK_some ?_) | (exact PIoK_none) | (refine PIoK_rn (cQoK.c120 hc _ _ _ ?_) (fun _ _ _ => ?_))))
theorem pioK_oj_X7_blameForm_19  {x0 : Option Nat} {x1 : Int32} {σ : oSt} (hP : iKptK P) (hc : cQoK P call)  (h : P σ) : PIo P (oj_X7_blameForm_19 n call κ  x0 x1 σ) := by
  unfold oj_X7_blameForm_19
  repeat' (with_reducible (first | assumption | (refine PIoK_gd ?_) | (refine PIoK_pf hP ?_ (by decide) (by with_unfolding_all rfl) (fun _ _ => ?_)) | (refine PIoK_si hP ?_ (fun _ _ => ?_)) | (refine PIoK_sj hP ?_ (fun _ _ => ?_)) | (refine PIoK_sr hP ?_ (fun _ _ => ?_)) | (refine PIoK_cy hP ?_ (fun _ _ => ?_)) | (refine PIoK_bn (fun _ => ?_)) | (refine PIoK_na hP ?_ (fun _ _ => ?_)) | (refine PIoK_no hP ?_ (fun _ _ => ?_)) | (refine PIoK_ite ?_ ?_) | (refine PIoK_some ?_) | (exact PIoK_none)))
theorem pioK_ob_X7_blameForm  {x0 : Option Nat} {x1 : Int32} {σ : oSt} (hP : iKptK P) (hc : cQoK P call)  (h : P σ) : PIo P (ob_X7_blameForm n call κ  x0 x1 σ) := by
  unfold ob_X7_blameForm
  repeat' (with_reducible (first | assumption | (refine PIoK_gd ?_) | (refine PIoK_pf hP ?_ (by decide) (by with_unfolding_all rfl) (fun _ _ => ?_)) | (refine PIoK_si hP ?_ (fun _ _ => ?_)) | (refine PIoK_sj hP ?_ (fun _ _ => ?_)) | (refine PIoK_sr hP ?_ (fun _ _ => ?_)) | (refine PIoK_cy hP ?_ (fun _ _ => ?_)) | (refine PIoK_bn (fun _ => ?_)) | (refine PIoK_na hP ?_ (fun _ _ => ?_)) | (refine PIoK_no hP ?_ (fun _ _ => ?_)) | (refine PIoK_ite ?_ ?_) | (refine PIoK_some ?_) | (exact PIoK_none) | (refine pioK_oj_X7_blameForm_19 hP hc  ?_)))
theorem pioK_ob_X7_compare  {x0 : Option Nat} {x1 : Option Nat} {x2 : Int32} {σ : oSt} (hP : iKptK P) (hc : cQoK P call)  (h : P σ) : PIo P (ob_X7_compare n call κ  x0 x1 x2 σ) := by
  unfold ob_X7_compare
  repeat' (with_reducible (first | assumption | (refine PIoK_gd ?_) | (refine PIoK_pf hP ?_ (by decide) (by with_unfolding_all rfl) (fun _ _ => ?_)) | (refine PIoK_si hP ?_ (fun _ _ => ?_)) | (refine PIoK_sj hP ?_ (fun _ _ => ?_)) | (refine PIoK_sr hP ?_ (fun _ _ => ?_)) | (refine PIoK_cy hP ?_ (fun _ _ => ?_)) | (refine PIoK_bn (fun _ => ?_)) | (refine PIoK_na hP ?_ (fun _ _ => ?_)) | (refine PIoK_no hP ?_ (fun _ _ => ?_)) | (refine PIoK_ite ?_ ?_) | (refine PIoK_some ?_) | (exact PIoK_none) | (refine PIoK_rn (cQoK.c118 hc _ _ _ ?_) (fun _ _ _ => ?_))))
theorem pioK_ol_X9_addAll_2  (hP : iKptK P) (hc : cQoK P call)  : ∀ (t : Nat) (x0 : Option Nat) (x1 : Option Nat) (x2 : Int32) (x3 : Int32) (σ : oSt), P σ → PIo P (ol_X9_addAll_2 n call κ  t x0 x1 x2 x3 σ) := by
  intro t
  induction t with
  | zero => intros; exact PIoK_none
  | succ t ih =>
    intro x0 x1 x2 x3 σ h
    rw [ol_X9_addAll_2]
    repeat' (with_reducible (first | assumption | (refine PIoK_gd ?_) | (refine PIoK_pf hP ?_ (by decide) (by with_unfolding_all rfl) (fun _ _ => ?_)) | (refine PIoK_si hP ?_ (fun _ _ => ?_)) | (refine PIoK_sj hP ?_ (fun _ _ => ?_)) | (refine PIoK_sr hP ?_ (fun _ _ => ?_)) | (refine PIoK_cy hP ?_ (fun _ _ => ?_)) | (refine PIoK_bn (fun _ => ?_)) | (refine PIoK_na hP ?_ (fun _ _ => ?_)) | (refine PIoK_no hP ?_ (fun _ _ => ?_)) | (refine PIoK_ite ?_ ?_) | (refine PIoK_some ?_) | (exact PIoK_none) | (refine PIoK_cv (cQoK.c10 hc _ _ _ _ ?_) (fun _ _ => ?_)) | (refine ih _ _ _ _ _ ?_)))
theorem pioK_ob_X9_addAll  {x0 : Option Nat} {x1 : Option Nat} {x2 : Int32} {σ : oSt} (hP : iKptK P) (hc : cQoK P call)  (h : P σ) : PIo P (ob_X9_addAll n call κ  x0 x1 x2 σ) := by
  unfold ob_X9_addAll
  repeat' (with_reducible (first | assumption | (refine PIoK_gd ?_) | (refine PIoK_pf hP ?_ (by decide) (by with_unfolding_all rfl) (fun _ _ => ?_)) | (refine PIoK_si hP ?_ (fun _ _ => ?_)) | (refine PIoK_sj hP ?_ (fun _ _ => ?_)) | (refine PIoK_sr hP ?_ (fun _ _ => ?_)) | (refine PIoK_cy hP ?_ (fun _ _ => ?_)) | (refine PIoK_bn (fun _ => ?_)) | (refine PIoK_na hP ?_ (fun _ _ => ?_)) | (refine PIoK_no hP ?_ (fun _ _ => ?_)) | (refine PIoK_ite ?_ ?_) | (refine PIoK_some ?_) | (exact PIoK_none) | (refine pioK_ol_X9_addAll_2 hP hc  _ _ _ _ _ _ ?_)))
theorem pioK_oj_X7_comparison_72  {x0 : Option Nat} {x1 : Option Nat} {σ : oSt} (hP : iKptK P) (hc : cQoK P call)  (h : P σ) : PIo P (oj_X7_comparison_72 n call κ  x0 x1 σ) := by
  unfold oj_X7_comparison_72
  repeat' (with_reducible (first | assumption | (refine PIoK_gd ?_) | (refine PIoK_pf hP ?_ (by decide) (by with_unfolding_all rfl) (fun _ _ => ?_)) | (refine PIoK_si hP ?_ (fun _ _ => ?_)) | (refine PIoK_sj hP ?_ (fun _ _ => ?_)) | (refine PIoK_sr hP ?_ (fun _ _ => ?_)) | (refine PIoK_cy hP ?_ (fun _ _ => ?_)) | (refine PIoK_bn (fun _ => ?_)) | (refine PIoK_na hP ?_ (fun _ _ => ?_)) | (refine PIoK_no hP ?_ (fun _ _ => ?_)) | (refine PIoK_ite ?_ ?_) | (refine PIoK_some ?_) | (exact PIoK_none) | (refine PIoK_cv (cQoK.c8 hc _ _ ?_) (fun _ _ => ?_)) | (refine PIoK_cv (cQoK.c105 hc _ _ ?_) (fun _ _ => ?_)) | (refine PIoK_cv (cQoK.c122 hc _ _ _ ?_) (fun _ _ => ?_)) | (refine PIoK_cv (cQoK.c124 hc _ _ _ _ ?_) (fun _ _ => ?_)) | (refine PIoK_in (cQoK.c38 hc _ _ ?_) (fun _ _ _ => ?_)) | (refine PIoK_in (cQoK.c104 hc _ _ ?_) (fun _ _ _ => ?_)) | (refine PIoK_in (cQoK.c106 hc _ _ ?_) (fun _ _ _ => ?_)) | (refine PIoK_rn (cQoK.c121 hc _ _ ?_) (fun _ _ _ => ?_))))
theorem pioK_ob_X7_comparison  {x0 : Option Nat} {x1 : Option Nat} {σ : oSt} (hP : iKptK P) (hc : cQoK P call)  (h : P σ) : PIo P (ob_X7_comparison n call κ  x0 x1 σ) := by
  unfold ob_X7_comparison
  repeat' (with_reducible (first | assumption | (refine PIoK_gd ?_) | (refine PIoK_pf hP ?_ (by decide) (by with_unfolding_all rfl) (fun _ _ => ?_)) | (refine PIoK_si hP ?_ (fun _ _ => ?_)) | (refine PIoK_sj hP ?_ (fun _ _ => ?_)) | (refine PIoK_sr hP ?_ (fun _ _ => ?_)) | (refine PIoK_cy hP ?_ (fun _ _ => ?_)) | (refine PIoK_bn (fun _ => ?_)) | (refine PIoK_na hP ?_ (fun _ _ => ?_)) | (refine PIoK_no hP ?_ (fun _ _ => ?_)) | (refine PIoK_ite ?_ ?_) | (refine PIoK_some ?_) | (exact PIoK_none) | (refine PIoK_cv (cQoK.c107 hc _ _ ?_) (fun _ _ => ?_)) | (refine PIoK_in (cQoK.c104 hc _ _ ?_) (fun _ _ _ => ?_)) | (refine PIoK_in (cQoK.c109 hc _ _ ?_) (fun _ _ _ => ?_)) | (refine PIoK_rn (cQoK.c121 hc _ _ ?_) (fun _ _ _ => ?_)) | (refine pioK_oj_X7_comparison_72 hP hc  ?_)))
theorem pioK_ol_X7_both_60  (hP : iKptK P) (hc : cQoK P call)  : ∀ (t : Nat) (x0 : Option Nat) (x1 : Int32) (x2 : Option Nat) (x3 : Int32) (σ : oSt), P σ → PIo P (ol_X7_both_60 n call κ  t x0 x1 x2 x3 σ) := by
  intro t
  induction t with
  | zero => intros; exact PIoK_none
  | succ t ih =>
    intro x0 x1 x2 x3 σ h
    rw [ol_X7_both_60]
    repeat' (with_reducible (first | assumption | (refine PIoK_gd ?_) | (refine PIoK_pf hP ?_ (by decide) (by with_unfolding_all rfl) (fun _ _ => ?_)) | (refine PIoK_si hP ?_ (fun _ _ => ?_)) | (refine PIoK_sj hP ?_ (fun _ _ => ?_)) | (refine PIoK_sr hP ?_ (fun _ _ => ?_)) | (refine PIoK_cy hP ?_ (fun _ _ => ?_)) | (refine PIoK_bn (fun _ => ?_)) | (refine PIoK_na hP ?_ (fun _ _ => ?_)) | (refine PIoK_no hP ?_ (fun _ _ => ?_)) | (refine PIoK_ite ?_ ?_) | (refine PIoK_some ?_) | (exact PIoK_none) | (refine PIoK_cv (cQoK.c105 hc _ _ ?_) (fun _ _ => ?_)) | (refine PIoK_in (cQoK.c104 hc _ _ ?_) (fun _ _ _ => ?_)) | (refine PIoK_in (cQoK.c227 hc _ _ _ ?_) (fun _ _ _ => ?_)) | (refine PIoK_rn (cQoK.c128 hc _ _ _ ?_) (fun _ _ _ => ?_)) | (refine ih _ _ _ _ _ ?_)))
theorem pioK_ob_X7_both  {x0 : Option Nat} {x1 : Int32} {σ : oSt} (hP : iKptK P) (hc : cQoK P call)  (h : P σ) : PIo P (ob_X7_both n call κ  x0 x1 σ) := by
  unfold ob_X7_both
  repeat' (with_reducible (first | assumption | (refine PIoK_gd ?_) | (refine PIoK_pf hP ?_ (by decide) (by with_unfolding_all rfl) (fun _ _ => ?_)) | (refine PIoK_si hP ?_ (fun _ _ => ?_)) | (refine PIoK_sj hP ?_ (fun _ _ => ?_)) | (refine PIoK_sr hP ?_ (fun _ _ => ?_)) | (refine PIoK_cy hP ?_ (fun _ _ => ?_)) | (refine PIoK_bn (fun _ => ?_)) | (refine PIoK_na hP ?_ (fun _ _ => ?_)) | (refine PIoK_no hP ?_ (fun _ _ => ?_)) | (refine PIoK_ite ?_ ?_) | (refine PIoK_some ?_) | (exact PIoK_none) | (refine PIoK_cv (cQoK.c102 hc _ _ _ _ _ ?_) (fun _ _ => ?_)) | (refine PIoK_cv (cQoK.c224 hc _ _ ?_) (fun _ _ => ?_)) | (refine PIoK_in (cQoK.c104 hc _ _ ?_) (fun _ _ _ => ?_)) | (refine PIoK_in (cQoK.c227 hc _ _ _ ?_) (fun _ _ _ => ?_)) | (refine PIoK_rn (cQoK.c128 hc _ _ _ ?_) (fun _ _ _ => ?_)) | (refine pioK_ol_X7_both_60 hP hc  _ _ _ _ _ _ ?_)))
theorem pioK_ol_X7_either_60  (hP : iKptK P) (hc : cQoK P call)  : ∀ (t : Nat) (x0 : Option Nat) (x1 : Int32) (x2 : Option Nat) (x3 : Int32) (σ : oSt), P σ → PIo P (ol_X7_either_60 n call κ  t x0 x1 x2 x3 σ) := by
  intro t
  induction t with
  | zero => intros; exact PIoK_none
  | succ t ih =>
    intro x0 x1 x2 x3 σ h
    rw [ol_X7_either_60]
    repeat' (with_reducible (first | assumption | (refine PIoK_gd ?_) | (refine PIoK_pf hP ?_ (by decide) (by with_unfolding_all rfl) (fun _ _ => ?_)) | (refine PIoK_si hP ?_ (fun _ _ => ?_)) | (refine PIoK_sj hP ?_ (fun _ _ => ?_)) | (refine PIoK_sr hP ?_ (fun _ _ => ?_)) | (refine PIoK_cy hP ?_ (fun _ _ => ?_)) | (refine PIoK_bn (fun _ => ?_)) | (refine PIoK_na hP ?_ (fun _ _ => ?_)) | (refine PIoK_no hP ?_ (fun _ _ => ?_)) | (refine PIoK_ite ?_ ?_) | (refine PIoK_some ?_) | (exact PIoK_none) | (refine PIoK_cv (cQoK.c105 hc _ _ ?_) (fun _ _ => ?_)) | (refine PIoK_in (cQoK.c104 hc _ _ ?_) (fun _ _ _ => ?_)) | (refine PIoK_in (cQoK.c227 hc _ _ _ ?_) (fun _ _ _ => ?_)) | (refine PIoK_rn (cQoK.c126 hc _ _ _ ?_) (fun _ _ _ => ?_)) | (refine ih _ _ _ _ _ ?_)))
theorem pioK_ob_X7_either  {x0 : Option Nat} {x1 : Int32} {σ : oSt} (hP : iKptK P) (hc : cQoK P call)  (h : P σ) : PIo P (ob_X7_either n call κ  x0 x1 σ) := by
  unfold ob_X7_either
  repeat' (with_reducible (first | assumption | (refine PIoK_gd ?_) | (refine PIoK_pf hP ?_ (by decide) (by with_unfolding_all rfl) (fun _ _ => ?_)) | (refine PIoK_si hP ?_ (fun _ _ => ?_)) | (refine PIoK_sj hP ?_ (fun _ _ => ?_)) | (refine PIoK_sr hP ?_ (fun _ _ => ?_)) | (refine PIoK_cy hP ?_ (fun _ _ => ?_)) | (refine PIoK_bn (fun _ => ?_)) | (refine PIoK_na hP ?_ (fun _ _ => ?_)) | (refine PIoK_no hP ?_ (fun _ _ => ?_)) | (refine PIoK_ite ?_ ?_) | (refine PIoK_some ?_) | (exact PIoK_none) | (refine PIoK_cv (cQoK.c102 hc _ _ _ _ _ ?_) (fun _ _ => ?_)) | (refine PIoK_cv (cQoK.c224 hc _ _ ?_) (fun _ _ => ?_)) | (refine PIoK_in (cQoK.c104 hc _ _ ?_) (fun _ _ _ => ?_)) | (refine PIoK_in (cQoK.c227 hc _ _ _ ?_) (fun _ _ _ => ?_)) | (refine PIoK_rn (cQoK.c126 hc _ _ _ ?_) (fun _ _ _ => ?_)) | (refine pioK_ol_X7_either_60 hP hc  _ _ _ _ _ _ ?_)))
theorem pioK_ob_X7_single  {x0 : Option Nat} {x1 : Int32} {σ : oSt} (hP : iKptK P) (hc : cQoK P call)  (h : P σ) : PIo P (ob_X7_single n call κ  x0 x1 σ) := by
  unfold ob_X7_single
  repeat' (with_reducible (first | assumption | (refine PIoK_gd ?_) | (refine PIoK_pf hP ?_ (by decide) (by with_unfolding_all rfl) (fun _ _ => ?_)) | (refine PIoK_si hP ?_ (fun _ _ => ?_)) | (refine PIoK_sj hP ?_ (fun _ _ => ?_)) | (refine PIoK_sr hP ?_ (fun _ _ => ?_)) | (refine PIoK_cy hP ?_ (fun _ _ => ?_)) | (refine PIoK_bn (fun _ => ?_)) | (refine PIoK_na hP ?_ (fun _ _ => ?_)) | (refine PIoK_no hP ?_ (fun _ _ => ?_)) | (refine PIoK_ite ?_ ?_) | (refine PIoK_some ?_) | (exact PIoK_none) | (refine PIoK_cv (cQoK.c105 hc _ _ ?_) (fun _ _ => ?_)) | (refine PIoK_cv (cQoK.c107 hc _ _ ?_) (fun _ _ => ?_)) | (refine PIoK_cv (cQoK.c108 hc _ _ _ ?_) (fun _ _ => ?_)) | (refine PIoK_in (cQoK.c104 hc _ _ ?_) (fun _ _ _ => ?_)) | (refine PIoK_rn (cQoK.c118 hc _ _ _ ?_) (fun _ _ _ => ?_)) | (refine PIoK_rn (cQoK.c125 hc _ _ _ ?_) (fun _ _ _ => ?_)) | (refine PIoK_rn (cQoK.c127 hc _ _ _ ?_) (fun _ _ _ => ?_)) | (refine PIoK_rn (cQoK.c128 hc _ _ _ ?_) (fun _ _ _ => ?_))))
theorem pioK_ob_X7_test  {x0 : Option Nat} {x1 : Int32} {σ : oSt} (hP : iKptK P) (hc : cQoK P call)  (h : P σ) : PIo P (ob_X7_test n call κ  x0 x1 σ) := by
  unfold ob_X7_test
  repeat' (with_reducible (first | assumption | (refine PIoK_gd ?_) | (refine PIoK_pf hP ?_ (by decide) (by with_unfolding_all rfl) (fun _ _ => ?_)) | (refine PIoK_si hP ?_ (fun _ _ => ?_)) | (refine PIoK_sj hP ?_ (fun _ _ => ?_)) | (refine PIoK_sr hP ?_ (fun _ _ => ?_)) | (refine PIoK_cy hP ?_ (fun _ _ => ?_)) | (refine PIoK_bn (fun _ => ?_)) | (refine PIoK_na hP ?_ (fun _ _ => ?_)) | (refine PIoK_no hP ?_ (fun _ _ => ?_)) | (refine PIoK_ite ?_ ?_) | (refine PIoK_some ?_) | (exact PIoK_none) | (refine PIoK_cv (cQoK.c122 hc _ _ _ ?_) (fun _ _ => ?_)) | (refine PIoK_in (cQoK.c106 hc _ _ ?_) (fun _ _ _ => ?_)) | (refine PIoK_rn (cQoK.c127 hc _ _ _ ?_) (fun _ _ _ => ?_))))
theorem pioK_oj_X7_beginsArgument_30   {σ : oSt} (hP : iKptK P) (hc : cQoK P call)  (h : P σ) : PIo P (oj_X7_beginsArgument_30 n call κ   σ) := by
  unfold oj_X7_beginsArgument_30
  repeat' (with_reducible (first | assumption | (refine PIoK_gd ?_) | (refine PIoK_pf hP ?_ (by decide) (by with_unfolding_all rfl) (fun _ _ => ?_)) | (refine PIoK_si hP ?_ (fun _ _ => ?_)) | (refine PIoK_sj hP ?_ (fun _ _ => ?_)) | (refine PIoK_sr hP ?_ (fun _ _ => ?_)) | (refine PIoK_cy hP ?_ (fun _ _ => ?_)) | (refine PIoK_bn (fun _ => ?_)) | (refine PIoK_na hP ?_ (fun _ _ => ?_)) | (refine PIoK_no hP ?_ (fun _ _ => ?_)) | (refine PIoK_ite ?_ ?_) | (refine PIoK_some ?_) | (exact PIoK_none)))
theorem pioK_ob_X7_beginsArgument  {x0 : Int32} {σ : oSt} (hP : iKptK P) (hc : cQoK P call)  (h : P σ) : PIo P (ob_X7_beginsArgument n call κ  x0 σ) := by
  unfold ob_X7_beginsArgument
  repeat' (with_reducible (first | assumption | (refine PIoK_gd ?_) | (refine PIoK_pf hP ?_ (by decide) (by with_unfolding_all rfl) (fun _ _ => ?_)) | (refine PIoK_si hP ?_ (fun _ _ => ?_)) | (refine PIoK_sj hP ?_ (fun _ _ => ?_)) | (refine PIoK_sr hP ?_ (fun _ _ => ?_)) | (refine PIoK_cy hP ?_ (fun _ _ => ?_)) | (refine PIoK_bn (fun _ => ?_)) | (refine PIoK_na hP ?_ (fun _ _ => ?_)) | (refine PIoK_no hP ?_ (fun _ _ => ?_)) | (refine PIoK_ite ?_ ?_) | (refine PIoK_some ?_) | (exact PIoK_none) | (refine pioK_oj_X7_beginsArgument_30 hP hc  ?_)))
theorem pioK_ob_X7_beFunction  {x0 : Option Nat} {x1 : Option Nat} {σ : oSt} (hP : iKptK P) (hc : cQoK P call)  (h : P σ) : PIo P (ob_X7_beFunction n call κ  x0 x1 σ) := by
  unfold ob_X7_beFunction
  repeat' (with_reducible (first | assumption | (refine PIoK_gd ?_) | (refine PIoK_pf hP ?_ (by decide) (by with_unfolding_all rfl) (fun _ _ => ?_)) | (refine PIoK_si hP ?_ (fun _ _ => ?_)) | (refine PIoK_sj hP ?_ (fun _ _ => ?_)) | (refine PIoK_sr hP ?_ (fun _ _ => ?_)) | (refine PIoK_cy hP ?_ (fun _ _ => ?_)) | (refine PIoK_bn (fun _ => ?_)) | (refine PIoK_na hP ?_ (fun _ _ => ?_)) | (refine PIoK_no hP ?_ (fun _ _ => ?_)) | (refine PIoK_ite ?_ ?_) | (refine PIoK_some ?_) | (exact PIoK_none) | (refine PIoK_cv (cQoK.c224 hc _ _ ?_) (fun _ _ => ?_)) | (refine PIoK_in (cQoK.c227 hc _ _ _ ?_) (fun _ _ _ => ?_)) | (refine PIoK_in (cQoK.c236 hc _ _ ?_) (fun _ _ _ => ?_))))
theorem pioK_ob_X7_tellParameter  {x0 : Option Nat} {x1 : Option Nat} {σ : oSt} (hP : iKptK P) (hc : cQoK P call)  (h : P σ) : PIo P (ob_X7_tellParameter n call κ  x0 x1 σ) := by
  unfold ob_X7_tellParameter
  repeat' (with_reducible (first | assumption | (refine PIoK_gd ?_) | (refine PIoK_pf hP ?_ (by decide) (by with_unfolding_all rfl) (fun _ _ => ?_)) | (refine PIoK_si hP ?_ (fun _ _ => ?_)) | (refine PIoK_sj hP ?_ (fun _ _ => ?_)) | (refine PIoK_sr hP ?_ (fun _ _ => ?_)) | (refine PIoK_cy hP ?_ (fun _ _ => ?_)) | (refine PIoK_bn (fun _ => ?_)) | (refine PIoK_na hP ?_ (fun _ _ => ?_)) | (refine PIoK_no hP ?_ (fun _ _ => ?_)) | (refine PIoK_ite ?_ ?_) | (refine PIoK_some ?_) | (exact PIoK_none) | (refine PIoK_cv (cQoK.c116 hc _ _ _ ?_) (fun _ _ => ?_)) | (refine PIoK_in (cQoK.c227 hc _ _ _ ?_) (fun _ _ _ => ?_)) | (refine PIoK_rn (cQoK.c115 hc _ _ ?_) (fun _ _ _ => ?_))))
theorem pioK_ob_X7_readIndex  {x0 : Option Nat} {x1 : Option Nat} {σ : oSt} (hP : iKptK P) (hc : cQoK P call)  (h : P σ) : PIo P (ob_X7_readIndex n call κ  x0 x1 σ) := by
  unfold ob_X7_readIndex
  repeat' (with_reducible (first | assumption | (refine PIoK_gd ?_) | (refine PIoK_pf hP ?_ (by decide) (by with_unfolding_all rfl) (fun _ _ => ?_)) | (refine PIoK_si hP ?_ (fun _ _ => ?_)) | (refine PIoK_sj hP ?_ (fun _ _ => ?_)) | (refine PIoK_sr hP ?_ (fun _ _ => ?_)) | (refine PIoK_cy hP ?_ (fun _ _ => ?_)) | (refine PIoK_bn (fun _ => ?_)) | (refine PIoK_na hP ?_ (fun _ _ => ?_)) | (refine PIoK_no hP ?_ (fun _ _ => ?_)) | (refine PIoK_ite ?_ ?_) | (refine PIoK_some ?_) | (exact PIoK_none) | (refine PIoK_cv (cQoK.c8 hc _ _ ?_) (fun _ _ => ?_)) | (refine PIoK_cv (cQoK.c10 hc _ _ _ _ ?_) (fun _ _ => ?_)) | (refine PIoK_cv (cQoK.c108 hc _ _ _ ?_) (fun _ _ => ?_)) | (refine PIoK_cv (cQoK.c124 hc _ _ _ _ ?_) (fun _ _ => ?_)) | (refine PIoK_cv (cQoK.c224 hc _ _ ?_) (fun _ _ => ?_)) | (refine PIoK_in (cQoK.c106 hc _ _ ?_) (fun _ _ _ => ?_)) | (refine PIoK_in (cQoK.c227 hc _ _ _ ?_) (fun _ _ _ => ?_)) | (refine PIoK_rn (cQoK.c118 hc _ _ _ ?_) (fun _ _ _ => ?_)) | (refine PIoK_rn (cQoK.c119 hc _ _ ?_) (fun _ _ _ => ?_)) | (refine PIoK_rn (cQoK.c121 hc _ _ ?_) (fun _ _ _ => ?_)) | (refine PIoK_rn (cQoK.c123 hc _ _ _ _ ?_) (fun _ _ _ => ?_))))
theorem pioK_oj_X7_argument_115  {x2 : Int32} {x3 : Option Nat} {σ : oSt} (hP : iKptK P) (hc : cQoK P call)  (h : P σ) : PIo P (oj_X7_argument_115 n call κ  x2 x3 σ) := by
  unfold oj_X7_argument_115
  repeat' (with_reducible (first | assumption | (refine PIoK_gd ?_) | (refine PIoK_pf hP ?_ (by decide) (by with_unfolding_all rfl) (fun _ _ => ?_)) | (refine PIoK_si hP ?_ (fun _ _ => ?_)) | (refine PIoK_sj hP ?_ (fun _ _ => ?_)) | (refine PIoK_sr hP ?_ (fun _ _ => ?_)) | (refine PIoK_cy hP ?_ (fun _ _ => ?_)) | (refine PIoK_bn (fun _ => ?_)) | (refine PIoK_na hP ?_ (fun _ _ => ?_)) | (refine PIoK_no hP ?_ (fun _ _ => ?_)) | (refine PIoK_ite ?_ ?_) | (refine PIoK_some ?_) | (exact PIoK_none)))
theorem pioK_oj_X7_argument_109  {x0 : Option Nat} {x2 : Int32} {x3 : Option Nat} {σ : oSt} (hP : iKptK P) (hc : cQoK P call)  (h : P σ) : PIo P (oj_X7_argument_109 n call κ  x0 x2 x3 σ) := by
  unfold oj_X7_argument_109
  repeat' (with_reducible (first | assumption | (refine PIoK_gd ?_) | (refine PIoK_pf hP ?_ (by decide) (by with_unfolding_all rfl) (fun _ _ => ?_)) | (refine PIoK_si hP ?_ (fun _ _ => ?_)) | (refine PIoK_sj hP ?_ (fun _ _ => ?_)) | (refine PIoK_sr hP ?_ (fun _ _ => ?_)) | (refine PIoK_cy hP ?_ (fun _ _ => ?_)) | (refine PIoK_bn (fun _ => ?_)) | (refine PIoK_na hP ?_ (fun _ _ => ?_)) | (refine PIoK_no hP ?_ (fun _ _ => ?_)) | (refine PIoK_ite ?_ ?_) | (refine PIoK_some ?_) | (exact PIoK_none) | (refine PIoK_cv (cQoK.c108 hc _ _ _ ?_) (fun _ _ => ?_)) | (refine pioK_oj_X7_argument_115 hP hc  ?_)))
theorem pioK_oj_X7_argument_34  {x0 : Option Nat} {x2 : Int32} {x3 : Option Nat} {σ : oSt} (hP : iKptK P) (hc : cQoK P call)  (h : P σ) : PIo P (oj_X7_argument_34 n call κ  x0 x2 x3 σ) := by
  unfold oj_X7_argument_34
  repeat' (with_reducible (first | assumption | (refine PIoK_gd ?_) | (refine PIoK_pf hP ?_ (by decide) (by with_unfolding_all rfl) (fun _ _ => ?_)) | (refine PIoK_si hP ?_ (fun _ _ => ?_)) | (refine PIoK_sj hP ?_ (fun _ _ => ?_)) | (refine PIoK_sr hP ?_ (fun _ _ => ?_)) | (refine PIoK_cy hP ?_ (fun _ _ => ?_)) | (refine PIoK_bn (fun _ => ?_)) | (refine PIoK_na hP ?_ (fun _ _ => ?_)) | (refine PIoK_no hP ?_ (fun _ _ => ?_)) | (refine PIoK_ite ?_ ?_) | (refine PIoK_some ?_) | (exact PIoK_none) | (refine PIoK_cv (cQoK.c105 hc _ _ ?_) (fun _ _ => ?_)) | (refine pioK_oj_X7_argument_115 hP hc  ?_)))
theorem pioK_ob_X7_argument  {x0 : Option Nat} {x1 : Int32} {σ : oSt} (hP : iKptK P) (hc : cQoK P call)  (h : P σ) : PIo P (ob_X7_argument n call κ  x0 x1 σ) := by
  unfold ob_X7_argument
  repeat' (with_reducible (first | assumption | (refine PIoK_gd ?_) | (refine PIoK_pf hP ?_ (by decide) (by with_unfolding_all rfl) (fun _ _ => ?_)) | (refine PIoK_si hP ?_ (fun _ _ => ?_)) | (refine PIoK_sj hP ?_ (fun _ _ => ?_)) | (refine PIoK_sr hP ?_ (fun _ _ => ?_)) | (refine PIoK_cy hP ?_ (fun _ _ => ?_)) | (refine PIoK_bn (fun _ => ?_)) | (refine PIoK_na hP ?_ (fun _ _ => ?_)) | (refine PIoK_no hP ?_ (fun _ _ => ?_)) | (refine PIoK_ite ?_ ?_) | (refine PIoK_some ?_) | (exact PIoK_none) | (refine PIoK_cv (cQoK.c105 hc _ _ ?_) (fun _ _ => ?_)) | (refine PIoK_cv (cQoK.c122 hc _ _ _ ?_) (fun _ _ => ?_)) | (refine PIoK_in (cQoK.c14 hc _ _ ?_) (fun _ _ _ => ?_)) | (refine PIoK_in (cQoK.c104 hc _ _ ?_) (fun _ _ _ => ?_)) | (refine PIoK_in (cQoK.c106 hc _ _ ?_) (fun _ _ _ => ?_)) | (refine PIoK_rn (cQoK.c118 hc _ _ _ ?_) (fun _ _ _ => ?_)) | (refine PIoK_rn (cQoK.c120 hc _ _ _ ?_) (fun _ _ _ => ?_)) | (refine PIoK_rn (cQoK.c121 hc _ _ ?_) (fun _ _ _ => ?_)) | (refine PIoK_rn (cQoK.c135 hc _ _ _ ?_) (fun _ _ _ => ?_)) | (refine pioK_oj_X7_argument_34 hP hc  ?_) | (refine pioK_oj_X7_argument_109 hP hc  ?_) | (refine pioK_oj_X7_argument_115 hP hc  ?_)))
theorem pioK_ob_X7_expression  {x0 : Option Nat} {x1 : Int32} {σ : oSt} (hP : iKptK P) (hc : cQoK P call)  (h : P σ) : PIo P (ob_X7_expression n call κ  x0 x1 σ) := by
  unfold ob_X7_expression
  repeat' (with_reducible (first | assumption | (refine PIoK_gd ?_) | (refine PIoK_pf hP ?_ (by decide) (by with_unfolding_all rfl) (fun _ _ => ?_)) | (refine PIoK_si hP ?_ (fun _ _ => ?_)) | (refine PIoK_sj hP ?_ (fun _ _ => ?_)) | (refine PIoK_sr hP ?_ (fun _ _ => ?_)) | (refine PIoK_cy hP ?_ (fun _ _ => ?_)) | (refine PIoK_bn (fun _ => ?_)) | (refine PIoK_na hP ?_ (fun _ _ => ?_)) | (refine PIoK_no hP ?_ (fun _ _ => ?_)) | (refine PIoK_ite ?_ ?_) | (refine PIoK_some ?_) | (exact PIoK_none) | (refine PIoK_cv (cQoK.c105 hc _ _ ?_) (fun _ _ => ?_)) | (refine PIoK_cv (cQoK.c107 hc _ _ ?_) (fun _ _ => ?_)) | (refine PIoK_cv (cQoK.c108 hc _ _ _ ?_) (fun _ _ => ?_)) | (refine PIoK_cv (cQoK.c136 hc _ _ _ _ ?_) (fun _ _ => ?_)) | (refine PIoK_cv (cQoK.c138 hc _ _ _ _ ?_) (fun _ _ => ?_)) | (refine PIoK_cv (cQoK.c139 hc _ _ _ _ ?_) (fun _ _ => ?_)) | (refine PIoK_cv (cQoK.c140 hc _ _ _ _ ?_) (fun _ _ => ?_)) | (refine PIoK_cv (cQoK.c141 hc _ _ _ _ ?_) (fun _ _ => ?_)) | (refine PIoK_cv (cQoK.c144 hc _ _ _ _ ?_) (fun _ _ => ?_)) | (refine PIoK_in (cQoK.c104 hc _ _ ?_) (fun _ _ _ => ?_)) | (refine PIoK_in (cQoK.c106 hc _ _ ?_) (fun _ _ _ => ?_)) | (refine PIoK_rn (cQoK.c118 hc _ _ _ ?_) (fun _ _ _ => ?_)) | (refine PIoK_rn (cQoK.c119 hc _ _ ?_) (fun _ _ _ => ?_)) | (refine PIoK_rn (cQoK.c121 hc _ _ ?_) (fun _ _ _ => ?_)) | (refine PIoK_rn (cQoK.c123 hc _ _ _ _ ?_) (fun _ _ _ => ?_)) | (refine PIoK_rn (cQoK.c135 hc _ _ _ ?_) (fun _ _ _ => ?_)) | (refine PIoK_rn (cQoK.c142 hc _ _ _ ?_) (fun _ _ _ => ?_))))
theorem pioK_ob_X7_readAssert  {x0 : Option Nat} {x1 : Option Nat} {x2 : Int32} {σ : oSt} (hP : iKptK P) (hc : cQoK P call)  (h : P σ) : PIo P (ob_X7_readAssert n call κ  x0 x1 x2 σ) := by
  unfold ob_X7_readAssert
  repeat' (with_reducible (first | assumption | (refine PIoK_gd ?_) | (refine PIoK_pf hP ?_ (by decide) (by with_unfolding_all rfl) (fun _ _ => ?_)) | (refine PIoK_si hP ?_ (fun _ _ => ?_)) | (refine PIoK_sj hP ?_ (fun _ _ => ?_)) | (refine PIoK_sr hP ?_ (fun _ _ => ?_)) | (refine PIoK_cy hP ?_ (fun _ _ => ?_)) | (refine PIoK_bn (fun _ => ?_)) | (refine PIoK_na hP ?_ (fun _ _ => ?_)) | (refine PIoK_no hP ?_ (fun _ _ => ?_)) | (refine PIoK_ite ?_ ?_) | (refine PIoK_some ?_) | (exact PIoK_none) | (refine PIoK_cv (cQoK.c105 hc _ _ ?_) (fun _ _ => ?_)) | (refine PIoK_cv (cQoK.c108 hc _ _ _ ?_) (fun _ _ => ?_)) | (refine PIoK_rn (cQoK.c129 hc _ _ _ ?_) (fun _ _ _ => ?_)) | (refine PIoK_rn (cQoK.c135 hc _ _ _ ?_) (fun _ _ _ => ?_))))
theorem pioK_ol_X7_readCall_37  (hP : iKptK P) (hc : cQoK P call)  : ∀ (t : Nat) (x0 : Option Nat) (x1 : Int32) (x2 : Option Nat) (x3 : Int32) (σ : oSt), P σ → PIo P (ol_X7_readCall_37 n call κ  t x0 x1 x2 x3 σ) := by
  intro t
  induction t with
  | zero => intros; exact PIoK_none
  | succ t ih =>
    intro x0 x1 x2 x3 σ h
    rw [ol_X7_readCall_37]
    repeat' (with_reducible (first | assumption | (refine PIoK_gd ?_) | (refine PIoK_pf hP ?_ (by decide) (by with_unfolding_all rfl) (fun _ _ => ?_)) | (refine PIoK_si hP ?_ (fun _ _ => ?_)) | (refine PIoK_sj hP ?_ (fun _ _ => ?_)) | (refine PIoK_sr hP ?_ (fun _ _ => ?_)) | (refine PIoK_cy hP ?_ (fun _ _ => ?_)) | (refine PIoK_bn (fun _ => ?_)) | (refine PIoK_na hP ?_ (fun _ _ => ?_)) | (refine PIoK_no hP ?_ (fun _ _ => ?_)) | (refine PIoK_ite ?_ ?_) | (refine PIoK_some ?_) | (exact PIoK_none) | (refine PIoK_in (cQoK.c104 hc _ _ ?_) (fun _ _ _ => ?_)) | (refine PIoK_in (cQoK.c130 hc _ _ ?_) (fun _ _ _ => ?_)) | (refine PIoK_in (cQoK.c227 hc _ _ _ ?_) (fun _ _ _ => ?_)) | (refine PIoK_rn (cQoK.c134 hc _ _ _ ?_) (fun _ _ _ => ?_)) | (refine ih _ _ _ _ _ ?_)))
theorem pioK_ob_X7_readCall  {x0 : Option Nat} {x1 : Int32} {σ : oSt} (hP : iKptK P) (hc : cQoK P call)  (h : P σ) : PIo P (ob_X7_readCall n call κ  x0 x1 σ) := by
  unfold ob_X7_readCall
  repeat' (with_reducible (first | assumption | (refine PIoK_gd ?_) | (refine PIoK_pf hP ?_ (by decide) (by with_unfolding_all rfl) (fun _ _ => ?_)) | (refine PIoK_si hP ?_ (fun _ _ => ?_)) | (refine PIoK_sj hP ?_ (fun _ _ => ?_)) | (refine PIoK_sr hP ?_ (fun _ _ => ?_)) | (refine PIoK_cy hP ?_ (fun _ _ => ?_)) | (refine PIoK_bn (fun _ => ?_)) | (refine PIoK_na hP ?_ (fun _ _ => ?_)) | (refine PIoK_no hP ?_ (fun _ _ => ?_)) | (refine PIoK_ite ?_ ?_) | (refine PIoK_some ?_) | (exact PIoK_none) | (refine PIoK_cv (cQoK.c224 hc _ _ ?_) (fun _ _ => ?_)) | (refine PIoK_in (cQoK.c106 hc _ _ ?_) (fun _ _ _ => ?_)) | (refine PIoK_rn (cQoK.c118 hc _ _ _ ?_) (fun _ _ _ => ?_)) | (refine PIoK_rn (cQoK.c119 hc _ _ ?_) (fun _ _ _ => ?_)) | (refine pioK_ol_X7_readCall_37 hP hc  _ _ _ _ _ _ ?_)))
theorem pioK_ob_X7_readFunction  {x0 : Option Nat} {x1 : Option Nat} {x2 : Int32} {σ : oSt} (hP : iKptK P) (hc : cQoK P call)  (h : P σ) : PIo P (ob_X7_readFunction n call κ  x0 x1 x2 σ) := by
  unfold ob_X7_readFunction
  repeat' (with_reducible (first | assumption | (refine PIoK_gd ?_) | (refine PIoK_pf hP ?_ (by decide) (by with_unfolding_all rfl) (fun _ _ => ?_)) | (refine PIoK_si hP ?_ (fun _ _ => ?_)) | (refine PIoK_sj hP ?_ (fun _ _ => ?_)) | (refine PIoK_sr hP ?_ (fun _ _ => ?_)) | (refine PIoK_cy hP ?_ (fun _ _ => ?_)) | (refine PIoK_bn (fun _ => ?_)) | (refine PIoK_na hP ?_ (fun _ _ => ?_)) | (refine PIoK_no hP ?_ (fun _ _ => ?_)) | (refine PIoK_ite ?_ ?_) | (refine PIoK_some ?_) | (exact PIoK_none) | (refine PIoK_cv (cQoK.c105 hc _ _ ?_) (fun _ _ => ?_)) | (refine PIoK_cv (cQoK.c108 hc _ _ _ ?_) (fun _ _ => ?_)) | (refine PIoK_cv (cQoK.c131 hc _ _ _ ?_) (fun _ _ => ?_)) | (refine PIoK_cv (cQoK.c132 hc _ _ _ ?_) (fun _ _ => ?_)) | (refine PIoK_rn (cQoK.c135 hc _ _ _ ?_) (fun _ _ _ => ?_))))
theorem pioK_ob_X7_readIf  {x0 : Option Nat} {x1 : Option Nat} {x2 : Int32} {σ : oSt} (hP : iKptK P) (hc : cQoK P call)  (h : P σ) : PIo P (ob_X7_readIf n call κ  x0 x1 x2 σ) := by
  unfold ob_X7_readIf
  repeat' (with_reducible (first | assumption | (refine PIoK_gd ?_) | (refine PIoK_pf hP ?_ (by decide) (by with_unfolding_all rfl) (fun _ _ => ?_)) | (refine PIoK_si hP ?_ (fun _ _ => ?_)) | (refine PIoK_sj hP ?_ (fun _ _ => ?_)) | (refine PIoK_sr hP ?_ (fun _ _ => ?_)) | (refine PIoK_cy hP ?_ (fun _ _ => ?_)) | (refine PIoK_bn (fun _ => ?_)) | (refine PIoK_na hP ?_ (fun _ _ => ?_)) | (refine PIoK_no hP ?_ (fun _ _ => ?_)) | (refine PIoK_ite ?_ ?_) | (refine PIoK_some ?_) | (exact PIoK_none) | (refine PIoK_cv (cQoK.c105 hc _ _ ?_) (fun _ _ => ?_)) | (refine PIoK_cv (cQoK.c108 hc _ _ _ ?_) (fun _ _ => ?_)) | (refine PIoK_rn (cQoK.c129 hc _ _ _ ?_) (fun _ _ _ => ?_)) | (refine PIoK_rn (cQoK.c135 hc _ _ _ ?_) (fun _ _ _ => ?_))))
theorem pioK_ob_X7_readLet  {x0 : Option Nat} {x1 : Option Nat} {x2 : Int32} {σ : oSt} (hP : iKptK P) (hc : cQoK P call)  (h : P σ) : PIo P (ob_X7_readLet n call κ  x0 x1 x2 σ) := by
  unfold ob_X7_readLet
  repeat' (with_reducible (first | assumption | (refine PIoK_gd ?_) | (refine PIoK_pf hP ?_ (by decide) (by with_unfolding_all rfl) (fun _ _ => ?_)) | (refine PIoK_si hP ?_ (fun _ _ => ?_)) | (refine PIoK_sj hP ?_ (fun _ _ => ?_)) | (refine PIoK_sr hP ?_ (fun _ _ => ?_)) | (refine PIoK_cy hP ?_ (fun _ _ => ?_)) | (refine PIoK_bn (fun _ => ?_)) | (refine PIoK_na hP ?_ (fun _ _ => ?_)) | (refine PIoK_no hP ?_ (fun _ _ => ?_)) | (refine PIoK_ite ?_ ?_) | (refine PIoK_some ?_) | (exact PIoK_none) | (refine PIoK_cv (cQoK.c105 hc _ _ ?_) (fun _ _ => ?_)) | (refine PIoK_cv (cQoK.c108 hc _ _ _ ?_) (fun _ _ => ?_)) | (refine PIoK_cv (cQoK.c116 hc _ _ _ ?_) (fun _ _ => ?_)) | (refine PIoK_cv (cQoK.c143 hc _ _ _ _ ?_) (fun _ _ => ?_)) | (refine PIoK_in (cQoK.c104 hc _ _ ?_) (fun _ _ _ => ?_)) | (refine PIoK_rn (cQoK.c115 hc _ _ ?_) (fun _ _ _ => ?_)) | (refine PIoK_rn (cQoK.c135 hc _ _ _ ?_) (fun _ _ _ => ?_))))
theorem pioK_ob_X7_readMatch  {x0 : Option Nat} {x1 : Option Nat} {x2 : Int32} {σ : oSt} (hP : iKptK P) (hc : cQoK P call)  (h : P σ) : PIo P (ob_X7_readMatch n call κ  x0 x1 x2 σ) := by
  unfold ob_X7_readMatch
  repeat' (with_reducible (first | assumption | (refine PIoK_gd ?_) | (refine PIoK_pf hP ?_ (by decide) (by with_unfolding_all rfl) (fun _ _ => ?_)) | (refine PIoK_si hP ?_ (fun _ _ => ?_)) | (refine PIoK_sj hP ?_ (fun _ _ => ?_)) | (refine PIoK_sr hP ?_ (fun _ _ => ?_)) | (refine PIoK_cy hP ?_ (fun _ _ => ?_)) | (refine PIoK_bn (fun _ => ?_)) | (refine PIoK_na hP ?_ (fun _ _ => ?_)) | (refine PIoK_no hP ?_ (fun _ _ => ?_)) | (refine PIoK_ite ?_ ?_) | (refine PIoK_some ?_) | (exact PIoK_none) | (refine PIoK_cv (cQoK.c105 hc _ _ ?_) (fun _ _ => ?_)) | (refine PIoK_cv (cQoK.c108 hc _ _ _ ?_) (fun _ _ => ?_)) | (refine PIoK_cv (cQoK.c132 hc _ _ _ ?_) (fun _ _ => ?_)) | (refine PIoK_cv (cQoK.c224 hc _ _ ?_) (fun _ _ => ?_)) | (refine PIoK_in (cQoK.c106 hc _ _ ?_) (fun _ _ _ => ?_)) | (refine PIoK_in (cQoK.c236 hc _ _ ?_) (fun _ _ _ => ?_)) | (refine PIoK_rn (cQoK.c11 hc _ _ _ _ ?_) (fun _ _ _ => ?_)) | (refine PIoK_rn (cQoK.c119 hc _ _ ?_) (fun _ _ _ => ?_)) | (refine PIoK_rn (cQoK.c123 hc _ _ _ _ ?_) (fun _ _ _ => ?_)) | (refine PIoK_rn (cQoK.c135 hc _ _ _ ?_) (fun _ _ _ => ?_))))
theorem pioK_oj_X7_readOpen_173  {x4 : Option Nat} {t0 : Option Nat} {t1 : Option Nat} {σ : oSt} (hP : iKptK P) (hc : cQoK P call)  (h : P σ) : PIo P (oj_X7_readOpen_173 n call κ  x4 t0 t1 σ) := by
  unfold oj_X7_readOpen_173
  repeat' (with_reducible (first | assumption | (refine PIoK_gd ?_) | (refine PIoK_pf hP ?_ (by decide) (by with_unfolding_all rfl) (fun _ _ => ?_)) | (refine PIoK_si hP ?_ (fun _ _ => ?_)) | (refine PIoK_sj hP ?_ (fun _ _ => ?_)) | (refine PIoK_sr hP ?_ (fun _ _ => ?_)) | (refine PIoK_cy hP ?_ (fun _ _ => ?_)) | (refine PIoK_bn (fun _ => ?_)) | (refine PIoK_na hP ?_ (fun _ _ => ?_)) | (refine PIoK_no hP ?_ (fun _ _ => ?_)) | (refine PIoK_ite ?_ ?_) | (refine PIoK_some ?_) | (exact PIoK_none)))
theorem pioK_oj_X7_readOpen_94  {x0 : Option Nat} {x3 : Option Nat} {σ : oSt} (hP : iKptK P) (hc : cQoK P call)  (h : P σ) : PIo P (oj_X7_readOpen_94 n call κ  x0 x3 σ) := by
  unfold oj_X7_readOpen_94
  repeat' (with_reducible (first | assumption | (refine PIoK_gd ?_) | (refine PIoK_pf hP ?_ (by decide) (by with_unfolding_all rfl) (fun _ _ => ?_)) | (refine PIoK_si hP ?_ (fun _ _ => ?_)) | (refine PIoK_sj hP ?_ (fun _ _ => ?_)) | (refine PIoK_sr hP ?_ (fun _ _ => ?_)) | (refine PIoK_cy hP ?_ (fun _ _ => ?_)) | (refine PIoK_bn (fun _ => ?_)) | (refine PIoK_na hP ?_ (fun _ _ => ?_)) | (refine PIoK_no hP ?_ (fun _ _ => ?_)) | (refine PIoK_ite ?_ ?_) | (refine PIoK_some ?_) | (exact PIoK_none) | (refine PIoK_cv (cQoK.c102 hc _ _ _ _ _ ?_) (fun _ _ => ?_)) | (refine PIoK_cv (cQoK.c105 hc _ _ ?_) (fun _ _ => ?_)) | (refine PIoK_in (cQoK.c104 hc _ _ ?_) (fun _ _ _ => ?_)) | (refine PIoK_in (cQoK.c106 hc _ _ ?_) (fun _ _ _ => ?_)) | (refine PIoK_rn (cQoK.c121 hc _ _ ?_) (fun _ _ _ => ?_)) | (refine PIoK_rn (cQoK.c123 hc _ _ _ _ ?_) (fun _ _ _ => ?_)) | (refine pioK_oj_X7_readOpen_173 hP hc  ?_)))
theorem pioK_oj_X7_readOpen_26  {x0 : Option Nat} {x1 : Int32} {t0 : Int32} {σ : oSt} (hP : iKptK P) (hc : cQoK P call)  (h : P σ) : PIo P (oj_X7_readOpen_26 n call κ  x0 x1 t0 σ) := by
  unfold oj_X7_readOpen_26
  repeat' (with_reducible (first | assumption | (refine PIoK_gd ?_) | (refine PIoK_pf hP ?_ (by decide) (by with_unfolding_all rfl) (fun _ _ => ?_)) | (refine PIoK_si hP ?_ (fun _ _ => ?_)) | (refine PIoK_sj hP ?_ (fun _ _ => ?_)) | (refine PIoK_sr hP ?_ (fun _ _ => ?_)) | (refine PIoK_cy hP ?_ (fun _ _ => ?_)) | (refine PIoK_bn (fun _ => ?_)) | (refine PIoK_na hP ?_ (fun _ _ => ?_)) | (refine PIoK_no hP ?_ (fun _ _ => ?_)) | (refine PIoK_ite ?_ ?_) | (refine PIoK_some ?_) | (exact PIoK_none) | (refine PIoK_cv (cQoK.c133 hc _ _ _ ?_) (fun _ _ => ?_)) | (refine PIoK_in (cQoK.c104 hc _ _ ?_) (fun _ _ _ => ?_)) | (refine PIoK_in (cQoK.c130 hc _ _ ?_) (fun _ _ _ => ?_)) | (refine PIoK_rn (cQoK.c118 hc _ _ _ ?_) (fun _ _ _ => ?_)) | (refine PIoK_rn (cQoK.c121 hc _ _ ?_) (fun _ _ _ => ?_)) | (refine PIoK_rn (cQoK.c137 hc _ _ _ ?_) (fun _ _ _ => ?_)) | (refine pioK_oj_X7_readOpen_94 hP hc  ?_)))
theorem pioK_ob_X7_readOpen  {x0 : Option Nat} {x1 : Int32} {σ : oSt} (hP : iKptK P) (hc : cQoK P call)  (h : P σ) : PIo P (ob_X7_readOpen n call κ  x0 x1 σ) := by
  unfold ob_X7_readOpen
  repeat' (with_reducible (first | assumption | (refine PIoK_gd ?_) | (refine PIoK_pf hP ?_ (by decide) (by with_unfolding_all rfl) (fun _ _ => ?_)) | (refine PIoK_si hP ?_ (fun _ _ => ?_)) | (refine PIoK_sj hP ?_ (fun _ _ => ?_)) | (refine PIoK_sr hP ?_ (fun _ _ => ?_)) | (refine PIoK_cy hP ?_ (fun _ _ => ?_)) | (refine PIoK_bn (fun _ => ?_)) | (refine PIoK_na hP ?_ (fun _ _ => ?_)) | (refine PIoK_no hP ?_ (fun _ _ => ?_)) | (refine PIoK_ite ?_ ?_) | (refine PIoK_some ?_) | (exact PIoK_none) | (refine PIoK_in (cQoK.c104 hc _ _ ?_) (fun _ _ _ => ?_)) | (refine pioK_oj_X7_readOpen_26 hP hc  ?_)))
theorem pioK_oj_X7_readRec_62  {x0 : Option Nat} {x1 : Option Nat} {x2 : Int32} {σ : oSt} (hP : iKptK P) (hc : cQoK P call)  (h : P σ) : PIo P (oj_X7_readRec_62 n call κ  x0 x1 x2 σ) := by
  unfold oj_X7_readRec_62
  repeat' (with_reducible (first | assumption | (refine PIoK_gd ?_) | (refine PIoK_pf hP ?_ (by decide) (by with_unfolding_all rfl) (fun _ _ => ?_)) | (refine PIoK_si hP ?_ (fun _ _ => ?_)) | (refine PIoK_sj hP ?_ (fun _ _ => ?_)) | (refine PIoK_sr hP ?_ (fun _ _ => ?_)) | (refine PIoK_cy hP ?_ (fun _ _ => ?_)) | (refine PIoK_bn (fun _ => ?_)) | (refine PIoK_na hP ?_ (fun _ _ => ?_)) | (refine PIoK_no hP ?_ (fun _ _ => ?_)) | (refine PIoK_ite ?_ ?_) | (refine PIoK_some ?_) | (exact PIoK_none) | (refine PIoK_cv (cQoK.c108 hc _ _ _ ?_) (fun _ _ => ?_)) | (refine PIoK_in (cQoK.c236 hc _ _ ?_) (fun _ _ _ => ?_)) | (refine PIoK_rn (cQoK.c135 hc _ _ _ ?_) (fun _ _ _ => ?_))))
theorem pioK_oj_X7_readRec_51 {k34 : Option Nat → Option Nat → Int32 → Int32 → oSt → oRs} {x0 : Option Nat} {x1 : Option Nat} {x2 : Int32} {x3 : Int32} {σ : oSt} (hP : iKptK P) (hc : cQoK P call) (hk34 : ∀ (a0 : Option Nat) (a1 : Option Nat) (a2 : Int32) (a3 : Int32), ∀ σ, P σ → PIo P (k34 a0 a1 a2 a3 σ)) (h : P σ) : PIo P (oj_X7_readRec_51 n call κ k34 x0 x1 x2 x3 σ) := by
  unfold oj_X7_readRec_51
  repeat' (with_reducible (first | assumption | (refine PIoK_gd ?_) | (refine PIoK_pf hP ?_ (by decide) (by with_unfolding_all rfl) (fun _ _ => ?_)) | (refine PIoK_si hP ?_ (fun _ _ => ?_)) | (refine PIoK_sj hP ?_ (fun _ _ => ?_)) | (refine PIoK_sr hP ?_ (fun _ _ => ?_)) | (refine PIoK_cy hP ?_ (fun _ _ => ?_)) | (refine PIoK_bn (fun _ => ?_)) | (refine PIoK_na hP ?_ (fun _ _ => ?_)) | (refine PIoK_no hP ?_ (fun _ _ => ?_)) | (refine PIoK_ite ?_ ?_) | (refine PIoK_some ?_) | (exact PIoK_none) | (refine PIoK_cv (cQoK.c132 hc _ _ _ ?_) (fun _ _ => ?_)) | (refine hk34 _ _ _ _ _ ?_)))
theorem pioK_ol_X7_readRec_34  (hP : iKptK P) (hc : cQoK P call)  : ∀ (t : Nat) (x0 : Option Nat) (x1 : Option Nat) (x2 : Int32) (x3 : Int32) (σ : oSt), P σ → PIo P (ol_X7_readRec_34 n call κ  t x0 x1 x2 x3 σ) := by
  intro t
  induction t with
  | zero => intros; exact PIoK_none
  | succ t ih =>
    intro x0 x1 x2 x3 σ h
    rw [ol_X7_readRec_34]
    repeat' (with_reducible (first | assumption | (refine PIoK_gd ?_) | (refine PIoK_pf hP ?_ (by decide) (by with_unfolding_all rfl) (fun _ _ => ?_)) | (refine PIoK_si hP ?_ (fun _ _ => ?_)) | (refine PIoK_sj hP ?_ (fun _ _ => ?_)) | (refine PIoK_sr hP ?_ (fun _ _ => ?_)) | (refine PIoK_cy hP ?_ (fun _ _ => ?_)) | (refine PIoK_bn (fun _ => ?_)) | (refine PIoK_na hP ?_ (fun _ _ => ?_)) | (refine PIoK_no hP ?_ (fun _ _ => ?_)) | (refine PIoK_ite ?_ ?_) | (refine PIoK_some ?_) | (exact PIoK_none) | (refine PIoK_in (cQoK.c104 hc _ _ ?_) (fun _ _ _ => ?_)) | (refine pioK_oj_X7_readRec_62 hP hc  ?_) | (refine pioK_oj_X7_readRec_51 hP hc ih ?_)))
theorem pioK_ob_X7_readRec  {x0 : Option Nat} {x1 : Option Nat} {x2 : Int32} {σ : oSt} (hP : iKptK P) (hc : cQoK P call)  (h : P σ) : PIo P (ob_X7_readRec n call κ  x0 x1 x2 σ) := by
  unfold ob_X7_readRec
  repeat' (with_reducible (first | assumption | (refine PIoK_gd ?_) | (refine PIoK_pf hP ?_ (by decide) (by with_unfolding_all rfl) (fun _ _ => ?_)) | (refine PIoK_si hP ?_ (fun _ _ => ?_)) | (refine PIoK_sj hP ?_ (fun _ _ => ?_)) | (refine PIoK_sr hP ?_ (fun _ _ => ?_)) | (refine PIoK_cy hP ?_ (fun _ _ => ?_)) | (refine PIoK_bn (fun _ => ?_)) | (refine PIoK_na hP ?_ (fun _ _ => ?_)) | (refine PIoK_no hP ?_ (fun _ _ => ?_)) | (refine PIoK_ite ?_ ?_) | (refine PIoK_some ?_) | (exact PIoK_none) | (refine PIoK_cv (cQoK.c105 hc _ _ ?_) (fun _ _ => ?_)) | (refine PIoK_cv (cQoK.c116 hc _ _ _ ?_) (fun _ _ => ?_)) | (refine PIoK_cv (cQoK.c131 hc _ _ _ ?_) (fun _ _ => ?_)) | (refine PIoK_rn (cQoK.c115 hc _ _ ?_) (fun _ _ _ => ?_)) | (refine pioK_ol_X7_readRec_34 hP hc  _ _ _ _ _ _ ?_)))
theorem pioK_ob_X7_readSet  {x0 : Option Nat} {x1 : Option Nat} {x2 : Int32} {σ : oSt} (hP : iKptK P) (hc : cQoK P call)  (h : P σ) : PIo P (ob_X7_readSet n call κ  x0 x1 x2 σ) := by
  unfold ob_X7_readSet
  repeat' (with_reducible (first | assumption | (refine PIoK_gd ?_) | (refine PIoK_pf hP ?_ (by decide) (by with_unfolding_all rfl) (fun _ _ => ?_)) | (refine PIoK_si hP ?_ (fun _ _ => ?_)) | (refine PIoK_sj hP ?_ (fun _ _ => ?_)) | (refine PIoK_sr hP ?_ (fun _ _ => ?_)) | (refine PIoK_cy hP ?_ (fun _ _ => ?_)) | (refine PIoK_bn (fun _ => ?_)) | (refine PIoK_na hP ?_ (fun _ _ => ?_)) | (refine PIoK_no hP ?_ (fun _ _ => ?_)) | (refine PIoK_ite ?_ ?_) | (refine PIoK_some ?_) | (exact PIoK_none) | (refine PIoK_cv (cQoK.c105 hc _ _ ?_) (fun _ _ => ?_)) | (refine PIoK_cv (cQoK.c108 hc _ _ _ ?_) (fun _ _ => ?_)) | (refine PIoK_cv (cQoK.c133 hc _ _ _ ?_) (fun _ _ => ?_)) | (refine PIoK_rn (cQoK.c121 hc _ _ ?_) (fun _ _ _ => ?_)) | (refine PIoK_rn (cQoK.c135 hc _ _ _ ?_) (fun _ _ _ => ?_))))
theorem pioK_oj_X7_readProgram_72  {x0 : Option Nat} {σ : oSt} (hP : iKptK P) (hc : cQoK P call)  (h : P σ) : PIo P (oj_X7_readProgram_72 n call κ  x0 σ) := by
  unfold oj_X7_readProgram_72
  repeat' (with_reducible (first | assumption | (refine PIoK_gd ?_) | (refine PIoK_pf hP ?_ (by decide) (by with_unfolding_all rfl) (fun _ _ => ?_)) | (refine PIoK_si hP ?_ (fun _ _ => ?_)) | (refine PIoK_sj hP ?_ (fun _ _ => ?_)) | (refine PIoK_sr hP ?_ (fun _ _ => ?_)) | (refine PIoK_cy hP ?_ (fun _ _ => ?_)) | (refine PIoK_bn (fun _ => ?_)) | (refine PIoK_na hP ?_ (fun _ _ => ?_)) | (refine PIoK_no hP ?_ (fun _ _ => ?_)) | (refine PIoK_ite ?_ ?_) | (refine PIoK_some ?_) | (exact PIoK_none) | (refine PIoK_cv (cQoK.c107 hc _ _ ?_) (fun _ _ => ?_)) | (refine PIoK_in (cQoK.c104 hc _ _ ?_) (fun _ _ _ => ?_)) | (refine PIoK_rn (cQoK.c135 hc _ _ _ ?_) (fun _ _ _ => ?_))))
theorem pioK_ol_X7_readProgram_36  (hP : iKptK P) (hc : cQoK P call)  : ∀ (t : Nat) (x0 : Option Nat) (σ : oSt), P σ → PIo P (ol_X7_readProgram_36 n call κ  t x0 σ) := by
  intro t
  induction t with
  | zero => intros; exact PIoK_none
  | succ t ih =>
    intro x0 σ h
    rw [ol_X7_readProgram_36]
    repeat' (with_reducible (first | assumption | (refine PIoK_gd ?_) | (refine PIoK_pf hP ?_ (by decide) (by with_unfolding_all rfl) (fun _ _ => ?_)) | (refine PIoK_si hP ?_ (fun _ _ => ?_)) | (refine PIoK_sj hP ?_ (fun _ _ => ?_)) | (refine PIoK_sr hP ?_ (fun _ _ => ?_)) | (refine PIoK_cy hP ?_ (fun _ _ => ?_)) | (refine PIoK_bn (fun _ => ?_)) | (refine PIoK_na hP ?_ (fun _ _ => ?_)) | (refine PIoK_no hP ?_ (fun _ _ => ?_)) | (refine PIoK_ite ?_ ?_) | (refine PIoK_some ?_) | (exact PIoK_none) | (refine PIoK_cv (cQoK.c117 hc _ _ ?_) (fun _ _ => ?_)) | (refine PIoK_in (cQoK.c104 hc _ _ ?_) (fun _ _ _ => ?_)) | (refine pioK_oj_X7_readProgram_72 hP hc  ?_) | (refine ih _ _ ?_)))
theorem pioK_ol_X7_readProgram_0  (hP : iKptK P) (hc : cQoK P call)  : ∀ (t : Nat) (x0 : Option Nat) (σ : oSt), P σ → PIo P (ol_X7_readProgram_0 n call κ  t x0 σ) := by
  intro t
  induction t with
  | zero => intros; exact PIoK_none
  | succ t ih =>
    intro x0 σ h
    rw [ol_X7_readProgram_0]
    repeat' (with_reducible (first | assumption | (refine PIoK_gd ?_) | (refine PIoK_pf hP ?_ (by decide) (by with_unfolding_all rfl) (fun _ _ => ?_)) | (refine PIoK_si hP ?_ (fun _ _ => ?_)) | (refine PIoK_sj hP ?_ (fun _ _ => ?_)) | (refine PIoK_sr hP ?_ (fun _ _ => ?_)) | (refine PIoK_cy hP ?_ (fun _ _ => ?_)) | (refine PIoK_bn (fun _ => ?_)) | (refine PIoK_na hP ?_ (fun _ _ => ?_)) | (refine PIoK_no hP ?_ (fun _ _ => ?_)) | (refine PIoK_ite ?_ ?_) | (refine PIoK_some ?_) | (exact PIoK_none) | (refine PIoK_cv (cQoK.c112 hc _ _ ?_) (fun _ _ => ?_)) | (refine PIoK_in (cQoK.c104 hc _ _ ?_) (fun _ _ _ => ?_)) | (refine pioK_ol_X7_readProgram_36 hP hc  _ _ _ ?_) | (refine ih _ _ ?_)))
theorem pioK_ob_X7_readProgram  {x0 : Option Nat} {σ : oSt} (hP : iKptK P) (hc : cQoK P call)  (h : P σ) : PIo P (ob_X7_readProgram n call κ  x0 σ) := by
  unfold ob_X7_readProgram
  repeat' (with_reducible (first | assumption | (refine PIoK_gd ?_) | (refine PIoK_pf hP ?_ (by decide) (by with_unfolding_all rfl) (fun _ _ => ?_)) | (refine PIoK_si hP ?_ (fun _ _ => ?_)) | (refine PIoK_sj hP ?_ (fun _ _ => ?_)) | (refine PIoK_sr hP ?_ (fun _ _ => ?_)) | (refine PIoK_cy hP ?_ (fun _ _ => ?_)) | (refine PIoK_bn (fun _ => ?_)) | (refine PIoK_na hP ?_ (fun _ _ => ?_)) | (refine PIoK_no hP ?_ (fun _ _ => ?_)) | (refine PIoK_ite ?_ ?_) | (refine PIoK_some ?_) | (exact PIoK_none) | (refine pioK_ol_X7_readProgram_0 hP hc  _ _ _ ?_)))
theorem pioK_ob_X10_make  {x0 : Option Nat} {x1 : Int32} {σ : oSt} (hP : iKptK P) (hc : cQoK P call)  (h : P σ) : PIo P (ob_X10_make n call κ  x0 x1 σ) := by
  unfold ob_X10_make
  repeat' (with_reducible (first | assumption | (refine PIoK_gd ?_) | (refine PIoK_pf hP ?_ (by decide) (by with_unfolding_all rfl) (fun _ _ => ?_)) | (refine PIoK_si hP ?_ (fun _ _ => ?_)) | (refine PIoK_sj hP ?_ (fun _ _ => ?_)) | (refine PIoK_sr hP ?_ (fun _ _ => ?_)) | (refine PIoK_cy hP ?_ (fun _ _ => ?_)) | (refine PIoK_bn (fun _ => ?_)) | (refine PIoK_na hP ?_ (fun _ _ => ?_)) | (refine PIoK_no hP ?_ (fun _ _ => ?_)) | (refine PIoK_ite ?_ ?_) | (refine PIoK_some ?_) | (exact PIoK_none)))
theorem pioK_ob_X10_init  {x0 : Option Nat} {x1 : Int32} {σ : oSt} (hP : iKptK P) (hc : cQoK P call)  (h : P σ) : PIo P (ob_X10_init n call κ  x0 x1 σ) := by
  unfold ob_X10_init
  repeat' (with_reducible (first | assumption | (refine PIoK_gd ?_) | (refine PIoK_pf hP ?_ (by decide) (by with_unfolding_all rfl) (fun _ _ => ?_)) | (refine PIoK_si hP ?_ (fun _ _ => ?_)) | (refine PIoK_sj hP ?_ (fun _ _ => ?_)) | (refine PIoK_sr hP ?_ (fun _ _ => ?_)) | (refine PIoK_cy hP ?_ (fun _ _ => ?_)) | (refine PIoK_bn (fun _ => ?_)) | (refine PIoK_na hP ?_ (fun _ _ => ?_)) | (refine PIoK_no hP ?_ (fun _ _ => ?_)) | (refine PIoK_ite ?_ ?_) | (refine PIoK_some ?_) | (exact PIoK_none) | (refine PIoK_in (cQoK.c146 hc _ _ _ ?_) (fun _ _ _ => ?_))))
theorem pioK_ob_X10_basic  {x0 : Int32} {σ : oSt} (hP : iKptK P) (hc : cQoK P call)  (h : P σ) : PIo P (ob_X10_basic n call κ  x0 σ) := by
  unfold ob_X10_basic
  repeat' (with_reducible (first | assumption | (refine PIoK_gd ?_) | (refine PIoK_pf hP ?_ (by decide) (by with_unfolding_all rfl) (fun _ _ => ?_)) | (refine PIoK_si hP ?_ (fun _ _ => ?_)) | (refine PIoK_sj hP ?_ (fun _ _ => ?_)) | (refine PIoK_sr hP ?_ (fun _ _ => ?_)) | (refine PIoK_cy hP ?_ (fun _ _ => ?_)) | (refine PIoK_bn (fun _ => ?_)) | (refine PIoK_na hP ?_ (fun _ _ => ?_)) | (refine PIoK_no hP ?_ (fun _ _ => ?_)) | (refine PIoK_ite ?_ ?_) | (refine PIoK_some ?_) | (exact PIoK_none)))
theorem pioK_ob_X10_function  {x0 : Option Nat} {x1 : Int32} {x2 : Int32} {σ : oSt} (hP : iKptK P) (hc : cQoK P call)  (h : P σ) : PIo P (ob_X10_function n call κ  x0 x1 x2 σ) := by
  unfold ob_X10_function
  repeat' (with_reducible (first | assumption | (refine PIoK_gd ?_) | (refine PIoK_pf hP ?_ (by decide) (by with_unfolding_all rfl) (fun _ _ => ?_)) | (refine PIoK_si hP ?_ (fun _ _ => ?_)) | (refine PIoK_sj hP ?_ (fun _ _ => ?_)) | (refine PIoK_sr hP ?_ (fun _ _ => ?_)) | (refine PIoK_cy hP ?_ (fun _ _ => ?_)) | (refine PIoK_bn (fun _ => ?_)) | (refine PIoK_na hP ?_ (fun _ _ => ?_)) | (refine PIoK_no hP ?_ (fun _ _ => ?_)) | (refine PIoK_ite ?_ ?_) | (refine PIoK_some ?_) | (exact PIoK_none) | (refine PIoK_in (cQoK.c146 hc _ _ _ ?_) (fun _ _ _ => ?_))))
theorem pioK_oj_X10_unify_222 {k25 : Option Nat → Int32 → Int32 → oSt → oRs} {x0 : Option Nat} {x3 : Int32} {x4 : Int32} {σ : oSt} (hP : iKptK P) (hc : cQoK P call) (hk25 : ∀ (a0 : Option Nat) (a1 : Int32) (a2 : Int32), ∀ σ, P σ → PIo P (k25 a0 a1 a2 σ)) (h : P σ) : PIo P (oj_X10_unify_222 n call κ k25 x0 x3 x4 σ) := by
  unfold oj_X10_unify_222
  repeat' (with_reducible (first | assumption | (refine PIoK_gd ?_) | (refine PIoK_pf hP ?_ (by decide) (by with_unfolding_all rfl) (fun _ _ => ?_)) | (refine PIoK_si hP ?_ (fun _ _ => ?_)) | (refine PIoK_sj hP ?_ (fun _ _ => ?_)) | (refine PIoK_sr hP ?_ (fun _ _ => ?_)) | (refine PIoK_cy hP ?_ (fun _ _ => ?_)) | (refine PIoK_bn (fun _ => ?_)) | (refine PIoK_na hP ?_ (fun _ _ => ?_)) | (refine PIoK_no hP ?_ (fun _ _ => ?_)) | (refine PIoK_ite ?_ ?_) | (refine PIoK_some ?_) | (exact PIoK_none) | (refine hk25 _ _ _ _ ?_)))
theorem pioK_ol_X10_unify_25  (hP : iKptK P) (hc : cQoK P call)  : ∀ (t : Nat) (x0 : Option Nat) (x1 : Int32) (x2 : Int32) (σ : oSt), P σ → PIo P (ol_X10_unify_25 n call κ  t x0 x1 x2 σ) := by
  intro t
  induction t with
  | zero => intros; exact PIoK_none
  | succ t ih =>
    intro x0 x1 x2 σ h
    rw [ol_X10_unify_25]
    repeat' (with_reducible (first | assumption | (refine PIoK_gd ?_) | (refine PIoK_pf hP ?_ (by decide) (by with_unfolding_all rfl) (fun _ _ => ?_)) | (refine PIoK_si hP ?_ (fun _ _ => ?_)) | (refine PIoK_sj hP ?_ (fun _ _ => ?_)) | (refine PIoK_sr hP ?_ (fun _ _ => ?_)) | (refine PIoK_cy hP ?_ (fun _ _ => ?_)) | (refine PIoK_bn (fun _ => ?_)) | (refine PIoK_na hP ?_ (fun _ _ => ?_)) | (refine PIoK_no hP ?_ (fun _ _ => ?_)) | (refine PIoK_ite ?_ ?_) | (refine PIoK_some ?_) | (exact PIoK_none) | (refine PIoK_in (cQoK.c21 hc _ _ _ ?_) (fun _ _ _ => ?_)) | (refine pioK_oj_X10_unify_222 hP hc ih ?_)))
theorem pioK_ob_X10_unify  {x0 : Option Nat} {x1 : Int32} {x2 : Int32} {σ : oSt} (hP : iKptK P) (hc : cQoK P call)  (h : P σ) : PIo P (ob_X10_unify n call κ  x0 x1 x2 σ) := by
  unfold ob_X10_unify
  repeat' (with_reducible (first | assumption | (refine PIoK_gd ?_) | (refine PIoK_pf hP ?_ (by decide) (by with_unfolding_all rfl) (fun _ _ => ?_)) | (refine PIoK_si hP ?_ (fun _ _ => ?_)) | (refine PIoK_sj hP ?_ (fun _ _ => ?_)) | (refine PIoK_sr hP ?_ (fun _ _ => ?_)) | (refine PIoK_cy hP ?_ (fun _ _ => ?_)) | (refine PIoK_bn (fun _ => ?_)) | (refine PIoK_na hP ?_ (fun _ _ => ?_)) | (refine PIoK_no hP ?_ (fun _ _ => ?_)) | (refine PIoK_ite ?_ ?_) | (refine PIoK_some ?_) | (exact PIoK_none) | (refine pioK_ol_X10_unify_25 hP hc  _ _ _ _ _ ?_)))
theorem pioK_oj_X10_isFinite_163 {k22 : Option Nat → Int32 → Int32 → oSt → oRs} {x0 : Option Nat} {x2 : Int32} {x3 : Int32} {σ : oSt} (hP : iKptK P) (hc : cQoK P call) (hk22 : ∀ (a0 : Option Nat) (a1 : Int32) (a2 : Int32), ∀ σ, P σ → PIo P (k22 a0 a1 a2 σ)) (h : P σ) : PIo P (oj_X10_isFinite_163 n call κ k22 x0 x2 x3 σ) := by
  unfold oj_X10_isFinite_163
  repeat' (with_reducible (first | assumption | (refine PIoK_gd ?_) | (refine PIoK_pf hP ?_ (by decide) (by with_unfolding_all rfl) (fun _ _ => ?_)) | (refine PIoK_si hP ?_ (fun _ _ => ?_)) | (refine PIoK_sj hP ?_ (fun _ _ => ?_)) | (refine PIoK_sr hP ?_ (fun _ _ => ?_)) | (refine PIoK_cy hP ?_ (fun _ _ => ?_)) | (refine PIoK_bn (fun _ => ?_)) | (refine PIoK_na hP ?_ (fun _ _ => ?_)) | (refine PIoK_no hP ?_ (fun _ _ => ?_)) | (refine PIoK_ite ?_ ?_) | (refine PIoK_some ?_) | (exact PIoK_none) | (refine hk22 _ _ _ _ ?_)))
theorem pioK_oj_X10_isFinite_69 {k22 : Option Nat → Int32 → Int32 → oSt → oRs} {x0 : Option Nat} {x2 : Int32} {x3 : Int32} {x4 : Int32} {σ : oSt} (hP : iKptK P) (hc : cQoK P call) (hk22 : ∀ (a0 : Option Nat) (a1 : Int32) (a2 : Int32), ∀ σ, P σ → PIo P (k22 a0 a1 a2 σ)) (h : P σ) : PIo P (oj_X10_isFinite_69 n call κ k22 x0 x2 x3 x4 σ) := by
  unfold oj_X10_isFinite_69
  repeat' (with_reducible (first | assumption | (refine PIoK_gd ?_) | (refine PIoK_pf hP ?_ (by decide) (by with_unfolding_all rfl) (fun _ _ => ?_)) | (refine PIoK_si hP ?_ (fun _ _ => ?_)) | (refine PIoK_sj hP ?_ (fun _ _ => ?_)) | (refine PIoK_sr hP ?_ (fun _ _ => ?_)) | (refine PIoK_cy hP ?_ (fun _ _ => ?_)) | (refine PIoK_bn (fun _ => ?_)) | (refine PIoK_na hP ?_ (fun _ _ => ?_)) | (refine PIoK_no hP ?_ (fun _ _ => ?_)) | (refine PIoK_ite ?_ ?_) | (refine PIoK_some ?_) | (exact PIoK_none) | (refine pioK_oj_X10_isFinite_163 hP hc hk22 ?_) | (refine hk22 _ _ _ _ ?_)))
theorem pioK_ol_X10_isFinite_22  (hP : iKptK P) (hc : cQoK P call)  : ∀ (t : Nat) (x0 : Option Nat) (x1 : Int32) (x2 : Int32) (σ : oSt), P σ → PIo P (ol_X10_isFinite_22 n call κ  t x0 x1 x2 σ) := by
  intro t
  induction t with
  | zero => intros; exact PIoK_none
  | succ t ih =>
    intro x0 x1 x2 σ h
    rw [ol_X10_isFinite_22]
    repeat' (with_reducible (first | assumption | (refine PIoK_gd ?_) | (refine PIoK_pf hP ?_ (by decide) (by with_unfolding_all rfl) (fun _ _ => ?_)) | (refine PIoK_si hP ?_ (fun _ _ => ?_)) | (refine PIoK_sj hP ?_ (fun _ _ => ?_)) | (refine PIoK_sr hP ?_ (fun _ _ => ?_)) | (refine PIoK_cy hP ?_ (fun _ _ => ?_)) | (refine PIoK_bn (fun _ => ?_)) | (refine PIoK_na hP ?_ (fun _ _ => ?_)) | (refine PIoK_no hP ?_ (fun _ _ => ?_)) | (refine PIoK_ite ?_ ?_) | (refine PIoK_some ?_) | (exact PIoK_none) | (refine PIoK_in (cQoK.c21 hc _ _ _ ?_) (fun _ _ _ => ?_)) | (refine pioK_oj_X10_isFinite_163 hP hc ih ?_) | (refine pioK_oj_X10_isFinite_69 hP hc ih ?_)))
theorem pioK_ob_X10_isFinite  {x0 : Option Nat} {x1 : Int32} {σ : oSt} (hP : iKptK P) (hc : cQoK P call)  (h : P σ) : PIo P (ob_X10_isFinite n call κ  x0 x1 σ) := by
  unfold ob_X10_isFinite
  repeat' (with_reducible (first | assumption | (refine PIoK_gd ?_) | (refine PIoK_pf hP ?_ (by decide) (by with_unfolding_all rfl) (fun _ _ => ?_)) | (refine PIoK_si hP ?_ (fun _ _ => ?_)) | (refine PIoK_sj hP ?_ (fun _ _ => ?_)) | (refine PIoK_sr hP ?_ (fun _ _ => ?_)) | (refine PIoK_cy hP ?_ (fun _ _ => ?_)) | (refine PIoK_bn (fun _ => ?_)) | (refine PIoK_na hP ?_ (fun _ _ => ?_)) | (refine PIoK_no hP ?_ (fun _ _ => ?_)) | (refine PIoK_ite ?_ ?_) | (refine PIoK_some ?_) | (exact PIoK_none) | (refine PIoK_cv (cQoK.c242 hc _ _ _ ?_) (fun _ _ => ?_)) | (refine pioK_ol_X10_isFinite_22 hP hc  _ _ _ _ _ ?_)))
theorem pioK_oj_X10_must_24  {x0 : Option Nat} {x3 : Int32} {σ : oSt} (hP : iKptK P) (hc : cQoK P call)  (h : P σ) : PIo P (oj_X10_must_24 n call κ  x0 x3 σ) := by
  unfold oj_X10_must_24
  repeat' (with_reducible (first | assumption | (refine PIoK_gd ?_) | (refine PIoK_pf hP ?_ (by decide) (by with_unfolding_all rfl) (fun _ _ => ?_)) | (refine PIoK_si hP ?_ (fun _ _ => ?_)) | (refine PIoK_sj hP ?_ (fun _ _ => ?_)) | (refine PIoK_sr hP ?_ (fun _ _ => ?_)) | (refine PIoK_cy hP ?_ (fun _ _ => ?_)) | (refine PIoK_bn (fun _ => ?_)) | (refine PIoK_na hP ?_ (fun _ _ => ?_)) | (refine PIoK_no hP ?_ (fun _ _ => ?_)) | (refine PIoK_ite ?_ ?_) | (refine PIoK_some ?_) | (exact PIoK_none)))
theorem pioK_ob_X10_must  {x0 : Option Nat} {x1 : Int32} {x2 : Int32} {x3 : Int32} {σ : oSt} (hP : iKptK P) (hc : cQoK P call)  (h : P σ) : PIo P (ob_X10_must n call κ  x0 x1 x2 x3 σ) := by
  unfold ob_X10_must
  repeat' (with_reducible (first | assumption | (refine PIoK_gd ?_) | (refine PIoK_pf hP ?_ (by decide) (by with_unfolding_all rfl) (fun _ _ => ?_)) | (refine PIoK_si hP ?_ (fun _ _ => ?_)) | (refine PIoK_sj hP ?_ (fun _ _ => ?_)) | (refine PIoK_sr hP ?_ (fun _ _ => ?_)) | (refine PIoK_cy hP ?_ (fun _ _ => ?_)) | (refine PIoK_bn (fun _ => ?_)) | (refine PIoK_na hP ?_ (fun _ _ => ?_)) | (refine PIoK_no hP ?_ (fun _ _ => ?_)) | (refine PIoK_ite ?_ ?_) | (refine PIoK_some ?_) | (exact PIoK_none) | (refine PIoK_in (cQoK.c150 hc _ _ _ _ ?_) (fun _ _ _ => ?_)) | (refine PIoK_in (cQoK.c151 hc _ _ _ ?_) (fun _ _ _ => ?_)) | (refine pioK_oj_X10_must_24 hP hc  ?_)))
theorem pioK_ol_X10_checkSum_2  (hP : iKptK P) (hc : cQoK P call)  : ∀ (t : Nat) (x0 : Option Nat) (x1 : Option Nat) (x2 : Int32) (σ : oSt), P σ → PIo P (ol_X10_checkSum_2 n call κ  t x0 x1 x2 σ) := by
  intro t
  induction t with
  | zero => intros; exact PIoK_none
  | succ t ih =>
    intro x0 x1 x2 σ h
    rw [ol_X10_checkSum_2]
    repeat' (with_reducible (first | assumption | (refine PIoK_gd ?_) | (refine PIoK_pf hP ?_ (by decide) (by with_unfolding_all rfl) (fun _ _ => ?_)) | (refine PIoK_si hP ?_ (fun _ _ => ?_)) | (refine PIoK_sj hP ?_ (fun _ _ => ?_)) | (refine PIoK_sr hP ?_ (fun _ _ => ?_)) | (refine PIoK_cy hP ?_ (fun _ _ => ?_)) | (refine PIoK_bn (fun _ => ?_)) | (refine PIoK_na hP ?_ (fun _ _ => ?_)) | (refine PIoK_no hP ?_ (fun _ _ => ?_)) | (refine PIoK_ite ?_ ?_) | (refine PIoK_some ?_) | (exact PIoK_none) | (refine PIoK_cv (cQoK.c152 hc _ _ _ _ _ ?_) (fun _ _ => ?_)) | (refine PIoK_in (cQoK.c148 hc _ _ ?_) (fun _ _ _ => ?_)) | (refine PIoK_in (cQoK.c236 hc _ _ ?_) (fun _ _ _ => ?_)) | (refine PIoK_rn (cQoK.c234 hc _ _ _ ?_) (fun _ _ _ => ?_)) | (refine ih _ _ _ _ ?_)))
theorem pioK_ob_X10_checkSum  {x0 : Option Nat} {x1 : Option Nat} {σ : oSt} (hP : iKptK P) (hc : cQoK P call)  (h : P σ) : PIo P (ob_X10_checkSum n call κ  x0 x1 σ) := by
  unfold ob_X10_checkSum
  repeat' (with_reducible (first | assumption | (refine PIoK_gd ?_) | (refine PIoK_pf hP ?_ (by decide) (by with_unfolding_all rfl) (fun _ _ => ?_)) | (refine PIoK_si hP ?_ (fun _ _ => ?_)) | (refine PIoK_sj hP ?_ (fun _ _ => ?_)) | (refine PIoK_sr hP ?_ (fun _ _ => ?_)) | (refine PIoK_cy hP ?_ (fun _ _ => ?_)) | (refine PIoK_bn (fun _ => ?_)) | (refine PIoK_na hP ?_ (fun _ _ => ?_)) | (refine PIoK_no hP ?_ (fun _ _ => ?_)) | (refine PIoK_ite ?_ ?_) | (refine PIoK_some ?_) | (exact PIoK_none) | (refine pioK_ol_X10_checkSum_2 hP hc  _ _ _ _ _ ?_)))
theorem pioK_ol_X10_checkTest_69  (hP : iKptK P) (hc : cQoK P call)  : ∀ (t : Nat) (x0 : Option Nat) (x1 : Option Nat) (x2 : Int32) (σ : oSt), P σ → PIo P (ol_X10_checkTest_69 n call κ  t x0 x1 x2 σ) := by
  intro t
  induction t with
  | zero => intros; exact PIoK_none
  | succ t ih =>
    intro x0 x1 x2 σ h
    rw [ol_X10_checkTest_69]
    repeat' (with_reducible (first | assumption | (refine PIoK_gd ?_) | (refine PIoK_pf hP ?_ (by decide) (by with_unfolding_all rfl) (fun _ _ => ?_)) | (refine PIoK_si hP ?_ (fun _ _ => ?_)) | (refine PIoK_sj hP ?_ (fun _ _ => ?_)) | (refine PIoK_sr hP ?_ (fun _ _ => ?_)) | (refine PIoK_cy hP ?_ (fun _ _ => ?_)) | (refine PIoK_bn (fun _ => ?_)) | (refine PIoK_na hP ?_ (fun _ _ => ?_)) | (refine PIoK_no hP ?_ (fun _ _ => ?_)) | (refine PIoK_ite ?_ ?_) | (refine PIoK_some ?_) | (exact PIoK_none) | (refine PIoK_cv (cQoK.c154 hc _ _ _ ?_) (fun _ _ => ?_)) | (refine PIoK_in (cQoK.c236 hc _ _ ?_) (fun _ _ _ => ?_)) | (refine PIoK_rn (cQoK.c234 hc _ _ _ ?_) (fun _ _ _ => ?_)) | (refine ih _ _ _ _ ?_)))
theorem pioK_ob_X10_checkTest  {x0 : Option Nat} {x1 : Option Nat} {σ : oSt} (hP : iKptK P) (hc : cQoK P call)  (h : P σ) : PIo P (ob_X10_checkTest n call κ  x0 x1 σ) := by
  unfold ob_X10_checkTest
  repeat' (with_reducible (first | assumption | (refine PIoK_gd ?_) | (refine PIoK_pf hP ?_ (by decide) (by with_unfolding_all rfl) (fun _ _ => ?_)) | (refine PIoK_si hP ?_ (fun _ _ => ?_)) | (refine PIoK_sj hP ?_ (fun _ _ => ?_)) | (refine PIoK_sr hP ?_ (fun _ _ => ?_)) | (refine PIoK_cy hP ?_ (fun _ _ => ?_)) | (refine PIoK_bn (fun _ => ?_)) | (refine PIoK_na hP ?_ (fun _ _ => ?_)) | (refine PIoK_no hP ?_ (fun _ _ => ?_)) | (refine PIoK_ite ?_ ?_) | (refine PIoK_some ?_) | (exact PIoK_none) | (refine PIoK_cv (cQoK.c152 hc _ _ _ _ _ ?_) (fun _ _ => ?_)) | (refine PIoK_cv (cQoK.c153 hc _ _ _ ?_) (fun _ _ => ?_)) | (refine PIoK_cv (cQoK.c154 hc _ _ _ ?_) (fun _ _ => ?_)) | (refine PIoK_in (cQoK.c148 hc _ _ ?_) (fun _ _ _ => ?_)) | (refine pioK_ol_X10_checkTest_69 hP hc  _ _ _ _ _ ?_)))
theorem pioK_ob_X10_inferPlain  {x0 : Option Nat} {x1 : Option Nat} {σ : oSt} (hP : iKptK P) (hc : cQoK P call)  (h : P σ) : PIo P (ob_X10_inferPlain n call κ  x0 x1 σ) := by
  unfold ob_X10_inferPlain
  repeat' (with_reducible (first | assumption | (refine PIoK_gd ?_) | (refine PIoK_pf hP ?_ (by decide) (by with_unfolding_all rfl) (fun _ _ => ?_)) | (refine PIoK_si hP ?_ (fun _ _ => ?_)) | (refine PIoK_sj hP ?_ (fun _ _ => ?_)) | (refine PIoK_sr hP ?_ (fun _ _ => ?_)) | (refine PIoK_cy hP ?_ (fun _ _ => ?_)) | (refine PIoK_bn (fun _ => ?_)) | (refine PIoK_na hP ?_ (fun _ _ => ?_)) | (refine PIoK_no hP ?_ (fun _ _ => ?_)) | (refine PIoK_ite ?_ ?_) | (refine PIoK_some ?_) | (exact PIoK_none) | (refine PIoK_cv (cQoK.c152 hc _ _ _ _ _ ?_) (fun _ _ => ?_)) | (refine PIoK_cv (cQoK.c153 hc _ _ _ ?_) (fun _ _ => ?_)) | (refine PIoK_in (cQoK.c148 hc _ _ ?_) (fun _ _ _ => ?_))))
theorem pioK_oj_X10_infer_351  {x1 : Option Nat} {σ : oSt} (hP : iKptK P) (hc : cQoK P call)  (h : P σ) : PIo P (oj_X10_infer_351 n call κ  x1 σ) := by
  unfold oj_X10_infer_351
  repeat' (with_reducible (first | assumption | (refine PIoK_gd ?_) | (refine PIoK_pf hP ?_ (by decide) (by with_unfolding_all rfl) (fun _ _ => ?_)) | (refine PIoK_si hP ?_ (fun _ _ => ?_)) | (refine PIoK_sj hP ?_ (fun _ _ => ?_)) | (refine PIoK_sr hP ?_ (fun _ _ => ?_)) | (refine PIoK_cy hP ?_ (fun _ _ => ?_)) | (refine PIoK_bn (fun _ => ?_)) | (refine PIoK_na hP ?_ (fun _ _ => ?_)) | (refine PIoK_no hP ?_ (fun _ _ => ?_)) | (refine PIoK_ite ?_ ?_) | (refine PIoK_some ?_) | (exact PIoK_none)))
theorem pioK_ob_X10_infer  {x0 : Option Nat} {x1 : Option Nat} {σ : oSt} (hP : iKptK P) (hc : cQoK P call)  (h : P σ) : PIo P (ob_X10_infer n call κ  x0 x1 σ) := by
  unfold ob_X10_infer
  repeat' (with_reducible (first | assumption | (refine PIoK_gd ?_) | (refine PIoK_pf hP ?_ (by decide) (by with_unfolding_all rfl) (fun _ _ => ?_)) | (refine PIoK_si hP ?_ (fun _ _ => ?_)) | (refine PIoK_sj hP ?_ (fun _ _ => ?_)) | (refine PIoK_sr hP ?_ (fun _ _ => ?_)) | (refine PIoK_cy hP ?_ (fun _ _ => ?_)) | (refine PIoK_bn (fun _ => ?_)) | (refine PIoK_na hP ?_ (fun _ _ => ?_)) | (refine PIoK_no hP ?_ (fun _ _ => ?_)) | (refine PIoK_ite ?_ ?_) | (refine PIoK_some ?_) | (exact PIoK_none) | (refine PIoK_cv (cQoK.c152 hc _ _ _ _ _ ?_) (fun _ _ => ?_)) | (refine PIoK_cv (cQoK.c153 hc _ _ _ ?_) (fun _ _ => ?_)) | (refine PIoK_cv (cQoK.c154 hc _ _ _ ?_) (fun _ _ => ?_)) | (refine PIoK_cv (cQoK.c157 hc _ _ _ ?_) (fun _ _ => ?_)) | (refine PIoK_cv (cQoK.c158 hc _ _ _ ?_) (fun _ _ => ?_)) | (refine PIoK_cv (cQoK.c159 hc _ _ _ ?_) (fun _ _ => ?_)) | (refine PIoK_in (cQoK.c146 hc _ _ _ ?_) (fun _ _ _ => ?_)) | (refine PIoK_in (cQoK.c148 hc _ _ ?_) (fun _ _ _ => ?_)) | (refine PIoK_in (cQoK.c149 hc _ _ _ _ ?_) (fun _ _ _ => ?_)) | (refine PIoK_in (cQoK.c155 hc _ _ _ ?_) (fun _ _ _ => ?_)) | (refine PIoK_in (cQoK.c156 hc _ _ _ ?_) (fun _ _ _ => ?_)) | (refine PIoK_rn (cQoK.c234 hc _ _ _ ?_) (fun _ _ _ => ?_)) | (refine pioK_oj_X10_infer_351 hP hc  ?_)))
theorem pioK_ol_X10_inferCall_120  (hP : iKptK P) (hc : cQoK P call)  : ∀ (t : Nat) (x0 : Option Nat) (x1 : Option Nat) (x2 : Int32) (x3 : Int32) (σ : oSt), P σ → PIo P (ol_X10_inferCall_120 n call κ  t x0 x1 x2 x3 σ) := by
  intro t
  induction t with
  | zero => intros; exact PIoK_none
  | succ t ih =>
    intro x0 x1 x2 x3 σ h
    rw [ol_X10_inferCall_120]
    repeat' (with_reducible (first | assumption | (refine PIoK_gd ?_) | (refine PIoK_pf hP ?_ (by decide) (by with_unfolding_all rfl) (fun _ _ => ?_)) | (refine PIoK_si hP ?_ (fun _ _ => ?_)) | (refine PIoK_sj hP ?_ (fun _ _ => ?_)) | (refine PIoK_sr hP ?_ (fun _ _ => ?_)) | (refine PIoK_cy hP ?_ (fun _ _ => ?_)) | (refine PIoK_bn (fun _ => ?_)) | (refine PIoK_na hP ?_ (fun _ _ => ?_)) | (refine PIoK_no hP ?_ (fun _ _ => ?_)) | (refine PIoK_ite ?_ ?_) | (refine PIoK_some ?_) | (exact PIoK_none) | (refine PIoK_cv (cQoK.c152 hc _ _ _ _ _ ?_) (fun _ _ => ?_)) | (refine PIoK_in (cQoK.c156 hc _ _ _ ?_) (fun _ _ _ => ?_)) | (refine PIoK_in (cQoK.c236 hc _ _ ?_) (fun _ _ _ => ?_)) | (refine PIoK_rn (cQoK.c234 hc _ _ _ ?_) (fun _ _ _ => ?_)) | (refine ih _ _ _ _ _ ?_)))
theorem pioK_oj_X10_inferCall_60 {k14 : Option Nat → Option Nat → Int32 → Int32 → oSt → oRs} {x0 : Option Nat} {x1 : Option Nat} {x2 : Int32} {x3 : Int32} {σ : oSt} (hP : iKptK P) (hc : cQoK P call) (hk14 : ∀ (a0 : Option Nat) (a1 : Option Nat) (a2 : Int32) (a3 : Int32), ∀ σ, P σ → PIo P (k14 a0 a1 a2 a3 σ)) (h : P σ) : PIo P (oj_X10_inferCall_60 n call κ k14 x0 x1 x2 x3 σ) := by
  unfold oj_X10_inferCall_60
  repeat' (with_reducible (first | assumption | (refine PIoK_gd ?_) | (refine PIoK_pf hP ?_ (by decide) (by with_unfolding_all rfl) (fun _ _ => ?_)) | (refine PIoK_si hP ?_ (fun _ _ => ?_)) | (refine PIoK_sj hP ?_ (fun _ _ => ?_)) | (refine PIoK_sr hP ?_ (fun _ _ => ?_)) | (refine PIoK_cy hP ?_ (fun _ _ => ?_)) | (refine PIoK_bn (fun _ => ?_)) | (refine PIoK_na hP ?_ (fun _ _ => ?_)) | (refine PIoK_no hP ?_ (fun _ _ => ?_)) | (refine PIoK_ite ?_ ?_) | (refine PIoK_some ?_) | (exact PIoK_none) | (refine PIoK_in (cQoK.c21 hc _ _ _ ?_) (fun _ _ _ => ?_)) | (refine PIoK_rn (cQoK.c234 hc _ _ _ ?_) (fun _ _ _ => ?_)) | (refine hk14 _ _ _ _ _ ?_)))
theorem pioK_ol_X10_inferCall_14  (hP : iKptK P) (hc : cQoK P call)  : ∀ (t : Nat) (x0 : Option Nat) (x1 : Option Nat) (x2 : Int32) (x3 : Int32) (σ : oSt), P σ → PIo P (ol_X10_inferCall_14 n call κ  t x0 x1 x2 x3 σ) := by
  intro t
  induction t with
  | zero => intros; exact PIoK_none
  | succ t ih =>
    intro x0 x1 x2 x3 σ h
    rw [ol_X10_inferCall_14]
    repeat' (with_reducible (first | assumption | (refine PIoK_gd ?_) | (refine PIoK_pf hP ?_ (by decide) (by with_unfolding_all rfl) (fun _ _ => ?_)) | (refine PIoK_si hP ?_ (fun _ _ => ?_)) | (refine PIoK_sj hP ?_ (fun _ _ => ?_)) | (refine PIoK_sr hP ?_ (fun _ _ => ?_)) | (refine PIoK_cy hP ?_ (fun _ _ => ?_)) | (refine PIoK_bn (fun _ => ?_)) | (refine PIoK_na hP ?_ (fun _ _ => ?_)) | (refine PIoK_no hP ?_ (fun _ _ => ?_)) | (refine PIoK_ite ?_ ?_) | (refine PIoK_some ?_) | (exact PIoK_none) | (refine PIoK_in (cQoK.c21 hc _ _ _ ?_) (fun _ _ _ => ?_)) | (refine PIoK_in (cQoK.c146 hc _ _ _ ?_) (fun _ _ _ => ?_)) | (refine PIoK_in (cQoK.c149 hc _ _ _ _ ?_) (fun _ _ _ => ?_)) | (refine PIoK_in (cQoK.c236 hc _ _ ?_) (fun _ _ _ => ?_)) | (refine pioK_ol_X10_inferCall_120 hP hc  _ _ _ _ _ _ ?_) | (refine pioK_oj_X10_inferCall_60 hP hc ih ?_)))
theorem pioK_ob_X10_inferCall  {x0 : Option Nat} {x1 : Option Nat} {σ : oSt} (hP : iKptK P) (hc : cQoK P call)  (h : P σ) : PIo P (ob_X10_inferCall n call κ  x0 x1 σ) := by
  unfold ob_X10_inferCall
  repeat' (with_reducible (first | assumption | (refine PIoK_gd ?_) | (refine PIoK_pf hP ?_ (by decide) (by with_unfolding_all rfl) (fun _ _ => ?_)) | (refine PIoK_si hP ?_ (fun _ _ => ?_)) | (refine PIoK_sj hP ?_ (fun _ _ => ?_)) | (refine PIoK_sr hP ?_ (fun _ _ => ?_)) | (refine PIoK_cy hP ?_ (fun _ _ => ?_)) | (refine PIoK_bn (fun _ => ?_)) | (refine PIoK_na hP ?_ (fun _ _ => ?_)) | (refine PIoK_no hP ?_ (fun _ _ => ?_)) | (refine PIoK_ite ?_ ?_) | (refine PIoK_some ?_) | (exact PIoK_none) | (refine PIoK_in (cQoK.c21 hc _ _ _ ?_) (fun _ _ _ => ?_)) | (refine pioK_ol_X10_inferCall_14 hP hc  _ _ _ _ _ _ ?_)))
theorem pioK_ob_X10_inferMatch  {x0 : Option Nat} {x1 : Option Nat} {σ : oSt} (hP : iKptK P) (hc : cQoK P call)  (h : P σ) : PIo P (ob_X10_inferMatch n call κ  x0 x1 σ) := by
  unfold ob_X10_inferMatch
  repeat' (with_reducible (first | assumption | (refine PIoK_gd ?_) | (refine PIoK_pf hP ?_ (by decide) (by with_unfolding_all rfl) (fun _ _ => ?_)) | (refine PIoK_si hP ?_ (fun _ _ => ?_)) | (refine PIoK_sj hP ?_ (fun _ _ => ?_)) | (refine PIoK_sr hP ?_ (fun _ _ => ?_)) | (refine PIoK_cy hP ?_ (fun _ _ => ?_)) | (refine PIoK_bn (fun _ => ?_)) | (refine PIoK_na hP ?_ (fun _ _ => ?_)) | (refine PIoK_no hP ?_ (fun _ _ => ?_)) | (refine PIoK_ite ?_ ?_) | (refine PIoK_some ?_) | (exact PIoK_none) | (refine PIoK_cv (cQoK.c152 hc _ _ _ _ _ ?_) (fun _ _ => ?_)) | (refine PIoK_in (cQoK.c148 hc _ _ ?_) (fun _ _ _ => ?_)) | (refine PIoK_in (cQoK.c156 hc _ _ _ ?_) (fun _ _ _ => ?_)) | (refine PIoK_rn (cQoK.c234 hc _ _ _ ?_) (fun _ _ _ => ?_))))
theorem pioK_ol_X10_inferRec_62  (hP : iKptK P) (hc : cQoK P call)  : ∀ (t : Nat) (x0 : Option Nat) (x1 : Option Nat) (x2 : Int32) (x3 : Int32) (σ : oSt), P σ → PIo P (ol_X10_inferRec_62 n call κ  t x0 x1 x2 x3 σ) := by
  intro t
  induction t with
  | zero => intros; exact PIoK_none
  | succ t ih =>
    intro x0 x1 x2 x3 σ h
    rw [ol_X10_inferRec_62]
    repeat' (with_reducible (first | assumption | (refine PIoK_gd ?_) | (refine PIoK_pf hP ?_ (by decide) (by with_unfolding_all rfl) (fun _ _ => ?_)) | (refine PIoK_si hP ?_ (fun _ _ => ?_)) | (refine PIoK_sj hP ?_ (fun _ _ => ?_)) | (refine PIoK_sr hP ?_ (fun _ _ => ?_)) | (refine PIoK_cy hP ?_ (fun _ _ => ?_)) | (refine PIoK_bn (fun _ => ?_)) | (refine PIoK_na hP ?_ (fun _ _ => ?_)) | (refine PIoK_no hP ?_ (fun _ _ => ?_)) | (refine PIoK_ite ?_ ?_) | (refine PIoK_some ?_) | (exact PIoK_none) | (refine PIoK_cv (cQoK.c152 hc _ _ _ _ _ ?_) (fun _ _ => ?_)) | (refine PIoK_in (cQoK.c149 hc _ _ _ _ ?_) (fun _ _ _ => ?_)) | (refine PIoK_in (cQoK.c156 hc _ _ _ ?_) (fun _ _ _ => ?_)) | (refine PIoK_rn (cQoK.c234 hc _ _ _ ?_) (fun _ _ _ => ?_)) | (refine ih _ _ _ _ _ ?_)))
theorem pioK_ol_X10_inferRec_2  (hP : iKptK P) (hc : cQoK P call)  : ∀ (t : Nat) (x0 : Option Nat) (x1 : Option Nat) (x2 : Int32) (σ : oSt), P σ → PIo P (ol_X10_inferRec_2 n call κ  t x0 x1 x2 σ) := by
  intro t
  induction t with
  | zero => intros; exact PIoK_none
  | succ t ih =>
    intro x0 x1 x2 σ h
    rw [ol_X10_inferRec_2]
    repeat' (with_reducible (first | assumption | (refine PIoK_gd ?_) | (refine PIoK_pf hP ?_ (by decide) (by with_unfolding_all rfl) (fun _ _ => ?_)) | (refine PIoK_si hP ?_ (fun _ _ => ?_)) | (refine PIoK_sj hP ?_ (fun _ _ => ?_)) | (refine PIoK_sr hP ?_ (fun _ _ => ?_)) | (refine PIoK_cy hP ?_ (fun _ _ => ?_)) | (refine PIoK_bn (fun _ => ?_)) | (refine PIoK_na hP ?_ (fun _ _ => ?_)) | (refine PIoK_no hP ?_ (fun _ _ => ?_)) | (refine PIoK_ite ?_ ?_) | (refine PIoK_some ?_) | (exact PIoK_none) | (refine PIoK_in (cQoK.c146 hc _ _ _ ?_) (fun _ _ _ => ?_)) | (refine PIoK_in (cQoK.c236 hc _ _ ?_) (fun _ _ _ => ?_)) | (refine PIoK_rn (cQoK.c234 hc _ _ _ ?_) (fun _ _ _ => ?_)) | (refine pioK_ol_X10_inferRec_62 hP hc  _ _ _ _ _ _ ?_) | (refine ih _ _ _ _ ?_)))
theorem pioK_ob_X10_inferRec  {x0 : Option Nat} {x1 : Option Nat} {σ : oSt} (hP : iKptK P) (hc : cQoK P call)  (h : P σ) : PIo P (ob_X10_inferRec n call κ  x0 x1 σ) := by
  unfold ob_X10_inferRec
  repeat' (with_reducible (first | assumption | (refine PIoK_gd ?_) | (refine PIoK_pf hP ?_ (by decide) (by with_unfolding_all rfl) (fun _ _ => ?_)) | (refine PIoK_si hP ?_ (fun _ _ => ?_)) | (refine PIoK_sj hP ?_ (fun _ _ => ?_)) | (refine PIoK_sr hP ?_ (fun _ _ => ?_)) | (refine PIoK_cy hP ?_ (fun _ _ => ?_)) | (refine PIoK_bn (fun _ => ?_)) | (refine PIoK_na hP ?_ (fun _ _ => ?_)) | (refine PIoK_no hP ?_ (fun _ _ => ?_)) | (refine PIoK_ite ?_ ?_) | (refine PIoK_some ?_) | (exact PIoK_none) | (refine pioK_ol_X10_inferRec_2 hP hc  _ _ _ _ _ ?_)))
theorem pioK_oj_X10_leavesOf_100 {k17 : Option Nat → Int32 → Int32 → Int32 → oSt → oRs} {x0 : Option Nat} {x2 : Int32} {x3 : Int32} {x4 : Int32} {σ : oSt} (hP : iKptK P) (hc : cQoK P call) (hk17 : ∀ (a0 : Option Nat) (a1 : Int32) (a2 : Int32) (a3 : Int32), ∀ σ, P σ → PIo P (k17 a0 a1 a2 a3 σ)) (h : P σ) : PIo P (oj_X10_leavesOf_100 n call κ k17 x0 x2 x3 x4 σ) := by
  unfold oj_X10_leavesOf_100
  repeat' (with_reducible (first | assumption | (refine PIoK_gd ?_) | (refine PIoK_pf hP ?_ (by decide) (by with_unfolding_all rfl) (fun _ _ => ?_)) | (refine PIoK_si hP ?_ (fun _ _ => ?_)) | (refine PIoK_sj hP ?_ (fun _ _ => ?_)) | (refine PIoK_sr hP ?_ (fun _ _ => ?_)) | (refine PIoK_cy hP ?_ (fun _ _ => ?_)) | (refine PIoK_bn (fun _ => ?_)) | (refine PIoK_na hP ?_ (fun _ _ => ?_)) | (refine PIoK_no hP ?_ (fun _ _ => ?_)) | (refine PIoK_ite ?_ ?_) | (refine PIoK_some ?_) | (exact PIoK_none) | (refine hk17 _ _ _ _ _ ?_)))
theorem pioK_ol_X10_leavesOf_17  (hP : iKptK P) (hc : cQoK P call)  : ∀ (t : Nat) (x0 : Option Nat) (x1 : Int32) (x2 : Int32) (x3 : Int32) (σ : oSt), P σ → PIo P (ol_X10_leavesOf_17 n call κ  t x0 x1 x2 x3 σ) := by
  intro t
  induction t with
  | zero => intros; exact PIoK_none
  | succ t ih =>
    intro x0 x1 x2 x3 σ h
    rw [ol_X10_leavesOf_17]
    repeat' (with_reducible (first | assumption | (refine PIoK_gd ?_) | (refine PIoK_pf hP ?_ (by decide) (by with_unfolding_all rfl) (fun _ _ => ?_)) | (refine PIoK_si hP ?_ (fun _ _ => ?_)) | (refine PIoK_sj hP ?_ (fun _ _ => ?_)) | (refine PIoK_sr hP ?_ (fun _ _ => ?_)) | (refine PIoK_cy hP ?_ (fun _ _ => ?_)) | (refine PIoK_bn (fun _ => ?_)) | (refine PIoK_na hP ?_ (fun _ _ => ?_)) | (refine PIoK_no hP ?_ (fun _ _ => ?_)) | (refine PIoK_ite ?_ ?_) | (refine PIoK_some ?_) | (exact PIoK_none) | (refine PIoK_in (cQoK.c21 hc _ _ _ ?_) (fun _ _ _ => ?_)) | (refine pioK_oj_X10_leavesOf_100 hP hc ih ?_)))
theorem pioK_ob_X10_leavesOf  {x0 : Option Nat} {x1 : Int32} {σ : oSt} (hP : iKptK P) (hc : cQoK P call)  (h : P σ) : PIo P (ob_X10_leavesOf n call κ  x0 x1 σ) := by
  unfold ob_X10_leavesOf
  repeat' (with_reducible (first | assumption | (refine PIoK_gd ?_) | (refine PIoK_pf hP ?_ (by decide) (by with_unfolding_all rfl) (fun _ _ => ?_)) | (refine PIoK_si hP ?_ (fun _ _ => ?_)) | (refine PIoK_sj hP ?_ (fun _ _ => ?_)) | (refine PIoK_sr hP ?_ (fun _ _ => ?_)) | (refine PIoK_cy hP ?_ (fun _ _ => ?_)) | (refine PIoK_bn (fun _ => ?_)) | (refine PIoK_na hP ?_ (fun _ _ => ?_)) | (refine PIoK_no hP ?_ (fun _ _ => ?_)) | (refine PIoK_ite ?_ ?_) | (refine PIoK_some ?_) | (exact PIoK_none) | (refine pioK_ol_X10_leavesOf_17 hP hc  _ _ _ _ _ _ ?_)))
theorem pioK_ol_X10_countTemplates_161  (hP : iKptK P) (hc : cQoK P call)  : ∀ (t : Nat) (x0 : Option Nat) (x1 : Option Nat) (x2 : Int32) (σ : oSt), P σ → PIo P (ol_X10_countTemplates_161 n call κ  t x0 x1 x2 σ) := by
  intro t
  induction t with
  | zero => intros; exact PIoK_none
  | succ t ih =>
    intro x0 x1 x2 σ h
    rw [ol_X10_countTemplates_161]
    repeat' (with_reducible (first | assumption | (refine PIoK_gd ?_) | (refine PIoK_pf hP ?_ (by decide) (by with_unfolding_all rfl) (fun _ _ => ?_)) | (refine PIoK_si hP ?_ (fun _ _ => ?_)) | (refine PIoK_sj hP ?_ (fun _ _ => ?_)) | (refine PIoK_sr hP ?_ (fun _ _ => ?_)) | (refine PIoK_cy hP ?_ (fun _ _ => ?_)) | (refine PIoK_bn (fun _ => ?_)) | (refine PIoK_na hP ?_ (fun _ _ => ?_)) | (refine PIoK_no hP ?_ (fun _ _ => ?_)) | (refine PIoK_ite ?_ ?_) | (refine PIoK_some ?_) | (exact PIoK_none) | (refine PIoK_cv (cQoK.c161 hc _ _ _ ?_) (fun _ _ => ?_)) | (refine PIoK_in (cQoK.c236 hc _ _ ?_) (fun _ _ _ => ?_)) | (refine PIoK_rn (cQoK.c234 hc _ _ _ ?_) (fun _ _ _ => ?_)) | (refine ih _ _ _ _ ?_)))
theorem pioK_oj_X10_countTemplates_159  {x0 : Option Nat} {x1 : Option Nat} {σ : oSt} (hP : iKptK P) (hc : cQoK P call)  (h : P σ) : PIo P (oj_X10_countTemplates_159 n call κ  x0 x1 σ) := by
  unfold oj_X10_countTemplates_159
  repeat' (with_reducible (first | assumption | (refine PIoK_gd ?_) | (refine PIoK_pf hP ?_ (by decide) (by with_unfolding_all rfl) (fun _ _ => ?_)) | (refine PIoK_si hP ?_ (fun _ _ => ?_)) | (refine PIoK_sj hP ?_ (fun _ _ => ?_)) | (refine PIoK_sr hP ?_ (fun _ _ => ?_)) | (refine PIoK_cy hP ?_ (fun _ _ => ?_)) | (refine PIoK_bn (fun _ => ?_)) | (refine PIoK_na hP ?_ (fun _ _ => ?_)) | (refine PIoK_no hP ?_ (fun _ _ => ?_)) | (refine PIoK_ite ?_ ?_) | (refine PIoK_some ?_) | (exact PIoK_none) | (refine pioK_ol_X10_countTemplates_161 hP hc  _ _ _ _ _ ?_)))
theorem pioK_oj_X10_countTemplates_144  {x0 : Option Nat} {x1 : Option Nat} {σ : oSt} (hP : iKptK P) (hc : cQoK P call)  (h : P σ) : PIo P (oj_X10_countTemplates_144 n call κ  x0 x1 σ) := by
  unfold oj_X10_countTemplates_144
  repeat' (with_reducible (first | assumption | (refine PIoK_gd ?_) | (refine PIoK_pf hP ?_ (by decide) (by with_unfolding_all rfl) (fun _ _ => ?_)) | (refine PIoK_si hP ?_ (fun _ _ => ?_)) | (refine PIoK_sj hP ?_ (fun _ _ => ?_)) | (refine PIoK_sr hP ?_ (fun _ _ => ?_)) | (refine PIoK_cy hP ?_ (fun _ _ => ?_)) | (refine PIoK_bn (fun _ => ?_)) | (refine PIoK_na hP ?_ (fun _ _ => ?_)) | (refine PIoK_no hP ?_ (fun _ _ => ?_)) | (refine PIoK_ite ?_ ?_) | (refine PIoK_some ?_) | (exact PIoK_none) | (refine PIoK_cv (cQoK.c161 hc _ _ _ ?_) (fun _ _ => ?_)) | (refine pioK_oj_X10_countTemplates_159 hP hc  ?_)))
theorem pioK_oj_X10_countTemplates_97  {x0 : Option Nat} {x1 : Option Nat} {σ : oSt} (hP : iKptK P) (hc : cQoK P call)  (h : P σ) : PIo P (oj_X10_countTemplates_97 n call κ  x0 x1 σ) := by
  unfold oj_X10_countTemplates_97
  repeat' (with_reducible (first | assumption | (refine PIoK_gd ?_) | (refine PIoK_pf hP ?_ (by decide) (by with_unfolding_all rfl) (fun _ _ => ?_)) | (refine PIoK_si hP ?_ (fun _ _ => ?_)) | (refine PIoK_sj hP ?_ (fun _ _ => ?_)) | (refine PIoK_sr hP ?_ (fun _ _ => ?_)) | (refine PIoK_cy hP ?_ (fun _ _ => ?_)) | (refine PIoK_bn (fun _ => ?_)) | (refine PIoK_na hP ?_ (fun _ _ => ?_)) | (refine PIoK_no hP ?_ (fun _ _ => ?_)) | (refine PIoK_ite ?_ ?_) | (refine PIoK_some ?_) | (exact PIoK_none) | (refine PIoK_cv (cQoK.c161 hc _ _ _ ?_) (fun _ _ => ?_)) | (refine pioK_oj_X10_countTemplates_144 hP hc  ?_)))
theorem pioK_oj_X10_countTemplates_80  {x0 : Option Nat} {x1 : Option Nat} {σ : oSt} (hP : iKptK P) (hc : cQoK P call)  (h : P σ) : PIo P (oj_X10_countTemplates_80 n call κ  x0 x1 σ) := by
  unfold oj_X10_countTemplates_80
  repeat' (with_reducible (first | assumption | (refine PIoK_gd ?_) | (refine PIoK_pf hP ?_ (by decide) (by with_unfolding_all rfl) (fun _ _ => ?_)) | (refine PIoK_si hP ?_ (fun _ _ => ?_)) | (refine PIoK_sj hP ?_ (fun _ _ => ?_)) | (refine PIoK_sr hP ?_ (fun _ _ => ?_)) | (refine PIoK_cy hP ?_ (fun _ _ => ?_)) | (refine PIoK_bn (fun _ => ?_)) | (refine PIoK_na hP ?_ (fun _ _ => ?_)) | (refine PIoK_no hP ?_ (fun _ _ => ?_)) | (refine PIoK_ite ?_ ?_) | (refine PIoK_some ?_) | (exact PIoK_none) | (refine PIoK_in (cQoK.c160 hc _ _ _ ?_) (fun _ _ _ => ?_)) | (refine pioK_oj_X10_countTemplates_97 hP hc  ?_)))
theorem pioK_oj_X10_countTemplates_30  {x0 : Option Nat} {x1 : Option Nat} {σ : oSt} (hP : iKptK P) (hc : cQoK P call)  (h : P σ) : PIo P (oj_X10_countTemplates_30 n call κ  x0 x1 σ) := by
  unfold oj_X10_countTemplates_30
  repeat' (with_reducible (first | assumption | (refine PIoK_gd ?_) | (refine PIoK_pf hP ?_ (by decide) (by with_unfolding_all rfl) (fun _ _ => ?_)) | (refine PIoK_si hP ?_ (fun _ _ => ?_)) | (refine PIoK_sj hP ?_ (fun _ _ => ?_)) | (refine PIoK_sr hP ?_ (fun _ _ => ?_)) | (refine PIoK_cy hP ?_ (fun _ _ => ?_)) | (refine PIoK_bn (fun _ => ?_)) | (refine PIoK_na hP ?_ (fun _ _ => ?_)) | (refine PIoK_no hP ?_ (fun _ _ => ?_)) | (refine PIoK_ite ?_ ?_) | (refine PIoK_some ?_) | (exact PIoK_none) | (refine pioK_oj_X10_countTemplates_80 hP hc  ?_) | (refine pioK_oj_X10_countTemplates_97 hP hc  ?_)))
theorem pioK_ob_X10_countTemplates  {x0 : Option Nat} {x1 : Option Nat} {σ : oSt} (hP : iKptK P) (hc : cQoK P call)  (h : P σ) : PIo P (ob_X10_countTemplates n call κ  x0 x1 σ) := by
  unfold ob_X10_countTemplates
  repeat' (with_reducible (first | assumption | (refine PIoK_gd ?_) | (refine PIoK_pf hP ?_ (by decide) (by with_unfolding_all rfl) (fun _ _ => ?_)) | (refine PIoK_si hP ?_ (fun _ _ => ?_)) | (refine PIoK_sj hP ?_ (fun _ _ => ?_)) | (refine PIoK_sr hP ?_ (fun _ _ => ?_)) | (refine PIoK_cy hP ?_ (fun _ _ => ?_)) | (refine PIoK_bn (fun _ => ?_)) | (refine PIoK_na hP ?_ (fun _ _ => ?_)) | (refine PIoK_no hP ?_ (fun _ _ => ?_)) | (refine PIoK_ite ?_ ?_) | (refine PIoK_some ?_) | (exact PIoK_none) | (refine PIoK_in (cQoK.c160 hc _ _ _ ?_) (fun _ _ _ => ?_)) | (refine pioK_oj_X10_countTemplates_30 hP hc  ?_)))
theorem pioK_ol_X10_findAll_77  (hP : iKptK P) (hc : cQoK P call)  : ∀ (t : Nat) (x0 : Option Nat) (x1 : Option Nat) (x2 : Int32) (σ : oSt), P σ → PIo P (ol_X10_findAll_77 n call κ  t x0 x1 x2 σ) := by
  intro t
  induction t with
  | zero => intros; exact PIoK_none
  | succ t ih =>
    intro x0 x1 x2 σ h
    rw [ol_X10_findAll_77]
    repeat' (with_reducible (first | assumption | (refine PIoK_gd ?_) | (refine PIoK_pf hP ?_ (by decide) (by with_unfolding_all rfl) (fun _ _ => ?_)) | (refine PIoK_si hP ?_ (fun _ _ => ?_)) | (refine PIoK_sj hP ?_ (fun _ _ => ?_)) | (refine PIoK_sr hP ?_ (fun _ _ => ?_)) | (refine PIoK_cy hP ?_ (fun _ _ => ?_)) | (refine PIoK_bn (fun _ => ?_)) | (refine PIoK_na hP ?_ (fun _ _ => ?_)) | (refine PIoK_no hP ?_ (fun _ _ => ?_)) | (refine PIoK_ite ?_ ?_) | (refine PIoK_some ?_) | (exact PIoK_none) | (refine PIoK_cv (cQoK.c161 hc _ _ _ ?_) (fun _ _ => ?_)) | (refine PIoK_in (cQoK.c22 hc _ _ _ ?_) (fun _ _ _ => ?_)) | (refine PIoK_in (cQoK.c236 hc _ _ ?_) (fun _ _ _ => ?_)) | (refine PIoK_rn (cQoK.c234 hc _ _ _ ?_) (fun _ _ _ => ?_)) | (refine ih _ _ _ _ ?_)))
theorem pioK_oj_X10_findAll_58  {x0 : Option Nat} {x1 : Option Nat} {σ : oSt} (hP : iKptK P) (hc : cQoK P call)  (h : P σ) : PIo P (oj_X10_findAll_58 n call κ  x0 x1 σ) := by
  unfold oj_X10_findAll_58
  repeat' (with_reducible (first | assumption | (refine PIoK_gd ?_) | (refine PIoK_pf hP ?_ (by decide) (by with_unfolding_all rfl) (fun _ _ => ?_)) | (refine PIoK_si hP ?_ (fun _ _ => ?_)) | (refine PIoK_sj hP ?_ (fun _ _ => ?_)) | (refine PIoK_sr hP ?_ (fun _ _ => ?_)) | (refine PIoK_cy hP ?_ (fun _ _ => ?_)) | (refine PIoK_bn (fun _ => ?_)) | (refine PIoK_na hP ?_ (fun _ _ => ?_)) | (refine PIoK_no hP ?_ (fun _ _ => ?_)) | (refine PIoK_ite ?_ ?_) | (refine PIoK_some ?_) | (exact PIoK_none) | (refine PIoK_in (cQoK.c156 hc _ _ _ ?_) (fun _ _ _ => ?_)) | (refine pioK_ol_X10_findAll_77 hP hc  _ _ _ _ _ ?_)))
theorem pioK_ol_X10_findAll_2  (hP : iKptK P) (hc : cQoK P call)  : ∀ (t : Nat) (x0 : Option Nat) (x1 : Option Nat) (x2 : Int32) (σ : oSt), P σ → PIo P (ol_X10_findAll_2 n call κ  t x0 x1 x2 σ) := by
  intro t
  induction t with
  | zero => intros; exact PIoK_none
  | succ t ih =>
    intro x0 x1 x2 σ h
    rw [ol_X10_findAll_2]
    repeat' (with_reducible (first | assumption | (refine PIoK_gd ?_) | (refine PIoK_pf hP ?_ (by decide) (by with_unfolding_all rfl) (fun _ _ => ?_)) | (refine PIoK_si hP ?_ (fun _ _ => ?_)) | (refine PIoK_sj hP ?_ (fun _ _ => ?_)) | (refine PIoK_sr hP ?_ (fun _ _ => ?_)) | (refine PIoK_cy hP ?_ (fun _ _ => ?_)) | (refine PIoK_bn (fun _ => ?_)) | (refine PIoK_na hP ?_ (fun _ _ => ?_)) | (refine PIoK_no hP ?_ (fun _ _ => ?_)) | (refine PIoK_ite ?_ ?_) | (refine PIoK_some ?_) | (exact PIoK_none) | (refine PIoK_in (cQoK.c148 hc _ _ ?_) (fun _ _ _ => ?_)) | (refine PIoK_in (cQoK.c236 hc _ _ ?_) (fun _ _ _ => ?_)) | (refine PIoK_rn (cQoK.c234 hc _ _ _ ?_) (fun _ _ _ => ?_)) | (refine pioK_oj_X10_findAll_58 hP hc  ?_) | (refine ih _ _ _ _ ?_)))
theorem pioK_ob_X10_findAll  {x0 : Option Nat} {x1 : Option Nat} {σ : oSt} (hP : iKptK P) (hc : cQoK P call)  (h : P σ) : PIo P (ob_X10_findAll n call κ  x0 x1 σ) := by
  unfold ob_X10_findAll
  repeat' (with_reducible (first | assumption | (refine PIoK_gd ?_) | (refine PIoK_pf hP ?_ (by decide) (by with_unfolding_all rfl) (fun _ _ => ?_)) | (refine PIoK_si hP ?_ (fun _ _ => ?_)) | (refine PIoK_sj hP ?_ (fun _ _ => ?_)) | (refine PIoK_sr hP ?_ (fun _ _ => ?_)) | (refine PIoK_cy hP ?_ (fun _ _ => ?_)) | (refine PIoK_bn (fun _ => ?_)) | (refine PIoK_na hP ?_ (fun _ _ => ?_)) | (refine PIoK_no hP ?_ (fun _ _ => ?_)) | (refine PIoK_ite ?_ ?_) | (refine PIoK_some ?_) | (exact PIoK_none) | (refine pioK_ol_X10_findAll_2 hP hc  _ _ _ _ _ ?_)))
theorem pioK_ob_X11_isLetter  {x0 : Int32} {σ : oSt} (hP : iKptK P) (hc : cQoK P call)  (h : P σ) : PIo P (ob_X11_isLetter n call κ  x0 σ) := by
  unfold ob_X11_isLetter
  repeat' (with_reducible (first | assumption | (refine PIoK_gd ?_) | (refine PIoK_pf hP ?_ (by decide) (by with_unfolding_all rfl) (fun _ _ => ?_)) | (refine PIoK_si hP ?_ (fun _ _ => ?_)) | (refine PIoK_sj hP ?_ (fun _ _ => ?_)) | (refine PIoK_sr hP ?_ (fun _ _ => ?_)) | (refine PIoK_cy hP ?_ (fun _ _ => ?_)) | (refine PIoK_bn (fun _ => ?_)) | (refine PIoK_na hP ?_ (fun _ _ => ?_)) | (refine PIoK_no hP ?_ (fun _ _ => ?_)) | (refine PIoK_ite ?_ ?_) | (refine PIoK_some ?_) | (exact PIoK_none)))
theorem pioK_ob_X11_isDigit  {x0 : Int32} {σ : oSt} (hP : iKptK P) (hc : cQoK P call)  (h : P σ) : PIo P (ob_X11_isDigit n call κ  x0 σ) := by
  unfold ob_X11_isDigit
  repeat' (with_reducible (first | assumption | (refine PIoK_gd ?_) | (refine PIoK_pf hP ?_ (by decide) (by with_unfolding_all rfl) (fun _ _ => ?_)) | (refine PIoK_si hP ?_ (fun _ _ => ?_)) | (refine PIoK_sj hP ?_ (fun _ _ => ?_)) | (refine PIoK_sr hP ?_ (fun _ _ => ?_)) | (refine PIoK_cy hP ?_ (fun _ _ => ?_)) | (refine PIoK_bn (fun _ => ?_)) | (refine PIoK_na hP ?_ (fun _ _ => ?_)) | (refine PIoK_no hP ?_ (fun _ _ => ?_)) | (refine PIoK_ite ?_ ?_) | (refine PIoK_some ?_) | (exact PIoK_none)))
theorem pioK_oj_X11_continues_24   {σ : oSt} (hP : iKptK P) (hc : cQoK P call)  (h : P σ) : PIo P (oj_X11_continues_24 n call κ   σ) := by
  unfold oj_X11_continues_24
  repeat' (with_reducible (first | assumption | (refine PIoK_gd ?_) | (refine PIoK_pf hP ?_ (by decide) (by with_unfolding_all rfl) (fun _ _ => ?_)) | (refine PIoK_si hP ?_ (fun _ _ => ?_)) | (refine PIoK_sj hP ?_ (fun _ _ => ?_)) | (refine PIoK_sr hP ?_ (fun _ _ => ?_)) | (refine PIoK_cy hP ?_ (fun _ _ => ?_)) | (refine PIoK_bn (fun _ => ?_)) | (refine PIoK_na hP ?_ (fun _ _ => ?_)) | (refine PIoK_no hP ?_ (fun _ _ => ?_)) | (refine PIoK_ite ?_ ?_) | (refine PIoK_some ?_) | (exact PIoK_none)))
theorem pioK_ob_X11_continues  {x0 : Int32} {x1 : Int32} {σ : oSt} (hP : iKptK P) (hc : cQoK P call)  (h : P σ) : PIo P (ob_X11_continues n call κ  x0 x1 σ) := by
  unfold ob_X11_continues
  repeat' (with_reducible (first | assumption | (refine PIoK_gd ?_) | (refine PIoK_pf hP ?_ (by decide) (by with_unfolding_all rfl) (fun _ _ => ?_)) | (refine PIoK_si hP ?_ (fun _ _ => ?_)) | (refine PIoK_sj hP ?_ (fun _ _ => ?_)) | (refine PIoK_sr hP ?_ (fun _ _ => ?_)) | (refine PIoK_cy hP ?_ (fun _ _ => ?_)) | (refine PIoK_bn (fun _ => ?_)) | (refine PIoK_na hP ?_ (fun _ _ => ?_)) | (refine PIoK_no hP ?_ (fun _ _ => ?_)) | (refine PIoK_ite ?_ ?_) | (refine PIoK_some ?_) | (exact PIoK_none) | (refine PIoK_in (cQoK.c163 hc _ _ ?_) (fun _ _ _ => ?_)) | (refine PIoK_in (cQoK.c164 hc _ _ ?_) (fun _ _ _ => ?_)) | (refine pioK_oj_X11_continues_24 hP hc  ?_)))
theorem pioK_ob_X11_doubleSign  {x0 : Option Nat} {x1 : Int32} {σ : oSt} (hP : iKptK P) (hc : cQoK P call)  (h : P σ) : PIo P (ob_X11_doubleSign n call κ  x0 x1 σ) := by
  unfold ob_X11_doubleSign
  repeat' (with_reducible (first | assumption | (refine PIoK_gd ?_) | (refine PIoK_pf hP ?_ (by decide) (by with_unfolding_all rfl) (fun _ _ => ?_)) | (refine PIoK_si hP ?_ (fun _ _ => ?_)) | (refine PIoK_sj hP ?_ (fun _ _ => ?_)) | (refine PIoK_sr hP ?_ (fun _ _ => ?_)) | (refine PIoK_cy hP ?_ (fun _ _ => ?_)) | (refine PIoK_bn (fun _ => ?_)) | (refine PIoK_na hP ?_ (fun _ _ => ?_)) | (refine PIoK_no hP ?_ (fun _ _ => ?_)) | (refine PIoK_ite ?_ ?_) | (refine PIoK_some ?_) | (exact PIoK_none) | (refine PIoK_in (cQoK.c201 hc _ _ _ ?_) (fun _ _ _ => ?_)) | (refine PIoK_in (cQoK.c207 hc _ _ ?_) (fun _ _ _ => ?_))))
theorem pioK_oj_X11_endOfWord_78  {x1 : Int32} {x4 : Int32} {t0 : Int32} {t1 : Int32} {σ : oSt} (hP : iKptK P) (hc : cQoK P call)  (h : P σ) : PIo P (oj_X11_endOfWord_78 n call κ  x1 x4 t0 t1 σ) := by
  unfold oj_X11_endOfWord_78
  repeat' (with_reducible (first | assumption | (refine PIoK_gd ?_) | (refine PIoK_pf hP ?_ (by decide) (by with_unfolding_all rfl) (fun _ _ => ?_)) | (refine PIoK_si hP ?_ (fun _ _ => ?_)) | (refine PIoK_sj hP ?_ (fun _ _ => ?_)) | (refine PIoK_sr hP ?_ (fun _ _ => ?_)) | (refine PIoK_cy hP ?_ (fun _ _ => ?_)) | (refine PIoK_bn (fun _ => ?_)) | (refine PIoK_na hP ?_ (fun _ _ => ?_)) | (refine PIoK_no hP ?_ (fun _ _ => ?_)) | (refine PIoK_ite ?_ ?_) | (refine PIoK_some ?_) | (exact PIoK_none)))
theorem pioK_oj_X11_endOfWord_64  {x1 : Int32} {x3 : Int32} {x4 : Int32} {σ : oSt} (hP : iKptK P) (hc : cQoK P call)  (h : P σ) : PIo P (oj_X11_endOfWord_64 n call κ  x1 x3 x4 σ) := by
  unfold oj_X11_endOfWord_64
  repeat' (with_reducible (first | assumption | (refine PIoK_gd ?_) | (refine PIoK_pf hP ?_ (by decide) (by with_unfolding_all rfl) (fun _ _ => ?_)) | (refine PIoK_si hP ?_ (fun _ _ => ?_)) | (refine PIoK_sj hP ?_ (fun _ _ => ?_)) | (refine PIoK_sr hP ?_ (fun _ _ => ?_)) | (refine PIoK_cy hP ?_ (fun _ _ => ?_)) | (refine PIoK_bn (fun _ => ?_)) | (refine PIoK_na hP ?_ (fun _ _ => ?_)) | (refine PIoK_no hP ?_ (fun _ _ => ?_)) | (refine PIoK_ite ?_ ?_) | (refine PIoK_some ?_) | (exact PIoK_none) | (refine pioK_oj_X11_endOfWord_78 hP hc  ?_)))
theorem pioK_ol_X11_endOfWord_30  (hP : iKptK P) (hc : cQoK P call)  : ∀ (t : Nat) (x0 : Option Nat) (x1 : Int32) (x2 : Int32) (x3 : Int32) (σ : oSt), P σ → PIo P (ol_X11_endOfWord_30 n call κ  t x0 x1 x2 x3 σ) := by
  intro t
  induction t with
  | zero => intros; exact PIoK_none
  | succ t ih =>
    intro x0 x1 x2 x3 σ h
    rw [ol_X11_endOfWord_30]
    repeat' (with_reducible (first | assumption | (refine PIoK_gd ?_) | (refine PIoK_pf hP ?_ (by decide) (by with_unfolding_all rfl) (fun _ _ => ?_)) | (refine PIoK_si hP ?_ (fun _ _ => ?_)) | (refine PIoK_sj hP ?_ (fun _ _ => ?_)) | (refine PIoK_sr hP ?_ (fun _ _ => ?_)) | (refine PIoK_cy hP ?_ (fun _ _ => ?_)) | (refine PIoK_bn (fun _ => ?_)) | (refine PIoK_na hP ?_ (fun _ _ => ?_)) | (refine PIoK_no hP ?_ (fun _ _ => ?_)) | (refine PIoK_ite ?_ ?_) | (refine PIoK_some ?_) | (exact PIoK_none) | (refine PIoK_in (cQoK.c165 hc _ _ _ ?_) (fun _ _ _ => ?_)) | (refine PIoK_in (cQoK.c201 hc _ _ _ ?_) (fun _ _ _ => ?_)) | (refine PIoK_in (cQoK.c207 hc _ _ ?_) (fun _ _ _ => ?_)) | (refine pioK_oj_X11_endOfWord_64 hP hc  ?_) | (refine ih _ _ _ _ _ ?_)))
theorem pioK_oj_X11_endOfWord_25  {x0 : Option Nat} {x1 : Int32} {x3 : Int32} {σ : oSt} (hP : iKptK P) (hc : cQoK P call)  (h : P σ) : PIo P (oj_X11_endOfWord_25 n call κ  x0 x1 x3 σ) := by
  unfold oj_X11_endOfWord_25
  repeat' (with_reducible (first | assumption | (refine PIoK_gd ?_) | (refine PIoK_pf hP ?_ (by decide) (by with_unfolding_all rfl) (fun _ _ => ?_)) | (refine PIoK_si hP ?_ (fun _ _ => ?_)) | (refine PIoK_sj hP ?_ (fun _ _ => ?_)) | (refine PIoK_sr hP ?_ (fun _ _ => ?_)) | (refine PIoK_cy hP ?_ (fun _ _ => ?_)) | (refine PIoK_bn (fun _ => ?_)) | (refine PIoK_na hP ?_ (fun _ _ => ?_)) | (refine PIoK_no hP ?_ (fun _ _ => ?_)) | (refine PIoK_ite ?_ ?_) | (refine PIoK_some ?_) | (exact PIoK_none) | (refine pioK_ol_X11_endOfWord_30 hP hc  _ _ _ _ _ _ ?_)))
theorem pioK_ob_X11_endOfWord  {x0 : Option Nat} {x1 : Int32} {σ : oSt} (hP : iKptK P) (hc : cQoK P call)  (h : P σ) : PIo P (ob_X11_endOfWord n call κ  x0 x1 σ) := by
  unfold ob_X11_endOfWord
  repeat' (with_reducible (first | assumption | (refine PIoK_gd ?_) | (refine PIoK_pf hP ?_ (by decide) (by with_unfolding_all rfl) (fun _ _ => ?_)) | (refine PIoK_si hP ?_ (fun _ _ => ?_)) | (refine PIoK_sj hP ?_ (fun _ _ => ?_)) | (refine PIoK_sr hP ?_ (fun _ _ => ?_)) | (refine PIoK_cy hP ?_ (fun _ _ => ?_)) | (refine PIoK_bn (fun _ => ?_)) | (refine PIoK_na hP ?_ (fun _ _ => ?_)) | (refine PIoK_no hP ?_ (fun _ _ => ?_)) | (refine PIoK_ite ?_ ?_) | (refine PIoK_some ?_) | (exact PIoK_none) | (refine PIoK_in (cQoK.c163 hc _ _ ?_) (fun _ _ _ => ?_)) | (refine PIoK_in (cQoK.c164 hc _ _ ?_) (fun _ _ _ => ?_)) | (refine PIoK_in (cQoK.c166 hc _ _ _ ?_) (fun _ _ _ => ?_)) | (refine PIoK_in (cQoK.c201 hc _ _ _ ?_) (fun _ _ _ => ?_)) | (refine PIoK_in (cQoK.c219 hc _ _ _ ?_) (fun _ _ _ => ?_)) | (refine pioK_oj_X11_endOfWord_25 hP hc  ?_)))
theorem pioK_ol_X11_sameLetters_3  (hP : iKptK P) (hc : cQoK P call)  : ∀ (t : Nat) (x0 : Option Nat) (x1 : Int32) (x2 : Int32) (x3 : Int32) (x4 : Int32) (σ : oSt), P σ → PIo P (ol_X11_sameLetters_3 n call κ  t x0 x1 x2 x3 x4 σ) := by
  intro t
  induction t with
  | zero => intros; exact PIoK_none
  | succ t ih =>
    intro x0 x1 x2 x3 x4 σ h
    rw [ol_X11_sameLetters_3]
    repeat' (with_reducible (first | assumption | (refine PIoK_gd ?_) | (refine PIoK_pf hP ?_ (by decide) (by with_unfolding_all rfl) (fun _ _ => ?_)) | (refine PIoK_si hP ?_ (fun _ _ => ?_)) | (refine PIoK_sj hP ?_ (fun _ _ => ?_)) | (refine PIoK_sr hP ?_ (fun _ _ => ?_)) | (refine PIoK_cy hP ?_ (fun _ _ => ?_)) | (refine PIoK_bn (fun _ => ?_)) | (refine PIoK_na hP ?_ (fun _ _ => ?_)) | (refine PIoK_no hP ?_ (fun _ _ => ?_)) | (refine PIoK_ite ?_ ?_) | (refine PIoK_some ?_) | (exact PIoK_none) | (refine PIoK_in (cQoK.c201 hc _ _ _ ?_) (fun _ _ _ => ?_)) | (refine ih _ _ _ _ _ _ ?_)))
theorem pioK_ob_X11_sameLetters  {x0 : Option Nat} {x1 : Int32} {x2 : Int32} {x3 : Int32} {σ : oSt} (hP : iKptK P) (hc : cQoK P call)  (h : P σ) : PIo P (ob_X11_sameLetters n call κ  x0 x1 x2 x3 σ) := by
  unfold ob_X11_sameLetters
  repeat' (with_reducible (first | assumption | (refine PIoK_gd ?_) | (refine PIoK_pf hP ?_ (by decide) (by with_unfolding_all rfl) (fun _ _ => ?_)) | (refine PIoK_si hP ?_ (fun _ _ => ?_)) | (refine PIoK_sj hP ?_ (fun _ _ => ?_)) | (refine PIoK_sr hP ?_ (fun _ _ => ?_)) | (refine PIoK_cy hP ?_ (fun _ _ => ?_)) | (refine PIoK_bn (fun _ => ?_)) | (refine PIoK_na hP ?_ (fun _ _ => ?_)) | (refine PIoK_no hP ?_ (fun _ _ => ?_)) | (refine PIoK_ite ?_ ?_) | (refine PIoK_some ?_) | (exact PIoK_none) | (refine pioK_ol_X11_sameLetters_3 hP hc  _ _ _ _ _ _ _ ?_)))
theorem pioK_oj_X11_keyword_67 {k10 : Option Nat → Int32 → Int32 → Int32 → Int32 → Int32 → oSt → oRs} {x0 : Option Nat} {x1 : Int32} {x2 : Int32} {x3 : Int32} {x4 : Int32} {x5 : Int32} {σ : oSt} (hP : iKptK P) (hc : cQoK P call) (hk10 : ∀ (a0 : Option Nat) (a1 : Int32) (a2 : Int32) (a3 : Int32) (a4 : Int32) (a5 : Int32), ∀ σ, P σ → PIo P (k10 a0 a1 a2 a3 a4 a5 σ)) (h : P σ) : PIo P (oj_X11_keyword_67 n call κ k10 x0 x1 x2 x3 x4 x5 σ) := by
  unfold oj_X11_keyword_67
  repeat' (with_reducible (first | assumption | (refine PIoK_gd ?_) | (refine PIoK_pf hP ?_ (by decide) (by with_unfolding_all rfl) (fun _ _ => ?_)) | (refine PIoK_si hP ?_ (fun _ _ => ?_)) | (refine PIoK_sj hP ?_ (fun _ _ => ?_)) | (refine PIoK_sr hP ?_ (fun _ _ => ?_)) | (refine PIoK_cy hP ?_ (fun _ _ => ?_)) | (refine PIoK_bn (fun _ => ?_)) | (refine PIoK_na hP ?_ (fun _ _ => ?_)) | (refine PIoK_no hP ?_ (fun _ _ => ?_)) | (refine PIoK_ite ?_ ?_) | (refine PIoK_some ?_) | (exact PIoK_none) | (refine hk10 _ _ _ _ _ _ _ ?_)))
theorem pioK_oj_X11_keyword_58 {k10 : Option Nat → Int32 → Int32 → Int32 → Int32 → Int32 → oSt → oRs} {x0 : Option Nat} {x1 : Int32} {x2 : Int32} {x3 : Int32} {x5 : Int32} {σ : oSt} (hP : iKptK P) (hc : cQoK P call) (hk10 : ∀ (a0 : Option Nat) (a1 : Int32) (a2 : Int32) (a3 : Int32) (a4 : Int32) (a5 : Int32), ∀ σ, P σ → PIo P (k10 a0 a1 a2 a3 a4 a5 σ)) (h : P σ) : PIo P (oj_X11_keyword_58 n call κ k10 x0 x1 x2 x3 x5 σ) := by
  unfold oj_X11_keyword_58
  repeat' (with_reducible (first | assumption | (refine PIoK_gd ?_) | (refine PIoK_pf hP ?_ (by decide) (by with_unfolding_all rfl) (fun _ _ => ?_)) | (refine PIoK_si hP ?_ (fun _ _ => ?_)) | (refine PIoK_sj hP ?_ (fun _ _ => ?_)) | (refine PIoK_sr hP ?_ (fun _ _ => ?_)) | (refine PIoK_cy hP ?_ (fun _ _ => ?_)) | (refine PIoK_bn (fun _ => ?_)) | (refine PIoK_na hP ?_ (fun _ _ => ?_)) | (refine PIoK_no hP ?_ (fun _ _ => ?_)) | (refine PIoK_ite ?_ ?_) | (refine PIoK_some ?_) | (exact PIoK_none) | (refine pioK_oj_X11_keyword_67 hP hc hk10 ?_) | (refine hk10 _ _ _ _ _ _ _ ?_)))
theorem pioK_ol_X11_keyword_10  (hP : iKptK P) (hc : cQoK P call)  : ∀ (t : Nat) (x0 : Option Nat) (x1 : Int32) (x2 : Int32) (x3 : Int32) (x4 : Int32) (x5 : Int32) (σ : oSt), P σ → PIo P (ol_X11_keyword_10 n call κ  t x0 x1 x2 x3 x4 x5 σ) := by
  intro t
  induction t with
  | zero => intros; exact PIoK_none
  | succ t ih =>
    intro x0 x1 x2 x3 x4 x5 σ h
    rw [ol_X11_keyword_10]
    repeat' (with_reducible (first | assumption | (refine PIoK_gd ?_) | (refine PIoK_pf hP ?_ (by decide) (by with_unfolding_all rfl) (fun _ _ => ?_)) | (refine PIoK_si hP ?_ (fun _ _ => ?_)) | (refine PIoK_sj hP ?_ (fun _ _ => ?_)) | (refine PIoK_sr hP ?_ (fun _ _ => ?_)) | (refine PIoK_cy hP ?_ (fun _ _ => ?_)) | (refine PIoK_bn (fun _ => ?_)) | (refine PIoK_na hP ?_ (fun _ _ => ?_)) | (refine PIoK_no hP ?_ (fun _ _ => ?_)) | (refine PIoK_ite ?_ ?_) | (refine PIoK_some ?_) | (exact PIoK_none) | (refine PIoK_in (cQoK.c168 hc _ _ _ _ _ ?_) (fun _ _ _ => ?_)) | (refine PIoK_in (cQoK.c201 hc _ _ _ ?_) (fun _ _ _ => ?_)) | (refine PIoK_in (cQoK.c207 hc _ _ ?_) (fun _ _ _ => ?_)) | (refine pioK_oj_X11_keyword_58 hP hc ih ?_) | (refine pioK_oj_X11_keyword_67 hP hc ih ?_)))
theorem pioK_ob_X11_keyword  {x0 : Option Nat} {x1 : Int32} {x2 : Int32} {σ : oSt} (hP : iKptK P) (hc : cQoK P call)  (h : P σ) : PIo P (ob_X11_keyword n call κ  x0 x1 x2 σ) := by
  unfold ob_X11_keyword
  repeat' (with_reducible (first | assumption | (refine PIoK_gd ?_) | (refine PIoK_pf hP ?_ (by decide) (by with_unfolding_all rfl) (fun _ _ => ?_)) | (refine PIoK_si hP ?_ (fun _ _ => ?_)) | (refine PIoK_sj hP ?_ (fun _ _ => ?_)) | (refine PIoK_sr hP ?_ (fun _ _ => ?_)) | (refine PIoK_cy hP ?_ (fun _ _ => ?_)) | (refine PIoK_bn (fun _ => ?_)) | (refine PIoK_na hP ?_ (fun _ _ => ?_)) | (refine PIoK_no hP ?_ (fun _ _ => ?_)) | (refine PIoK_ite ?_ ?_) | (refine PIoK_some ?_) | (exact PIoK_none) | (refine pioK_ol_X11_keyword_10 hP hc  _ _ _ _ _ _ _ _ ?_)))
theorem pioK_oj_X11_add_99  {x0 : Option Nat} {σ : oSt} (hP : iKptK P) (hc : cQoK P call)  (h : P σ) : PIo P (oj_X11_add_99 n call κ  x0 σ) := by
  unfold oj_X11_add_99
  repeat' (with_reducible (first | assumption | (refine PIoK_gd ?_) | (refine PIoK_pf hP ?_ (by decide) (by with_unfolding_all rfl) (fun _ _ => ?_)) | (refine PIoK_si hP ?_ (fun _ _ => ?_)) | (refine PIoK_sj hP ?_ (fun _ _ => ?_)) | (refine PIoK_sr hP ?_ (fun _ _ => ?_)) | (refine PIoK_cy hP ?_ (fun _ _ => ?_)) | (refine PIoK_bn (fun _ => ?_)) | (refine PIoK_na hP ?_ (fun _ _ => ?_)) | (refine PIoK_no hP ?_ (fun _ _ => ?_)) | (refine PIoK_ite ?_ ?_) | (refine PIoK_some ?_) | (exact PIoK_none)))
theorem pioK_oj_X11_add_98  {x0 : Option Nat} {t0 : Option Nat} {t1 : Int32} {t2 : Int32} {σ : oSt} (hP : iKptK P) (hc : cQoK P call)  (h : P σ) : PIo P (oj_X11_add_98 n call κ  x0 t0 t1 t2 σ) := by
  unfold oj_X11_add_98
  repeat' (with_reducible (first | assumption | (refine PIoK_gd ?_) | (refine PIoK_pf hP ?_ (by decide) (by with_unfolding_all rfl) (fun _ _ => ?_)) | (refine PIoK_si hP ?_ (fun _ _ => ?_)) | (refine PIoK_sj hP ?_ (fun _ _ => ?_)) | (refine PIoK_sr hP ?_ (fun _ _ => ?_)) | (refine PIoK_cy hP ?_ (fun _ _ => ?_)) | (refine PIoK_bn (fun _ => ?_)) | (refine PIoK_na hP ?_ (fun _ _ => ?_)) | (refine PIoK_no hP ?_ (fun _ _ => ?_)) | (refine PIoK_ite ?_ ?_) | (refine PIoK_some ?_) | (exact PIoK_none) | (refine pioK_oj_X11_add_99 hP hc  ?_)))
theorem pioK_ob_X11_add  {x0 : Option Nat} {x1 : Int32} {x2 : Int32} {σ : oSt} (hP : iKptK P) (hc : cQoK P call)  (h : P σ) : PIo P (ob_X11_add n call κ  x0 x1 x2 σ) := by
  unfold ob_X11_add
  repeat' (with_reducible (first | assumption | (refine PIoK_gd ?_) | (refine PIoK_pf hP ?_ (by decide) (by with_unfolding_all rfl) (fun _ _ => ?_)) | (refine PIoK_si hP ?_ (fun _ _ => ?_)) | (refine PIoK_sj hP ?_ (fun _ _ => ?_)) | (refine PIoK_sr hP ?_ (fun _ _ => ?_)) | (refine PIoK_cy hP ?_ (fun _ _ => ?_)) | (refine PIoK_bn (fun _ => ?_)) | (refine PIoK_na hP ?_ (fun _ _ => ?_)) | (refine PIoK_no hP ?_ (fun _ _ => ?_)) | (refine PIoK_ite ?_ ?_) | (refine PIoK_some ?_) | (exact PIoK_none) | (refine PIoK_in (cQoK.c163 hc _ _ ?_) (fun _ _ _ => ?_)) | (refine PIoK_in (cQoK.c164 hc _ _ ?_) (fun _ _ _ => ?_)) | (refine PIoK_in (cQoK.c166 hc _ _ _ ?_) (fun _ _ _ => ?_)) | (refine PIoK_in (cQoK.c169 hc _ _ _ _ ?_) (fun _ _ _ => ?_)) | (refine PIoK_in (cQoK.c201 hc _ _ _ ?_) (fun _ _ _ => ?_)) | (refine pioK_oj_X11_add_98 hP hc  ?_) | (refine pioK_oj_X11_add_99 hP hc  ?_)))
theorem pioK_oj_X11_split_76  {x0 : Option Nat} {σ : oSt} (hP : iKptK P) (hc : cQoK P call)  (h : P σ) : PIo P (oj_X11_split_76 n call κ  x0 σ) := by
  unfold oj_X11_split_76
  repeat' (with_reducible (first | assumption | (refine PIoK_gd ?_) | (refine PIoK_pf hP ?_ (by decide) (by with_unfolding_all rfl) (fun _ _ => ?_)) | (refine PIoK_si hP ?_ (fun _ _ => ?_)) | (refine PIoK_sj hP ?_ (fun _ _ => ?_)) | (refine PIoK_sr hP ?_ (fun _ _ => ?_)) | (refine PIoK_cy hP ?_ (fun _ _ => ?_)) | (refine PIoK_bn (fun _ => ?_)) | (refine PIoK_na hP ?_ (fun _ _ => ?_)) | (refine PIoK_no hP ?_ (fun _ _ => ?_)) | (refine PIoK_ite ?_ ?_) | (refine PIoK_some ?_) | (exact PIoK_none) | (refine PIoK_in (cQoK.c207 hc _ _ ?_) (fun _ _ _ => ?_))))
theorem pioK_oj_X11_split_70 {k2 : Option Nat → Int32 → oSt → oRs} {x0 : Option Nat} {x1 : Int32} {σ : oSt} (hP : iKptK P) (hc : cQoK P call) (hk2 : ∀ (a0 : Option Nat) (a1 : Int32), ∀ σ, P σ → PIo P (k2 a0 a1 σ)) (h : P σ) : PIo P (oj_X11_split_70 n call κ k2 x0 x1 σ) := by
  unfold oj_X11_split_70
  repeat' (with_reducible (first | assumption | (refine PIoK_gd ?_) | (refine PIoK_pf hP ?_ (by decide) (by with_unfolding_all rfl) (fun _ _ => ?_)) | (refine PIoK_si hP ?_ (fun _ _ => ?_)) | (refine PIoK_sj hP ?_ (fun _ _ => ?_)) | (refine PIoK_sr hP ?_ (fun _ _ => ?_)) | (refine PIoK_cy hP ?_ (fun _ _ => ?_)) | (refine PIoK_bn (fun _ => ?_)) | (refine PIoK_na hP ?_ (fun _ _ => ?_)) | (refine PIoK_no hP ?_ (fun _ _ => ?_)) | (refine PIoK_ite ?_ ?_) | (refine PIoK_some ?_) | (exact PIoK_none) | (refine hk2 _ _ _ ?_)))
theorem pioK_ol_X11_split_2  (hP : iKptK P) (hc : cQoK P call)  : ∀ (t : Nat) (x0 : Option Nat) (x1 : Int32) (σ : oSt), P σ → PIo P (ol_X11_split_2 n call κ  t x0 x1 σ) := by
  intro t
  induction t with
  | zero => intros; exact PIoK_none
  | succ t ih =>
    intro x0 x1 σ h
    rw [ol_X11_split_2]
    repeat' (with_reducible (first | assumption | (refine PIoK_gd ?_) | (refine PIoK_pf hP ?_ (by decide) (by with_unfolding_all rfl) (fun _ _ => ?_)) | (refine PIoK_si hP ?_ (fun _ _ => ?_)) | (refine PIoK_sj hP ?_ (fun _ _ => ?_)) | (refine PIoK_sr hP ?_ (fun _ _ => ?_)) | (refine PIoK_cy hP ?_ (fun _ _ => ?_)) | (refine PIoK_bn (fun _ => ?_)) | (refine PIoK_na hP ?_ (fun _ _ => ?_)) | (refine PIoK_no hP ?_ (fun _ _ => ?_)) | (refine PIoK_ite ?_ ?_) | (refine PIoK_some ?_) | (exact PIoK_none) | (refine PIoK_cv (cQoK.c170 hc _ _ _ _ ?_) (fun _ _ => ?_)) | (refine PIoK_in (cQoK.c167 hc _ _ _ ?_) (fun _ _ _ => ?_)) | (refine PIoK_in (cQoK.c201 hc _ _ _ ?_) (fun _ _ _ => ?_)) | (refine PIoK_in (cQoK.c207 hc _ _ ?_) (fun _ _ _ => ?_)) | (refine pioK_oj_X11_split_76 hP hc  ?_) | (refine pioK_oj_X11_split_70 hP hc ih ?_)))
theorem pioK_ob_X11_split  {x0 : Option Nat} {σ : oSt} (hP : iKptK P) (hc : cQoK P call)  (h : P σ) : PIo P (ob_X11_split n call κ  x0 σ) := by
  unfold ob_X11_split
  repeat' (with_reducible (first | assumption | (refine PIoK_gd ?_) | (refine PIoK_pf hP ?_ (by decide) (by with_unfolding_all rfl) (fun _ _ => ?_)) | (refine PIoK_si hP ?_ (fun _ _ => ?_)) | (refine PIoK_sj hP ?_ (fun _ _ => ?_)) | (refine PIoK_sr hP ?_ (fun _ _ => ?_)) | (refine PIoK_cy hP ?_ (fun _ _ => ?_)) | (refine PIoK_bn (fun _ => ?_)) | (refine PIoK_na hP ?_ (fun _ _ => ?_)) | (refine PIoK_no hP ?_ (fun _ _ => ?_)) | (refine PIoK_ite ?_ ?_) | (refine PIoK_some ?_) | (exact PIoK_none) | (refine pioK_ol_X11_split_2 hP hc  _ _ _ _ ?_)))
theorem pioK_ob_X11_init  {x0 : Option Nat} {x1 : Option Nat} {σ : oSt} (hP : iKptK P) (hc : cQoK P call)  (h : P σ) : PIo P (ob_X11_init n call κ  x0 x1 σ) := by
  unfold ob_X11_init
  repeat' (with_reducible (first | assumption | (refine PIoK_gd ?_) | (refine PIoK_pf hP ?_ (by decide) (by with_unfolding_all rfl) (fun _ _ => ?_)) | (refine PIoK_si hP ?_ (fun _ _ => ?_)) | (refine PIoK_sj hP ?_ (fun _ _ => ?_)) | (refine PIoK_sr hP ?_ (fun _ _ => ?_)) | (refine PIoK_cy hP ?_ (fun _ _ => ?_)) | (refine PIoK_bn (fun _ => ?_)) | (refine PIoK_na hP ?_ (fun _ _ => ?_)) | (refine PIoK_no hP ?_ (fun _ _ => ?_)) | (refine PIoK_ite ?_ ?_) | (refine PIoK_some ?_) | (exact PIoK_none) | (refine PIoK_cv (cQoK.c171 hc _ _ ?_) (fun _ _ => ?_)) | (refine PIoK_in (cQoK.c207 hc _ _ ?_) (fun _ _ _ => ?_))))
theorem pioK_ob_X12_fault  {x0 : Option Nat} {x1 : Int32} {x2 : Int32} {σ : oSt} (hP : iKptK P) (hc : cQoK P call)  (h : P σ) : PIo P (ob_X12_fault n call κ  x0 x1 x2 σ) := by
  unfold ob_X12_fault
  repeat' (with_reducible (first | assumption | (refine PIoK_gd ?_) | (refine PIoK_pf hP ?_ (by decide) (by with_unfolding_all rfl) (fun _ _ => ?_)) | (refine PIoK_si hP ?_ (fun _ _ => ?_)) | (refine PIoK_sj hP ?_ (fun _ _ => ?_)) | (refine PIoK_sr hP ?_ (fun _ _ => ?_)) | (refine PIoK_cy hP ?_ (fun _ _ => ?_)) | (refine PIoK_bn (fun _ => ?_)) | (refine PIoK_na hP ?_ (fun _ _ => ?_)) | (refine PIoK_no hP ?_ (fun _ _ => ?_)) | (refine PIoK_ite ?_ ?_) | (refine PIoK_some ?_) | (exact PIoK_none)))
theorem pioK_ol_X12_compile_9  (hP : iKptK P) (hc : cQoK P call)  : ∀ (t : Nat) (x0 : Option Nat) (x1 : Option Nat) (x2 : Int32) (σ : oSt), P σ → PIo P (ol_X12_compile_9 n call κ  t x0 x1 x2 σ) := by
  intro t
  induction t with
  | zero => intros; exact PIoK_none
  | succ t ih =>
    intro x0 x1 x2 σ h
    rw [ol_X12_compile_9]
    repeat' (with_reducible (first | assumption | (refine PIoK_gd ?_) | (refine PIoK_pf hP ?_ (by decide) (by with_unfolding_all rfl) (fun _ _ => ?_)) | (refine PIoK_si hP ?_ (fun _ _ => ?_)) | (refine PIoK_sj hP ?_ (fun _ _ => ?_)) | (refine PIoK_sr hP ?_ (fun _ _ => ?_)) | (refine PIoK_cy hP ?_ (fun _ _ => ?_)) | (refine PIoK_bn (fun _ => ?_)) | (refine PIoK_na hP ?_ (fun _ _ => ?_)) | (refine PIoK_no hP ?_ (fun _ _ => ?_)) | (refine PIoK_ite ?_ ?_) | (refine PIoK_some ?_) | (exact PIoK_none) | (refine PIoK_cv (cQoK.c72 hc _ _ ?_) (fun _ _ => ?_)) | (refine PIoK_cv (cQoK.c73 hc _ _ _ _ ?_) (fun _ _ => ?_)) | (refine PIoK_cv (cQoK.c103 hc _ _ _ ?_) (fun _ _ => ?_)) | (refine PIoK_cv (cQoK.c122 hc _ _ _ ?_) (fun _ _ => ?_)) | (refine PIoK_cv (cQoK.c145 hc _ _ ?_) (fun _ _ => ?_)) | (refine PIoK_cv (cQoK.c147 hc _ _ _ ?_) (fun _ _ => ?_)) | (refine PIoK_cv (cQoK.c162 hc _ _ _ ?_) (fun _ _ => ?_)) | (refine PIoK_cv (cQoK.c172 hc _ _ _ ?_) (fun _ _ => ?_)) | (refine PIoK_cv (cQoK.c196 hc _ _ _ ?_) (fun _ _ => ?_)) | (refine PIoK_in (cQoK.c22 hc _ _ _ ?_) (fun _ _ _ => ?_)) | (refine PIoK_in (cQoK.c177 hc _ _ _ _ ?_) (fun _ _ _ => ?_)) | (refine ih _ _ _ _ ?_)))
theorem pioK_ob_X12_compile  {x0 : Option Nat} {σ : oSt} (hP : iKptK P) (hc : cQoK P call)  (h : P σ) : PIo P (ob_X12_compile n call κ  x0 σ) := by
  unfold ob_X12_compile
  repeat' (with_reducible (first | assumption | (refine PIoK_gd ?_) | (refine PIoK_pf hP ?_ (by decide) (by with_unfolding_all rfl) (fun _ _ => ?_)) | (refine PIoK_si hP ?_ (fun _ _ => ?_)) | (refine PIoK_sj hP ?_ (fun _ _ => ?_)) | (refine PIoK_sr hP ?_ (fun _ _ => ?_)) | (refine PIoK_cy hP ?_ (fun _ _ => ?_)) | (refine PIoK_bn (fun _ => ?_)) | (refine PIoK_na hP ?_ (fun _ _ => ?_)) | (refine PIoK_no hP ?_ (fun _ _ => ?_)) | (refine PIoK_ite ?_ ?_) | (refine PIoK_some ?_) | (exact PIoK_none) | (refine pioK_ol_X12_compile_9 hP hc  _ _ _ _ _ ?_)))
theorem pioK_ob_J0_init_905df  {x0 : Option Nat} {x1 : Option Nat} {σ : oSt} (hP : iKptK P) (hc : cQoK P call)  (h : P σ) : PIo P (ob_J0_init_905df n call κ  x0 x1 σ) := by
  unfold ob_J0_init_905df
  repeat' (with_reducible (first | assumption | (refine PIoK_gd ?_) | (refine PIoK_pf hP ?_ (by decide) (by with_unfolding_all rfl) (fun _ _ => ?_)) | (refine PIoK_si hP ?_ (fun _ _ => ?_)) | (refine PIoK_sj hP ?_ (fun _ _ => ?_)) | (refine PIoK_sr hP ?_ (fun _ _ => ?_)) | (refine PIoK_cy hP ?_ (fun _ _ => ?_)) | (refine PIoK_bn (fun _ => ?_)) | (refine PIoK_na hP ?_ (fun _ _ => ?_)) | (refine PIoK_no hP ?_ (fun _ _ => ?_)) | (refine PIoK_ite ?_ ?_) | (refine PIoK_some ?_) | (exact PIoK_none) | (refine PIoK_cv (cQoK.c197 hc _ _ _ _ _ _ ?_) (fun _ _ => ?_))))
theorem pioK_ob_J0_init_bb550  {x0 : Option Nat} {x1 : Option Nat} {x2 : Int32} {x3 : Int32} {x4 : Option Nat} {σ : oSt} (hP : iKptK P) (hc : cQoK P call)  (h : P σ) : PIo P (ob_J0_init_bb550 n call κ  x0 x1 x2 x3 x4 σ) := by
  unfold ob_J0_init_bb550
  repeat' (with_reducible (first | assumption | (refine PIoK_gd ?_) | (refine PIoK_pf hP ?_ (by decide) (by with_unfolding_all rfl) (fun _ _ => ?_)) | (refine PIoK_si hP ?_ (fun _ _ => ?_)) | (refine PIoK_sj hP ?_ (fun _ _ => ?_)) | (refine PIoK_sr hP ?_ (fun _ _ => ?_)) | (refine PIoK_cy hP ?_ (fun _ _ => ?_)) | (refine PIoK_bn (fun _ => ?_)) | (refine PIoK_na hP ?_ (fun _ _ => ?_)) | (refine PIoK_no hP ?_ (fun _ _ => ?_)) | (refine PIoK_ite ?_ ?_) | (refine PIoK_some ?_) | (exact PIoK_none) | (refine PIoK_in (cQoK.c200 hc _ _ _ ?_) (fun _ _ _ => ?_)) | (refine PIoK_rn (cQoK.c198 hc _ _ _ _ ?_) (fun _ _ _ => ?_))))
theorem pioK_ob_J2_compress_dfd3c  {x0 : Option Nat} {x1 : Int32} {x2 : Int32} {σ : oSt} (hP : iKptK P) (hc : cQoK P call)  (h : P σ) : PIo P (ob_J2_compress_dfd3c n call κ  x0 x1 x2 σ) := by
  unfold ob_J2_compress_dfd3c
  repeat' (with_reducible (first | assumption | (refine PIoK_gd ?_) | (refine PIoK_pf hP ?_ (by decide) (by with_unfolding_all rfl) (fun _ _ => ?_)) | (refine PIoK_si hP ?_ (fun _ _ => ?_)) | (refine PIoK_sj hP ?_ (fun _ _ => ?_)) | (refine PIoK_sr hP ?_ (fun _ _ => ?_)) | (refine PIoK_cy hP ?_ (fun _ _ => ?_)) | (refine PIoK_bn (fun _ => ?_)) | (refine PIoK_na hP ?_ (fun _ _ => ?_)) | (refine PIoK_no hP ?_ (fun _ _ => ?_)) | (refine PIoK_ite ?_ ?_) | (refine PIoK_some ?_) | (exact PIoK_none) | (refine PIoK_in (cQoK.c199 hc _ _ _ _ _ _ ?_) (fun _ _ _ => ?_))))
theorem pioK_ol_J2_compress_fe38e_3  (hP : iKptK P) (hc : cQoK P call)  : ∀ (t : Nat) (x0 : Option Nat) (x1 : Int32) (x2 : Option Nat) (x3 : Int32) (x4 : Int32) (x5 : Int32) (σ : oSt), P σ → PIo P (ol_J2_compress_fe38e_3 n call κ  t x0 x1 x2 x3 x4 x5 σ) := by
  intro t
  induction t with
  | zero => intros; exact PIoK_none
  | succ t ih =>
    intro x0 x1 x2 x3 x4 x5 σ h
    rw [ol_J2_compress_fe38e_3]
    repeat' (with_reducible (first | assumption | (refine PIoK_gd ?_) | (refine PIoK_pf hP ?_ (by decide) (by with_unfolding_all rfl) (fun _ _ => ?_)) | (refine PIoK_si hP ?_ (fun _ _ => ?_)) | (refine PIoK_sj hP ?_ (fun _ _ => ?_)) | (refine PIoK_sr hP ?_ (fun _ _ => ?_)) | (refine PIoK_cy hP ?_ (fun _ _ => ?_)) | (refine PIoK_bn (fun _ => ?_)) | (refine PIoK_na hP ?_ (fun _ _ => ?_)) | (refine PIoK_no hP ?_ (fun _ _ => ?_)) | (refine PIoK_ite ?_ ?_) | (refine PIoK_some ?_) | (exact PIoK_none) | (refine ih _ _ _ _ _ _ _ ?_)))
theorem pioK_ob_J2_compress_fe38e  {x0 : Option Nat} {x1 : Int32} {x2 : Option Nat} {x3 : Int32} {x4 : Int32} {σ : oSt} (hP : iKptK P) (hc : cQoK P call)  (h : P σ) : PIo P (ob_J2_compress_fe38e n call κ  x0 x1 x2 x3 x4 σ) := by
  unfold ob_J2_compress_fe38e
  repeat' (with_reducible (first | assumption | (refine PIoK_gd ?_) | (refine PIoK_pf hP ?_ (by decide) (by with_unfolding_all rfl) (fun _ _ => ?_)) | (refine PIoK_si hP ?_ (fun _ _ => ?_)) | (refine PIoK_sj hP ?_ (fun _ _ => ?_)) | (refine PIoK_sr hP ?_ (fun _ _ => ?_)) | (refine PIoK_cy hP ?_ (fun _ _ => ?_)) | (refine PIoK_bn (fun _ => ?_)) | (refine PIoK_na hP ?_ (fun _ _ => ?_)) | (refine PIoK_no hP ?_ (fun _ _ => ?_)) | (refine PIoK_ite ?_ ?_) | (refine PIoK_some ?_) | (exact PIoK_none) | (refine pioK_ol_J2_compress_fe38e_3 hP hc  _ _ _ _ _ _ _ _ ?_)))
theorem pioK_ob_J2_coderFromArrayLen_85cad  {x0 : Option Nat} {x1 : Int32} {σ : oSt} (hP : iKptK P) (hc : cQoK P call)  (h : P σ) : PIo P (ob_J2_coderFromArrayLen_85cad n call κ  x0 x1 σ) := by
  unfold ob_J2_coderFromArrayLen_85cad
  repeat' (with_reducible (first | assumption | (refine PIoK_gd ?_) | (refine PIoK_pf hP ?_ (by decide) (by with_unfolding_all rfl) (fun _ _ => ?_)) | (refine PIoK_si hP ?_ (fun _ _ => ?_)) | (refine PIoK_sj hP ?_ (fun _ _ => ?_)) | (refine PIoK_sr hP ?_ (fun _ _ => ?_)) | (refine PIoK_cy hP ?_ (fun _ _ => ?_)) | (refine PIoK_bn (fun _ => ?_)) | (refine PIoK_na hP ?_ (fun _ _ => ?_)) | (refine PIoK_no hP ?_ (fun _ _ => ?_)) | (refine PIoK_ite ?_ ?_) | (refine PIoK_some ?_) | (exact PIoK_none)))
theorem pioK_ob_J0_charAt_5068e  {x0 : Option Nat} {x1 : Int32} {σ : oSt} (hP : iKptK P) (hc : cQoK P call)  (h : P σ) : PIo P (ob_J0_charAt_5068e n call κ  x0 x1 σ) := by
  unfold ob_J0_charAt_5068e
  repeat' (with_reducible (first | assumption | (refine PIoK_gd ?_) | (refine PIoK_pf hP ?_ (by decide) (by with_unfolding_all rfl) (fun _ _ => ?_)) | (refine PIoK_si hP ?_ (fun _ _ => ?_)) | (refine PIoK_sj hP ?_ (fun _ _ => ?_)) | (refine PIoK_sr hP ?_ (fun _ _ => ?_)) | (refine PIoK_cy hP ?_ (fun _ _ => ?_)) | (refine PIoK_bn (fun _ => ?_)) | (refine PIoK_na hP ?_ (fun _ _ => ?_)) | (refine PIoK_no hP ?_ (fun _ _ => ?_)) | (refine PIoK_ite ?_ ?_) | (refine PIoK_some ?_) | (exact PIoK_none) | (refine PIoK_in (cQoK.c202 hc _ _ ?_) (fun _ _ _ => ?_)) | (refine PIoK_in (cQoK.c203 hc _ _ _ ?_) (fun _ _ _ => ?_))))
theorem pioK_ob_J0_isLatin1_aae02  {x0 : Option Nat} {σ : oSt} (hP : iKptK P) (hc : cQoK P call)  (h : P σ) : PIo P (ob_J0_isLatin1_aae02 n call κ  x0 σ) := by
  unfold ob_J0_isLatin1_aae02
  repeat' (with_reducible (first | assumption | (refine PIoK_gd ?_) | (refine PIoK_pf hP ?_ (by decide) (by with_unfolding_all rfl) (fun _ _ => ?_)) | (refine PIoK_si hP ?_ (fun _ _ => ?_)) | (refine PIoK_sj hP ?_ (fun _ _ => ?_)) | (refine PIoK_sr hP ?_ (fun _ _ => ?_)) | (refine PIoK_cy hP ?_ (fun _ _ => ?_)) | (refine PIoK_bn (fun _ => ?_)) | (refine PIoK_na hP ?_ (fun _ _ => ?_)) | (refine PIoK_no hP ?_ (fun _ _ => ?_)) | (refine PIoK_ite ?_ ?_) | (refine PIoK_some ?_) | (exact PIoK_none)))
theorem pioK_ob_J1_charAt_3b067  {x0 : Option Nat} {x1 : Int32} {σ : oSt} (hP : iKptK P) (hc : cQoK P call)  (h : P σ) : PIo P (ob_J1_charAt_3b067 n call κ  x0 x1 σ) := by
  unfold ob_J1_charAt_3b067
  repeat' (with_reducible (first | assumption | (refine PIoK_gd ?_) | (refine PIoK_pf hP ?_ (by decide) (by with_unfolding_all rfl) (fun _ _ => ?_)) | (refine PIoK_si hP ?_ (fun _ _ => ?_)) | (refine PIoK_sj hP ?_ (fun _ _ => ?_)) | (refine PIoK_sr hP ?_ (fun _ _ => ?_)) | (refine PIoK_cy hP ?_ (fun _ _ => ?_)) | (refine PIoK_bn (fun _ => ?_)) | (refine PIoK_na hP ?_ (fun _ _ => ?_)) | (refine PIoK_no hP ?_ (fun _ _ => ?_)) | (refine PIoK_ite ?_ ?_) | (refine PIoK_some ?_) | (exact PIoK_none) | (refine PIoK_cv (cQoK.c204 hc _ _ _ ?_) (fun _ _ => ?_))))
theorem pioK_ob_J0_checkIndex_df160  {x0 : Int32} {x1 : Int32} {σ : oSt} (hP : iKptK P) (hc : cQoK P call)  (h : P σ) : PIo P (ob_J0_checkIndex_df160 n call κ  x0 x1 σ) := by
  unfold ob_J0_checkIndex_df160
  repeat' (with_reducible (first | assumption | (refine PIoK_gd ?_) | (refine PIoK_pf hP ?_ (by decide) (by with_unfolding_all rfl) (fun _ _ => ?_)) | (refine PIoK_si hP ?_ (fun _ _ => ?_)) | (refine PIoK_sj hP ?_ (fun _ _ => ?_)) | (refine PIoK_sr hP ?_ (fun _ _ => ?_)) | (refine PIoK_cy hP ?_ (fun _ _ => ?_)) | (refine PIoK_bn (fun _ => ?_)) | (refine PIoK_na hP ?_ (fun _ _ => ?_)) | (refine PIoK_no hP ?_ (fun _ _ => ?_)) | (refine PIoK_ite ?_ ?_) | (refine PIoK_some ?_) | (exact PIoK_none) | (refine PIoK_in (cQoK.c206 hc _ _ _ _ ?_) (fun _ _ _ => ?_))))
theorem pioK_ob_J15_checkIndex_7cf53  {x0 : Int32} {x1 : Int32} {σ : oSt} (hP : iKptK P) (hc : cQoK P call)  (h : P σ) : PIo P (ob_J15_checkIndex_7cf53 n call κ  x0 x1 σ) := by
  unfold ob_J15_checkIndex_7cf53
  repeat' (with_reducible (first | assumption | (refine PIoK_gd ?_) | (refine PIoK_pf hP ?_ (by decide) (by with_unfolding_all rfl) (fun _ _ => ?_)) | (refine PIoK_si hP ?_ (fun _ _ => ?_)) | (refine PIoK_sj hP ?_ (fun _ _ => ?_)) | (refine PIoK_sr hP ?_ (fun _ _ => ?_)) | (refine PIoK_cy hP ?_ (fun _ _ => ?_)) | (refine PIoK_bn (fun _ => ?_)) | (refine PIoK_na hP ?_ (fun _ _ => ?_)) | (refine PIoK_no hP ?_ (fun _ _ => ?_)) | (refine PIoK_ite ?_ ?_) | (refine PIoK_some ?_) | (exact PIoK_none) | (refine PIoK_in (cQoK.c206 hc _ _ _ _ ?_) (fun _ _ _ => ?_))))
theorem pioK_oj_J3_checkIndex_8e157_9  {x0 : Int32} {x1 : Int32} {x2 : Option Nat} {σ : oSt} (hP : iKptK P) (hc : cQoK P call)  (h : P σ) : PIo P (oj_J3_checkIndex_8e157_9 n call κ  x0 x1 x2 σ) := by
  unfold oj_J3_checkIndex_8e157_9
  repeat' (with_reducible (first | assumption | (refine PIoK_gd ?_) | (refine PIoK_pf hP ?_ (by decide) (by with_unfolding_all rfl) (fun _ _ => ?_)) | (refine PIoK_si hP ?_ (fun _ _ => ?_)) | (refine PIoK_sj hP ?_ (fun _ _ => ?_)) | (refine PIoK_sr hP ?_ (fun _ _ => ?_)) | (refine PIoK_cy hP ?_ (fun _ _ => ?_)) | (refine PIoK_bn (fun _ => ?_)) | (refine PIoK_na hP ?_ (fun _ _ => ?_)) | (refine PIoK_no hP ?_ (fun _ _ => ?_)) | (refine PIoK_ite ?_ ?_) | (refine PIoK_some ?_) | (exact PIoK_none)))
theorem pioK_ob_J3_checkIndex_8e157  {x0 : Int32} {x1 : Int32} {x2 : Option Nat} {σ : oSt} (hP : iKptK P) (hc : cQoK P call)  (h : P σ) : PIo P (ob_J3_checkIndex_8e157 n call κ  x0 x1 x2 σ) := by
  unfold ob_J3_checkIndex_8e157
  repeat' (with_reducible (first | assumption | (refine PIoK_gd ?_) | (refine PIoK_pf hP ?_ (by decide) (by with_unfolding_all rfl) (fun _ _ => ?_)) | (refine PIoK_si hP ?_ (fun _ _ => ?_)) | (refine PIoK_sj hP ?_ (fun _ _ => ?_)) | (refine PIoK_sr hP ?_ (fun _ _ => ?_)) | (refine PIoK_cy hP ?_ (fun _ _ => ?_)) | (refine PIoK_bn (fun _ => ?_)) | (refine PIoK_na hP ?_ (fun _ _ => ?_)) | (refine PIoK_no hP ?_ (fun _ _ => ?_)) | (refine PIoK_ite ?_ ?_) | (refine PIoK_some ?_) | (exact PIoK_none) | (refine pioK_oj_J3_checkIndex_8e157_9 hP hc  ?_)))
theorem pioK_ob_J0_length_8abf5  {x0 : Option Nat} {σ : oSt} (hP : iKptK P) (hc : cQoK P call)  (h : P σ) : PIo P (ob_J0_length_8abf5 n call κ  x0 σ) := by
  unfold ob_J0_length_8abf5
  repeat' (with_reducible (first | assumption | (refine PIoK_gd ?_) | (refine PIoK_pf hP ?_ (by decide) (by with_unfolding_all rfl) (fun _ _ => ?_)) | (refine PIoK_si hP ?_ (fun _ _ => ?_)) | (refine PIoK_sj hP ?_ (fun _ _ => ?_)) | (refine PIoK_sr hP ?_ (fun _ _ => ?_)) | (refine PIoK_cy hP ?_ (fun _ _ => ?_)) | (refine PIoK_bn (fun _ => ?_)) | (refine PIoK_na hP ?_ (fun _ _ => ?_)) | (refine PIoK_no hP ?_ (fun _ _ => ?_)) | (refine PIoK_ite ?_ ?_) | (refine PIoK_some ?_) | (exact PIoK_none) | (refine PIoK_in (cQoK.c208 hc _ _ ?_) (fun _ _ _ => ?_))))
theorem pioK_ob_J0_coder_7d493  {x0 : Option Nat} {σ : oSt} (hP : iKptK P) (hc : cQoK P call)  (h : P σ) : PIo P (ob_J0_coder_7d493 n call κ  x0 σ) := by
  unfold ob_J0_coder_7d493
  repeat' (with_reducible (first | assumption | (refine PIoK_gd ?_) | (refine PIoK_pf hP ?_ (by decide) (by with_unfolding_all rfl) (fun _ _ => ?_)) | (refine PIoK_si hP ?_ (fun _ _ => ?_)) | (refine PIoK_sj hP ?_ (fun _ _ => ?_)) | (refine PIoK_sr hP ?_ (fun _ _ => ?_)) | (refine PIoK_cy hP ?_ (fun _ _ => ?_)) | (refine PIoK_bn (fun _ => ?_)) | (refine PIoK_na hP ?_ (fun _ _ => ?_)) | (refine PIoK_no hP ?_ (fun _ _ => ?_)) | (refine PIoK_ite ?_ ?_) | (refine PIoK_some ?_) | (exact PIoK_none)))
theorem pioK_oj_J0_substring_37a41_22  {x0 : Option Nat} {x1 : Int32} {x2 : Int32} {σ : oSt} (hP : iKptK P) (hc : cQoK P call)  (h : P σ) : PIo P (oj_J0_substring_37a41_22 n call κ  x0 x1 x2 σ) := by
  unfold oj_J0_substring_37a41_22
  repeat' (with_reducible (first | assumption | (refine PIoK_gd ?_) | (refine PIoK_pf hP ?_ (by decide) (by with_unfolding_all rfl) (fun _ _ => ?_)) | (refine PIoK_si hP ?_ (fun _ _ => ?_)) | (refine PIoK_sj hP ?_ (fun _ _ => ?_)) | (refine PIoK_sr hP ?_ (fun _ _ => ?_)) | (refine PIoK_cy hP ?_ (fun _ _ => ?_)) | (refine PIoK_bn (fun _ => ?_)) | (refine PIoK_na hP ?_ (fun _ _ => ?_)) | (refine PIoK_no hP ?_ (fun _ _ => ?_)) | (refine PIoK_ite ?_ ?_) | (refine PIoK_some ?_) | (exact PIoK_none) | (refine PIoK_in (cQoK.c202 hc _ _ ?_) (fun _ _ _ => ?_)) | (refine PIoK_rn (cQoK.c212 hc _ _ _ _ ?_) (fun _ _ _ => ?_))))
theorem pioK_ob_J0_substring_37a41  {x0 : Option Nat} {x1 : Int32} {x2 : Int32} {σ : oSt} (hP : iKptK P) (hc : cQoK P call)  (h : P σ) : PIo P (ob_J0_substring_37a41 n call κ  x0 x1 x2 σ) := by
  unfold ob_J0_substring_37a41
  repeat' (with_reducible (first | assumption | (refine PIoK_gd ?_) | (refine PIoK_pf hP ?_ (by decide) (by with_unfolding_all rfl) (fun _ _ => ?_)) | (refine PIoK_si hP ?_ (fun _ _ => ?_)) | (refine PIoK_sj hP ?_ (fun _ _ => ?_)) | (refine PIoK_sr hP ?_ (fun _ _ => ?_)) | (refine PIoK_cy hP ?_ (fun _ _ => ?_)) | (refine PIoK_bn (fun _ => ?_)) | (refine PIoK_na hP ?_ (fun _ _ => ?_)) | (refine PIoK_no hP ?_ (fun _ _ => ?_)) | (refine PIoK_ite ?_ ?_) | (refine PIoK_some ?_) | (exact PIoK_none) | (refine PIoK_cv (cQoK.c210 hc _ _ _ _ ?_) (fun _ _ => ?_)) | (refine PIoK_in (cQoK.c207 hc _ _ ?_) (fun _ _ _ => ?_)) | (refine pioK_oj_J0_substring_37a41_22 hP hc  ?_)))
theorem pioK_ob_J0_checkBoundsBeginEnd_23922  {x0 : Int32} {x1 : Int32} {x2 : Int32} {σ : oSt} (hP : iKptK P) (hc : cQoK P call)  (h : P σ) : PIo P (ob_J0_checkBoundsBeginEnd_23922 n call κ  x0 x1 x2 σ) := by
  unfold ob_J0_checkBoundsBeginEnd_23922
  repeat' (with_reducible (first | assumption | (refine PIoK_gd ?_) | (refine PIoK_pf hP ?_ (by decide) (by with_unfolding_all rfl) (fun _ _ => ?_)) | (refine PIoK_si hP ?_ (fun _ _ => ?_)) | (refine PIoK_sj hP ?_ (fun _ _ => ?_)) | (refine PIoK_sr hP ?_ (fun _ _ => ?_)) | (refine PIoK_cy hP ?_ (fun _ _ => ?_)) | (refine PIoK_bn (fun _ => ?_)) | (refine PIoK_na hP ?_ (fun _ _ => ?_)) | (refine PIoK_no hP ?_ (fun _ _ => ?_)) | (refine PIoK_ite ?_ ?_) | (refine PIoK_some ?_) | (exact PIoK_none) | (refine PIoK_in (cQoK.c211 hc _ _ _ _ _ ?_) (fun _ _ _ => ?_))))
theorem pioK_oj_J3_checkFromToIndex_8c36e_14  {x0 : Int32} {x1 : Int32} {x2 : Int32} {x3 : Option Nat} {σ : oSt} (hP : iKptK P) (hc : cQoK P call)  (h : P σ) : PIo P (oj_J3_checkFromToIndex_8c36e_14 n call κ  x0 x1 x2 x3 σ) := by
  unfold oj_J3_checkFromToIndex_8c36e_14
  repeat' (with_reducible (first | assumption | (refine PIoK_gd ?_) | (refine PIoK_pf hP ?_ (by decide) (by with_unfolding_all rfl) (fun _ _ => ?_)) | (refine PIoK_si hP ?_ (fun _ _ => ?_)) | (refine PIoK_sj hP ?_ (fun _ _ => ?_)) | (refine PIoK_sr hP ?_ (fun _ _ => ?_)) | (refine PIoK_cy hP ?_ (fun _ _ => ?_)) | (refine PIoK_bn (fun _ => ?_)) | (refine PIoK_na hP ?_ (fun _ _ => ?_)) | (refine PIoK_no hP ?_ (fun _ _ => ?_)) | (refine PIoK_ite ?_ ?_) | (refine PIoK_some ?_) | (exact PIoK_none)))
theorem pioK_ob_J3_checkFromToIndex_8c36e  {x0 : Int32} {x1 : Int32} {x2 : Int32} {x3 : Option Nat} {σ : oSt} (hP : iKptK P) (hc : cQoK P call)  (h : P σ) : PIo P (ob_J3_checkFromToIndex_8c36e n call κ  x0 x1 x2 x3 σ) := by
  unfold ob_J3_checkFromToIndex_8c36e
  repeat' (with_reducible (first | assumption | (refine PIoK_gd ?_) | (refine PIoK_pf hP ?_ (by decide) (by with_unfolding_all rfl) (fun _ _ => ?_)) | (refine PIoK_si hP ?_ (fun _ _ => ?_)) | (refine PIoK_sj hP ?_ (fun _ _ => ?_)) | (refine PIoK_sr hP ?_ (fun _ _ => ?_)) | (refine PIoK_cy hP ?_ (fun _ _ => ?_)) | (refine PIoK_bn (fun _ => ?_)) | (refine PIoK_na hP ?_ (fun _ _ => ?_)) | (refine PIoK_no hP ?_ (fun _ _ => ?_)) | (refine PIoK_ite ?_ ?_) | (refine PIoK_some ?_) | (exact PIoK_none) | (refine pioK_oj_J3_checkFromToIndex_8c36e_14 hP hc  ?_)))
theorem pioK_ob_J1_newString_b4f7a  {x0 : Option Nat} {x1 : Int32} {x2 : Int32} {σ : oSt} (hP : iKptK P) (hc : cQoK P call)  (h : P σ) : PIo P (ob_J1_newString_b4f7a n call κ  x0 x1 x2 σ) := by
  unfold ob_J1_newString_b4f7a
  repeat' (with_reducible (first | assumption | (refine PIoK_gd ?_) | (refine PIoK_pf hP ?_ (by decide) (by with_unfolding_all rfl) (fun _ _ => ?_)) | (refine PIoK_si hP ?_ (fun _ _ => ?_)) | (refine PIoK_sj hP ?_ (fun _ _ => ?_)) | (refine PIoK_sr hP ?_ (fun _ _ => ?_)) | (refine PIoK_cy hP ?_ (fun _ _ => ?_)) | (refine PIoK_bn (fun _ => ?_)) | (refine PIoK_na hP ?_ (fun _ _ => ?_)) | (refine PIoK_no hP ?_ (fun _ _ => ?_)) | (refine PIoK_ite ?_ ?_) | (refine PIoK_some ?_) | (exact PIoK_none) | (refine PIoK_cv (cQoK.c216 hc _ _ _ _ ?_) (fun _ _ => ?_)) | (refine PIoK_rn (cQoK.c213 hc _ _ _ _ ?_) (fun _ _ _ => ?_))))
theorem pioK_oj_J7_copyOfRange_39247_10  {x0 : Option Nat} {x1 : Int32} {x2 : Int32} {σ : oSt} (hP : iKptK P) (hc : cQoK P call)  (h : P σ) : PIo P (oj_J7_copyOfRange_39247_10 n call κ  x0 x1 x2 σ) := by
  unfold oj_J7_copyOfRange_39247_10
  repeat' (with_reducible (first | assumption | (refine PIoK_gd ?_) | (refine PIoK_pf hP ?_ (by decide) (by with_unfolding_all rfl) (fun _ _ => ?_)) | (refine PIoK_si hP ?_ (fun _ _ => ?_)) | (refine PIoK_sj hP ?_ (fun _ _ => ?_)) | (refine PIoK_sr hP ?_ (fun _ _ => ?_)) | (refine PIoK_cy hP ?_ (fun _ _ => ?_)) | (refine PIoK_bn (fun _ => ?_)) | (refine PIoK_na hP ?_ (fun _ _ => ?_)) | (refine PIoK_no hP ?_ (fun _ _ => ?_)) | (refine PIoK_ite ?_ ?_) | (refine PIoK_some ?_) | (exact PIoK_none) | (refine PIoK_rn (cQoK.c214 hc _ _ _ _ ?_) (fun _ _ _ => ?_))))
theorem pioK_ob_J7_copyOfRange_39247  {x0 : Option Nat} {x1 : Int32} {x2 : Int32} {σ : oSt} (hP : iKptK P) (hc : cQoK P call)  (h : P σ) : PIo P (ob_J7_copyOfRange_39247 n call κ  x0 x1 x2 σ) := by
  unfold ob_J7_copyOfRange_39247
  repeat' (with_reducible (first | assumption | (refine PIoK_gd ?_) | (refine PIoK_pf hP ?_ (by decide) (by with_unfolding_all rfl) (fun _ _ => ?_)) | (refine PIoK_si hP ?_ (fun _ _ => ?_)) | (refine PIoK_sj hP ?_ (fun _ _ => ?_)) | (refine PIoK_sr hP ?_ (fun _ _ => ?_)) | (refine PIoK_cy hP ?_ (fun _ _ => ?_)) | (refine PIoK_bn (fun _ => ?_)) | (refine PIoK_na hP ?_ (fun _ _ => ?_)) | (refine PIoK_no hP ?_ (fun _ _ => ?_)) | (refine PIoK_ite ?_ ?_) | (refine PIoK_some ?_) | (exact PIoK_none) | (refine pioK_oj_J7_copyOfRange_39247_10 hP hc  ?_)))
theorem pioK_ob_J7_copyOfRangeByte_39247  {x0 : Option Nat} {x1 : Int32} {x2 : Int32} {σ : oSt} (hP : iKptK P) (hc : cQoK P call)  (h : P σ) : PIo P (ob_J7_copyOfRangeByte_39247 n call κ  x0 x1 x2 σ) := by
  unfold ob_J7_copyOfRangeByte_39247
  repeat' (with_reducible (first | assumption | (refine PIoK_gd ?_) | (refine PIoK_pf hP ?_ (by decide) (by with_unfolding_all rfl) (fun _ _ => ?_)) | (refine PIoK_si hP ?_ (fun _ _ => ?_)) | (refine PIoK_sj hP ?_ (fun _ _ => ?_)) | (refine PIoK_sr hP ?_ (fun _ _ => ?_)) | (refine PIoK_cy hP ?_ (fun _ _ => ?_)) | (refine PIoK_bn (fun _ => ?_)) | (refine PIoK_na hP ?_ (fun _ _ => ?_)) | (refine PIoK_no hP ?_ (fun _ _ => ?_)) | (refine PIoK_ite ?_ ?_) | (refine PIoK_some ?_) | (exact PIoK_none) | (refine PIoK_cv (cQoK.c215 hc _ _ _ ?_) (fun _ _ => ?_))))
theorem pioK_ob_J7_checkLength_df160  {x0 : Int32} {x1 : Int32} {σ : oSt} (hP : iKptK P) (hc : cQoK P call)  (h : P σ) : PIo P (ob_J7_checkLength_df160 n call κ  x0 x1 σ) := by
  unfold ob_J7_checkLength_df160
  repeat' (with_reducible (first | assumption | (refine PIoK_gd ?_) | (refine PIoK_pf hP ?_ (by decide) (by with_unfolding_all rfl) (fun _ _ => ?_)) | (refine PIoK_si hP ?_ (fun _ _ => ?_)) | (refine PIoK_sj hP ?_ (fun _ _ => ?_)) | (refine PIoK_sr hP ?_ (fun _ _ => ?_)) | (refine PIoK_cy hP ?_ (fun _ _ => ?_)) | (refine PIoK_bn (fun _ => ?_)) | (refine PIoK_na hP ?_ (fun _ _ => ?_)) | (refine PIoK_no hP ?_ (fun _ _ => ?_)) | (refine PIoK_ite ?_ ?_) | (refine PIoK_some ?_) | (exact PIoK_none)))
theorem pioK_ob_J0_init_031fb  {x0 : Option Nat} {x1 : Option Nat} {x2 : Int32} {σ : oSt} (hP : iKptK P) (hc : cQoK P call)  (h : P σ) : PIo P (ob_J0_init_031fb n call κ  x0 x1 x2 σ) := by
  unfold ob_J0_init_031fb
  repeat' (with_reducible (first | assumption | (refine PIoK_gd ?_) | (refine PIoK_pf hP ?_ (by decide) (by with_unfolding_all rfl) (fun _ _ => ?_)) | (refine PIoK_si hP ?_ (fun _ _ => ?_)) | (refine PIoK_sj hP ?_ (fun _ _ => ?_)) | (refine PIoK_sr hP ?_ (fun _ _ => ?_)) | (refine PIoK_cy hP ?_ (fun _ _ => ?_)) | (refine PIoK_bn (fun _ => ?_)) | (refine PIoK_na hP ?_ (fun _ _ => ?_)) | (refine PIoK_no hP ?_ (fun _ _ => ?_)) | (refine PIoK_ite ?_ ?_) | (refine PIoK_some ?_) | (exact PIoK_none)))
theorem pioK_oj_J0_equals_9ea2d_36  {x0 : Option Nat} {x2 : Option Nat} {σ : oSt} (hP : iKptK P) (hc : cQoK P call)  (h : P σ) : PIo P (oj_J0_equals_9ea2d_36 n call κ  x0 x2 σ) := by
  unfold oj_J0_equals_9ea2d_36
  repeat' (with_reducible (first | assumption | (refine PIoK_gd ?_) | (refine PIoK_pf hP ?_ (by decide) (by with_unfolding_all rfl) (fun _ _ => ?_)) | (refine PIoK_si hP ?_ (fun _ _ => ?_)) | (refine PIoK_sj hP ?_ (fun _ _ => ?_)) | (refine PIoK_sr hP ?_ (fun _ _ => ?_)) | (refine PIoK_cy hP ?_ (fun _ _ => ?_)) | (refine PIoK_bn (fun _ => ?_)) | (refine PIoK_na hP ?_ (fun _ _ => ?_)) | (refine PIoK_no hP ?_ (fun _ _ => ?_)) | (refine PIoK_ite ?_ ?_) | (refine PIoK_some ?_) | (exact PIoK_none) | (refine PIoK_in (cQoK.c218 hc _ _ _ ?_) (fun _ _ _ => ?_))))
theorem pioK_ob_J0_equals_9ea2d  {x0 : Option Nat} {x1 : Option Nat} {σ : oSt} (hP : iKptK P) (hc : cQoK P call)  (h : P σ) : PIo P (ob_J0_equals_9ea2d n call κ  x0 x1 σ) := by
  unfold ob_J0_equals_9ea2d
  repeat' (with_reducible (first | assumption | (refine PIoK_gd ?_) | (refine PIoK_pf hP ?_ (by decide) (by with_unfolding_all rfl) (fun _ _ => ?_)) | (refine PIoK_si hP ?_ (fun _ _ => ?_)) | (refine PIoK_sj hP ?_ (fun _ _ => ?_)) | (refine PIoK_sr hP ?_ (fun _ _ => ?_)) | (refine PIoK_cy hP ?_ (fun _ _ => ?_)) | (refine PIoK_bn (fun _ => ?_)) | (refine PIoK_na hP ?_ (fun _ _ => ?_)) | (refine PIoK_no hP ?_ (fun _ _ => ?_)) | (refine PIoK_ite ?_ ?_) | (refine PIoK_some ?_) | (exact PIoK_none) | (refine pioK_oj_J0_equals_9ea2d_36 hP hc  ?_)))
theorem pioK_ol_J1_equals_b5fdf_9  (hP : iKptK P) (hc : cQoK P call)  : ∀ (t : Nat) (x0 : Option Nat) (x1 : Option Nat) (x2 : Int32) (σ : oSt), P σ → PIo P (ol_J1_equals_b5fdf_9 n call κ  t x0 x1 x2 σ) := by
  intro t
  induction t with
  | zero => intros; exact PIoK_none
  | succ t ih =>
    intro x0 x1 x2 σ h
    rw [ol_J1_equals_b5fdf_9]
    repeat' (with_reducible (first | assumption | (refine PIoK_gd ?_) | (refine PIoK_pf hP ?_ (by decide) (by with_unfolding_all rfl) (fun _ _ => ?_)) | (refine PIoK_si hP ?_ (fun _ _ => ?_)) | (refine PIoK_sj hP ?_ (fun _ _ => ?_)) | (refine PIoK_sr hP ?_ (fun _ _ => ?_)) | (refine PIoK_cy hP ?_ (fun _ _ => ?_)) | (refine PIoK_bn (fun _ => ?_)) | (refine PIoK_na hP ?_ (fun _ _ => ?_)) | (refine PIoK_no hP ?_ (fun _ _ => ?_)) | (refine PIoK_ite ?_ ?_) | (refine PIoK_some ?_) | (exact PIoK_none) | (refine ih _ _ _ _ ?_)))
theorem pioK_ob_J1_equals_b5fdf  {x0 : Option Nat} {x1 : Option Nat} {σ : oSt} (hP : iKptK P) (hc : cQoK P call)  (h : P σ) : PIo P (ob_J1_equals_b5fdf n call κ  x0 x1 σ) := by
  unfold ob_J1_equals_b5fdf
  repeat' (with_reducible (first | assumption | (refine PIoK_gd ?_) | (refine PIoK_pf hP ?_ (by decide) (by with_unfolding_all rfl) (fun _ _ => ?_)) | (refine PIoK_si hP ?_ (fun _ _ => ?_)) | (refine PIoK_sj hP ?_ (fun _ _ => ?_)) | (refine PIoK_sr hP ?_ (fun _ _ => ?_)) | (refine PIoK_cy hP ?_ (fun _ _ => ?_)) | (refine PIoK_bn (fun _ => ?_)) | (refine PIoK_na hP ?_ (fun _ _ => ?_)) | (refine PIoK_no hP ?_ (fun _ _ => ?_)) | (refine PIoK_ite ?_ ?_) | (refine PIoK_some ?_) | (exact PIoK_none) | (refine pioK_ol_J1_equals_b5fdf_9 hP hc  _ _ _ _ _ ?_)))
theorem pioK_ob_J0_indexOf_0f7a4  {x0 : Option Nat} {x1 : Int32} {σ : oSt} (hP : iKptK P) (hc : cQoK P call)  (h : P σ) : PIo P (ob_J0_indexOf_0f7a4 n call κ  x0 x1 σ) := by
  unfold ob_J0_indexOf_0f7a4
  repeat' (with_reducible (first | assumption | (refine PIoK_gd ?_) | (refine PIoK_pf hP ?_ (by decide) (by with_unfolding_all rfl) (fun _ _ => ?_)) | (refine PIoK_si hP ?_ (fun _ _ => ?_)) | (refine PIoK_sj hP ?_ (fun _ _ => ?_)) | (refine PIoK_sr hP ?_ (fun _ _ => ?_)) | (refine PIoK_cy hP ?_ (fun _ _ => ?_)) | (refine PIoK_bn (fun _ => ?_)) | (refine PIoK_na hP ?_ (fun _ _ => ?_)) | (refine PIoK_no hP ?_ (fun _ _ => ?_)) | (refine PIoK_ite ?_ ?_) | (refine PIoK_some ?_) | (exact PIoK_none) | (refine PIoK_in (cQoK.c220 hc _ _ _ _ ?_) (fun _ _ _ => ?_))))
theorem pioK_ob_J0_indexOf_7cf53  {x0 : Option Nat} {x1 : Int32} {x2 : Int32} {σ : oSt} (hP : iKptK P) (hc : cQoK P call)  (h : P σ) : PIo P (ob_J0_indexOf_7cf53 n call κ  x0 x1 x2 σ) := by
  unfold ob_J0_indexOf_7cf53
  repeat' (with_reducible (first | assumption | (refine PIoK_gd ?_) | (refine PIoK_pf hP ?_ (by decide) (by with_unfolding_all rfl) (fun _ _ => ?_)) | (refine PIoK_si hP ?_ (fun _ _ => ?_)) | (refine PIoK_sj hP ?_ (fun _ _ => ?_)) | (refine PIoK_sr hP ?_ (fun _ _ => ?_)) | (refine PIoK_cy hP ?_ (fun _ _ => ?_)) | (refine PIoK_bn (fun _ => ?_)) | (refine PIoK_na hP ?_ (fun _ _ => ?_)) | (refine PIoK_no hP ?_ (fun _ _ => ?_)) | (refine PIoK_ite ?_ ?_) | (refine PIoK_some ?_) | (exact PIoK_none) | (refine PIoK_in (cQoK.c202 hc _ _ ?_) (fun _ _ _ => ?_)) | (refine PIoK_in (cQoK.c207 hc _ _ ?_) (fun _ _ _ => ?_)) | (refine PIoK_in (cQoK.c221 hc _ _ _ _ _ ?_) (fun _ _ _ => ?_))))
theorem pioK_ob_J1_indexOf_4cfef  {x0 : Option Nat} {x1 : Int32} {x2 : Int32} {x3 : Int32} {σ : oSt} (hP : iKptK P) (hc : cQoK P call)  (h : P σ) : PIo P (ob_J1_indexOf_4cfef n call κ  x0 x1 x2 x3 σ) := by
  unfold ob_J1_indexOf_4cfef
  repeat' (with_reducible (first | assumption | (refine PIoK_gd ?_) | (refine PIoK_pf hP ?_ (by decide) (by with_unfolding_all rfl) (fun _ _ => ?_)) | (refine PIoK_si hP ?_ (fun _ _ => ?_)) | (refine PIoK_sj hP ?_ (fun _ _ => ?_)) | (refine PIoK_sr hP ?_ (fun _ _ => ?_)) | (refine PIoK_cy hP ?_ (fun _ _ => ?_)) | (refine PIoK_bn (fun _ => ?_)) | (refine PIoK_na hP ?_ (fun _ _ => ?_)) | (refine PIoK_no hP ?_ (fun _ _ => ?_)) | (refine PIoK_ite ?_ ?_) | (refine PIoK_some ?_) | (exact PIoK_none) | (refine PIoK_in (cQoK.c222 hc _ _ ?_) (fun _ _ _ => ?_)) | (refine PIoK_in (cQoK.c223 hc _ _ _ _ _ ?_) (fun _ _ _ => ?_))))
theorem pioK_ob_J1_canEncode_9a6ad  {x0 : Int32} {σ : oSt} (hP : iKptK P) (hc : cQoK P call)  (h : P σ) : PIo P (ob_J1_canEncode_9a6ad n call κ  x0 σ) := by
  unfold ob_J1_canEncode_9a6ad
  repeat' (with_reducible (first | assumption | (refine PIoK_gd ?_) | (refine PIoK_pf hP ?_ (by decide) (by with_unfolding_all rfl) (fun _ _ => ?_)) | (refine PIoK_si hP ?_ (fun _ _ => ?_)) | (refine PIoK_sj hP ?_ (fun _ _ => ?_)) | (refine PIoK_sr hP ?_ (fun _ _ => ?_)) | (refine PIoK_cy hP ?_ (fun _ _ => ?_)) | (refine PIoK_bn (fun _ => ?_)) | (refine PIoK_na hP ?_ (fun _ _ => ?_)) | (refine PIoK_no hP ?_ (fun _ _ => ?_)) | (refine PIoK_ite ?_ ?_) | (refine PIoK_some ?_) | (exact PIoK_none)))
theorem pioK_ol_J1_indexOfChar_4cfef_7  (hP : iKptK P) (hc : cQoK P call)  : ∀ (t : Nat) (x0 : Option Nat) (x1 : Int32) (x2 : Int32) (x3 : Int32) (σ : oSt), P σ → PIo P (ol_J1_indexOfChar_4cfef_7 n call κ  t x0 x1 x2 x3 σ) := by
  intro t
  induction t with
  | zero => intros; exact PIoK_none
  | succ t ih =>
    intro x0 x1 x2 x3 σ h
    rw [ol_J1_indexOfChar_4cfef_7]
    repeat' (with_reducible (first | assumption | (refine PIoK_gd ?_) | (refine PIoK_pf hP ?_ (by decide) (by with_unfolding_all rfl) (fun _ _ => ?_)) | (refine PIoK_si hP ?_ (fun _ _ => ?_)) | (refine PIoK_sj hP ?_ (fun _ _ => ?_)) | (refine PIoK_sr hP ?_ (fun _ _ => ?_)) | (refine PIoK_cy hP ?_ (fun _ _ => ?_)) | (refine PIoK_bn (fun _ => ?_)) | (refine PIoK_na hP ?_ (fun _ _ => ?_)) | (refine PIoK_no hP ?_ (fun _ _ => ?_)) | (refine PIoK_ite ?_ ?_) | (refine PIoK_some ?_) | (exact PIoK_none) | (refine ih _ _ _ _ _ ?_)))
theorem pioK_ob_J1_indexOfChar_4cfef  {x0 : Option Nat} {x1 : Int32} {x2 : Int32} {x3 : Int32} {σ : oSt} (hP : iKptK P) (hc : cQoK P call)  (h : P σ) : PIo P (ob_J1_indexOfChar_4cfef n call κ  x0 x1 x2 x3 σ) := by
  unfold ob_J1_indexOfChar_4cfef
  repeat' (with_reducible (first | assumption | (refine PIoK_gd ?_) | (refine PIoK_pf hP ?_ (by decide) (by with_unfolding_all rfl) (fun _ _ => ?_)) | (refine PIoK_si hP ?_ (fun _ _ => ?_)) | (refine PIoK_sj hP ?_ (fun _ _ => ?_)) | (refine PIoK_sr hP ?_ (fun _ _ => ?_)) | (refine PIoK_cy hP ?_ (fun _ _ => ?_)) | (refine PIoK_bn (fun _ => ?_)) | (refine PIoK_na hP ?_ (fun _ _ => ?_)) | (refine PIoK_no hP ?_ (fun _ _ => ?_)) | (refine PIoK_ite ?_ ?_) | (refine PIoK_some ?_) | (exact PIoK_none) | (refine pioK_ol_J1_indexOfChar_4cfef_7 hP hc  _ _ _ _ _ _ ?_)))
theorem pioK_ob_Jx4a65c_init_da8c8  {x0 : Option Nat} {σ : oSt} (hP : iKptK P) (hc : cQoK P call)  (h : P σ) : PIo P (ob_Jx4a65c_init_da8c8 n call κ  x0 σ) := by
  unfold ob_Jx4a65c_init_da8c8
  repeat' (with_reducible (first | assumption | (refine PIoK_gd ?_) | (refine PIoK_pf hP ?_ (by decide) (by with_unfolding_all rfl) (fun _ _ => ?_)) | (refine PIoK_si hP ?_ (fun _ _ => ?_)) | (refine PIoK_sj hP ?_ (fun _ _ => ?_)) | (refine PIoK_sr hP ?_ (fun _ _ => ?_)) | (refine PIoK_cy hP ?_ (fun _ _ => ?_)) | (refine PIoK_bn (fun _ => ?_)) | (refine PIoK_na hP ?_ (fun _ _ => ?_)) | (refine PIoK_no hP ?_ (fun _ _ => ?_)) | (refine PIoK_ite ?_ ?_) | (refine PIoK_some ?_) | (exact PIoK_none) | (refine PIoK_cv (cQoK.c225 hc _ _ ?_) (fun _ _ => ?_))))
theorem pioK_ob_Jxc12de_init_da8c8  {x0 : Option Nat} {σ : oSt} (hP : iKptK P) (hc : cQoK P call)  (h : P σ) : PIo P (ob_Jxc12de_init_da8c8 n call κ  x0 σ) := by
  unfold ob_Jxc12de_init_da8c8
  repeat' (with_reducible (first | assumption | (refine PIoK_gd ?_) | (refine PIoK_pf hP ?_ (by decide) (by with_unfolding_all rfl) (fun _ _ => ?_)) | (refine PIoK_si hP ?_ (fun _ _ => ?_)) | (refine PIoK_sj hP ?_ (fun _ _ => ?_)) | (refine PIoK_sr hP ?_ (fun _ _ => ?_)) | (refine PIoK_cy hP ?_ (fun _ _ => ?_)) | (refine PIoK_bn (fun _ => ?_)) | (refine PIoK_na hP ?_ (fun _ _ => ?_)) | (refine PIoK_no hP ?_ (fun _ _ => ?_)) | (refine PIoK_ite ?_ ?_) | (refine PIoK_some ?_) | (exact PIoK_none) | (refine PIoK_cv (cQoK.c226 hc _ _ ?_) (fun _ _ => ?_))))
theorem pioK_ob_Jxa1e45_init_da8c8  {x0 : Option Nat} {σ : oSt} (hP : iKptK P) (hc : cQoK P call)  (h : P σ) : PIo P (ob_Jxa1e45_init_da8c8 n call κ  x0 σ) := by
  unfold ob_Jxa1e45_init_da8c8
  repeat' (with_reducible (first | assumption | (refine PIoK_gd ?_) | (refine PIoK_pf hP ?_ (by decide) (by with_unfolding_all rfl) (fun _ _ => ?_)) | (refine PIoK_si hP ?_ (fun _ _ => ?_)) | (refine PIoK_sj hP ?_ (fun _ _ => ?_)) | (refine PIoK_sr hP ?_ (fun _ _ => ?_)) | (refine PIoK_cy hP ?_ (fun _ _ => ?_)) | (refine PIoK_bn (fun _ => ?_)) | (refine PIoK_na hP ?_ (fun _ _ => ?_)) | (refine PIoK_no hP ?_ (fun _ _ => ?_)) | (refine PIoK_ite ?_ ?_) | (refine PIoK_some ?_) | (exact PIoK_none)))
theorem pioK_ob_Jx4a65c_add_9ea2d  {x0 : Option Nat} {x1 : Option Nat} {σ : oSt} (hP : iKptK P) (hc : cQoK P call)  (h : P σ) : PIo P (ob_Jx4a65c_add_9ea2d n call κ  x0 x1 σ) := by
  unfold ob_Jx4a65c_add_9ea2d
  repeat' (with_reducible (first | assumption | (refine PIoK_gd ?_) | (refine PIoK_pf hP ?_ (by decide) (by with_unfolding_all rfl) (fun _ _ => ?_)) | (refine PIoK_si hP ?_ (fun _ _ => ?_)) | (refine PIoK_sj hP ?_ (fun _ _ => ?_)) | (refine PIoK_sr hP ?_ (fun _ _ => ?_)) | (refine PIoK_cy hP ?_ (fun _ _ => ?_)) | (refine PIoK_bn (fun _ => ?_)) | (refine PIoK_na hP ?_ (fun _ _ => ?_)) | (refine PIoK_no hP ?_ (fun _ _ => ?_)) | (refine PIoK_ite ?_ ?_) | (refine PIoK_some ?_) | (exact PIoK_none) | (refine PIoK_cv (cQoK.c228 hc _ _ _ _ _ ?_) (fun _ _ => ?_))))
theorem pioK_oj_Jx4a65c_add_72be8_11  {x0 : Option Nat} {x1 : Option Nat} {x2 : Option Nat} {x3 : Int32} {σ : oSt} (hP : iKptK P) (hc : cQoK P call)  (h : P σ) : PIo P (oj_Jx4a65c_add_72be8_11 n call κ  x0 x1 x2 x3 σ) := by
  unfold oj_Jx4a65c_add_72be8_11
  repeat' (with_reducible (first | assumption | (refine PIoK_gd ?_) | (refine PIoK_pf hP ?_ (by decide) (by with_unfolding_all rfl) (fun _ _ => ?_)) | (refine PIoK_si hP ?_ (fun _ _ => ?_)) | (refine PIoK_sj hP ?_ (fun _ _ => ?_)) | (refine PIoK_sr hP ?_ (fun _ _ => ?_)) | (refine PIoK_cy hP ?_ (fun _ _ => ?_)) | (refine PIoK_bn (fun _ => ?_)) | (refine PIoK_na hP ?_ (fun _ _ => ?_)) | (refine PIoK_no hP ?_ (fun _ _ => ?_)) | (refine PIoK_ite ?_ ?_) | (refine PIoK_some ?_) | (exact PIoK_none)))
theorem pioK_ob_Jx4a65c_add_72be8  {x0 : Option Nat} {x1 : Option Nat} {x2 : Option Nat} {x3 : Int32} {σ : oSt} (hP : iKptK P) (hc : cQoK P call)  (h : P σ) : PIo P (ob_Jx4a65c_add_72be8 n call κ  x0 x1 x2 x3 σ) := by
  unfold ob_Jx4a65c_add_72be8
  repeat' (with_reducible (first | assumption | (refine PIoK_gd ?_) | (refine PIoK_pf hP ?_ (by decide) (by with_unfolding_all rfl) (fun _ _ => ?_)) | (refine PIoK_si hP ?_ (fun _ _ => ?_)) | (refine PIoK_sj hP ?_ (fun _ _ => ?_)) | (refine PIoK_sr hP ?_ (fun _ _ => ?_)) | (refine PIoK_cy hP ?_ (fun _ _ => ?_)) | (refine PIoK_bn (fun _ => ?_)) | (refine PIoK_na hP ?_ (fun _ _ => ?_)) | (refine PIoK_no hP ?_ (fun _ _ => ?_)) | (refine PIoK_ite ?_ ?_) | (refine PIoK_some ?_) | (exact PIoK_none) | (refine PIoK_rn (cQoK.c229 hc _ _ ?_) (fun _ _ _ => ?_)) | (refine pioK_oj_Jx4a65c_add_72be8_11 hP hc  ?_)))
theorem pioK_ob_Jx4a65c_grow_d5877  {x0 : Option Nat} {σ : oSt} (hP : iKptK P) (hc : cQoK P call)  (h : P σ) : PIo P (ob_Jx4a65c_grow_d5877 n call κ  x0 σ) := by
  unfold ob_Jx4a65c_grow_d5877
  repeat' (with_reducible (first | assumption | (refine PIoK_gd ?_) | (refine PIoK_pf hP ?_ (by decide) (by with_unfolding_all rfl) (fun _ _ => ?_)) | (refine PIoK_si hP ?_ (fun _ _ => ?_)) | (refine PIoK_sj hP ?_ (fun _ _ => ?_)) | (refine PIoK_sr hP ?_ (fun _ _ => ?_)) | (refine PIoK_cy hP ?_ (fun _ _ => ?_)) | (refine PIoK_bn (fun _ => ?_)) | (refine PIoK_na hP ?_ (fun _ _ => ?_)) | (refine PIoK_no hP ?_ (fun _ _ => ?_)) | (refine PIoK_ite ?_ ?_) | (refine PIoK_some ?_) | (exact PIoK_none) | (refine PIoK_rn (cQoK.c230 hc _ _ _ ?_) (fun _ _ _ => ?_))))
theorem pioK_oj_Jx4a65c_grow_92f84_20  {x0 : Option Nat} {x1 : Int32} {x2 : Int32} {σ : oSt} (hP : iKptK P) (hc : cQoK P call)  (h : P σ) : PIo P (oj_Jx4a65c_grow_92f84_20 n call κ  x0 x1 x2 σ) := by
  unfold oj_Jx4a65c_grow_92f84_20
  repeat' (with_reducible (first | assumption | (refine PIoK_gd ?_) | (refine PIoK_pf hP ?_ (by decide) (by with_unfolding_all rfl) (fun _ _ => ?_)) | (refine PIoK_si hP ?_ (fun _ _ => ?_)) | (refine PIoK_sj hP ?_ (fun _ _ => ?_)) | (refine PIoK_sr hP ?_ (fun _ _ => ?_)) | (refine PIoK_cy hP ?_ (fun _ _ => ?_)) | (refine PIoK_bn (fun _ => ?_)) | (refine PIoK_na hP ?_ (fun _ _ => ?_)) | (refine PIoK_no hP ?_ (fun _ _ => ?_)) | (refine PIoK_ite ?_ ?_) | (refine PIoK_some ?_) | (exact PIoK_none) | (refine PIoK_in (cQoK.c231 hc _ _ _ _ ?_) (fun _ _ _ => ?_)) | (refine PIoK_rn (cQoK.c232 hc _ _ _ ?_) (fun _ _ _ => ?_))))
theorem pioK_ob_Jx4a65c_grow_92f84  {x0 : Option Nat} {x1 : Int32} {σ : oSt} (hP : iKptK P) (hc : cQoK P call)  (h : P σ) : PIo P (ob_Jx4a65c_grow_92f84 n call κ  x0 x1 σ) := by
  unfold ob_Jx4a65c_grow_92f84
  repeat' (with_reducible (first | assumption | (refine PIoK_gd ?_) | (refine PIoK_pf hP ?_ (by decide) (by with_unfolding_all rfl) (fun _ _ => ?_)) | (refine PIoK_si hP ?_ (fun _ _ => ?_)) | (refine PIoK_sj hP ?_ (fun _ _ => ?_)) | (refine PIoK_sr hP ?_ (fun _ _ => ?_)) | (refine PIoK_cy hP ?_ (fun _ _ => ?_)) | (refine PIoK_bn (fun _ => ?_)) | (refine PIoK_na hP ?_ (fun _ _ => ?_)) | (refine PIoK_no hP ?_ (fun _ _ => ?_)) | (refine PIoK_ite ?_ ?_) | (refine PIoK_some ?_) | (exact PIoK_none) | (refine pioK_oj_Jx4a65c_grow_92f84_20 hP hc  ?_)))
theorem pioK_oj_J8_newLength_cabcc_21  {x0 : Int32} {x1 : Int32} {σ : oSt} (hP : iKptK P) (hc : cQoK P call)  (h : P σ) : PIo P (oj_J8_newLength_cabcc_21 n call κ  x0 x1 σ) := by
  unfold oj_J8_newLength_cabcc_21
  repeat' (with_reducible (first | assumption | (refine PIoK_gd ?_) | (refine PIoK_pf hP ?_ (by decide) (by with_unfolding_all rfl) (fun _ _ => ?_)) | (refine PIoK_si hP ?_ (fun _ _ => ?_)) | (refine PIoK_sj hP ?_ (fun _ _ => ?_)) | (refine PIoK_sr hP ?_ (fun _ _ => ?_)) | (refine PIoK_cy hP ?_ (fun _ _ => ?_)) | (refine PIoK_bn (fun _ => ?_)) | (refine PIoK_na hP ?_ (fun _ _ => ?_)) | (refine PIoK_no hP ?_ (fun _ _ => ?_)) | (refine PIoK_ite ?_ ?_) | (refine PIoK_some ?_) | (exact PIoK_none)))
theorem pioK_ob_J8_newLength_cabcc  {x0 : Int32} {x1 : Int32} {x2 : Int32} {σ : oSt} (hP : iKptK P) (hc : cQoK P call)  (h : P σ) : PIo P (ob_J8_newLength_cabcc n call κ  x0 x1 x2 σ) := by
  unfold ob_J8_newLength_cabcc
  repeat' (with_reducible (first | assumption | (refine PIoK_gd ?_) | (refine PIoK_pf hP ?_ (by decide) (by with_unfolding_all rfl) (fun _ _ => ?_)) | (refine PIoK_si hP ?_ (fun _ _ => ?_)) | (refine PIoK_sj hP ?_ (fun _ _ => ?_)) | (refine PIoK_sr hP ?_ (fun _ _ => ?_)) | (refine PIoK_cy hP ?_ (fun _ _ => ?_)) | (refine PIoK_bn (fun _ => ?_)) | (refine PIoK_na hP ?_ (fun _ _ => ?_)) | (refine PIoK_no hP ?_ (fun _ _ => ?_)) | (refine PIoK_ite ?_ ?_) | (refine PIoK_some ?_) | (exact PIoK_none) | (refine pioK_oj_J8_newLength_cabcc_21 hP hc  ?_)))
theorem pioK_ob_J7_copyOf_1904c  {x0 : Option Nat} {x1 : Int32} {σ : oSt} (hP : iKptK P) (hc : cQoK P call)  (h : P σ) : PIo P (ob_J7_copyOf_1904c n call κ  x0 x1 σ) := by
  unfold ob_J7_copyOf_1904c
  repeat' (with_reducible (first | assumption | (refine PIoK_gd ?_) | (refine PIoK_pf hP ?_ (by decide) (by with_unfolding_all rfl) (fun _ _ => ?_)) | (refine PIoK_si hP ?_ (fun _ _ => ?_)) | (refine PIoK_sj hP ?_ (fun _ _ => ?_)) | (refine PIoK_sr hP ?_ (fun _ _ => ?_)) | (refine PIoK_cy hP ?_ (fun _ _ => ?_)) | (refine PIoK_bn (fun _ => ?_)) | (refine PIoK_na hP ?_ (fun _ _ => ?_)) | (refine PIoK_no hP ?_ (fun _ _ => ?_)) | (refine PIoK_ite ?_ ?_) | (refine PIoK_some ?_) | (exact PIoK_none) | (refine PIoK_rn (cQoK.c233 hc _ _ _ _ ?_) (fun _ _ _ => ?_))))
theorem pioK_ob_J7_copyOf_6403c  {x0 : Option Nat} {x1 : Int32} {x2 : Option Nat} {σ : oSt} (hP : iKptK P) (hc : cQoK P call)  (h : P σ) : PIo P (ob_J7_copyOf_6403c n call κ  x0 x1 x2 σ) := by
  unfold ob_J7_copyOf_6403c
  repeat' (with_reducible (first | assumption | (refine PIoK_gd ?_) | (refine PIoK_pf hP ?_ (by decide) (by with_unfolding_all rfl) (fun _ _ => ?_)) | (refine PIoK_si hP ?_ (fun _ _ => ?_)) | (refine PIoK_sj hP ?_ (fun _ _ => ?_)) | (refine PIoK_sr hP ?_ (fun _ _ => ?_)) | (refine PIoK_cy hP ?_ (fun _ _ => ?_)) | (refine PIoK_bn (fun _ => ?_)) | (refine PIoK_na hP ?_ (fun _ _ => ?_)) | (refine PIoK_no hP ?_ (fun _ _ => ?_)) | (refine PIoK_ite ?_ ?_) | (refine PIoK_some ?_) | (exact PIoK_none)))
theorem pioK_ob_Jx4a65c_get_915e3  {x0 : Option Nat} {x1 : Int32} {σ : oSt} (hP : iKptK P) (hc : cQoK P call)  (h : P σ) : PIo P (ob_Jx4a65c_get_915e3 n call κ  x0 x1 σ) := by
  unfold ob_Jx4a65c_get_915e3
  repeat' (with_reducible (first | assumption | (refine PIoK_gd ?_) | (refine PIoK_pf hP ?_ (by decide) (by with_unfolding_all rfl) (fun _ _ => ?_)) | (refine PIoK_si hP ?_ (fun _ _ => ?_)) | (refine PIoK_sj hP ?_ (fun _ _ => ?_)) | (refine PIoK_sr hP ?_ (fun _ _ => ?_)) | (refine PIoK_cy hP ?_ (fun _ _ => ?_)) | (refine PIoK_bn (fun _ => ?_)) | (refine PIoK_na hP ?_ (fun _ _ => ?_)) | (refine PIoK_no hP ?_ (fun _ _ => ?_)) | (refine PIoK_ite ?_ ?_) | (refine PIoK_some ?_) | (exact PIoK_none) | (refine PIoK_in (cQoK.c205 hc _ _ _ ?_) (fun _ _ _ => ?_)) | (refine PIoK_rn (cQoK.c235 hc _ _ _ ?_) (fun _ _ _ => ?_))))
theorem pioK_ob_Jx4a65c_elementData_915e3  {x0 : Option Nat} {x1 : Int32} {σ : oSt} (hP : iKptK P) (hc : cQoK P call)  (h : P σ) : PIo P (ob_Jx4a65c_elementData_915e3 n call κ  x0 x1 σ) := by
  unfold ob_Jx4a65c_elementData_915e3
  repeat' (with_reducible (first | assumption | (refine PIoK_gd ?_) | (refine PIoK_pf hP ?_ (by decide) (by with_unfolding_all rfl) (fun _ _ => ?_)) | (refine PIoK_si hP ?_ (fun _ _ => ?_)) | (refine PIoK_sj hP ?_ (fun _ _ => ?_)) | (refine PIoK_sr hP ?_ (fun _ _ => ?_)) | (refine PIoK_cy hP ?_ (fun _ _ => ?_)) | (refine PIoK_bn (fun _ => ?_)) | (refine PIoK_na hP ?_ (fun _ _ => ?_)) | (refine PIoK_no hP ?_ (fun _ _ => ?_)) | (refine PIoK_ite ?_ ?_) | (refine PIoK_some ?_) | (exact PIoK_none)))
theorem pioK_ob_Jx4a65c_size_8abf5  {x0 : Option Nat} {σ : oSt} (hP : iKptK P) (hc : cQoK P call)  (h : P σ) : PIo P (ob_Jx4a65c_size_8abf5 n call κ  x0 σ) := by
  unfold ob_Jx4a65c_size_8abf5
  repeat' (with_reducible (first | assumption | (refine PIoK_gd ?_) | (refine PIoK_pf hP ?_ (by decide) (by with_unfolding_all rfl) (fun _ _ => ?_)) | (refine PIoK_si hP ?_ (fun _ _ => ?_)) | (refine PIoK_sj hP ?_ (fun _ _ => ?_)) | (refine PIoK_sr hP ?_ (fun _ _ => ?_)) | (refine PIoK_cy hP ?_ (fun _ _ => ?_)) | (refine PIoK_bn (fun _ => ?_)) | (refine PIoK_na hP ?_ (fun _ _ => ?_)) | (refine PIoK_no hP ?_ (fun _ _ => ?_)) | (refine PIoK_ite ?_ ?_) | (refine PIoK_some ?_) | (exact PIoK_none)))
theorem pioK_ob_J7_copyOf_59c91  {x0 : Option Nat} {x1 : Int32} {σ : oSt} (hP : iKptK P) (hc : cQoK P call)  (h : P σ) : PIo P (ob_J7_copyOf_59c91 n call κ  x0 x1 σ) := by
  unfold ob_J7_copyOf_59c91
  repeat' (with_reducible (first | assumption | (refine PIoK_gd ?_) | (refine PIoK_pf hP ?_ (by decide) (by with_unfolding_all rfl) (fun _ _ => ?_)) | (refine PIoK_si hP ?_ (fun _ _ => ?_)) | (refine PIoK_sj hP ?_ (fun _ _ => ?_)) | (refine PIoK_sr hP ?_ (fun _ _ => ?_)) | (refine PIoK_cy hP ?_ (fun _ _ => ?_)) | (refine PIoK_bn (fun _ => ?_)) | (refine PIoK_na hP ?_ (fun _ _ => ?_)) | (refine PIoK_no hP ?_ (fun _ _ => ?_)) | (refine PIoK_ite ?_ ?_) | (refine PIoK_some ?_) | (exact PIoK_none)))
theorem pioK_ol_J7_fill_d0a16_6  (hP : iKptK P) (hc : cQoK P call)  : ∀ (t : Nat) (x0 : Option Nat) (x1 : Int64) (x2 : Int32) (x3 : Int32) (σ : oSt), P σ → PIo P (ol_J7_fill_d0a16_6 n call κ  t x0 x1 x2 x3 σ) := by
  intro t
  induction t with
  | zero => intros; exact PIoK_none
  | succ t ih =>
    intro x0 x1 x2 x3 σ h
    rw [ol_J7_fill_d0a16_6]
    repeat' (with_reducible (first | assumption | (refine PIoK_gd ?_) | (refine PIoK_pf hP ?_ (by decide) (by with_unfolding_all rfl) (fun _ _ => ?_)) | (refine PIoK_si hP ?_ (fun _ _ => ?_)) | (refine PIoK_sj hP ?_ (fun _ _ => ?_)) | (refine PIoK_sr hP ?_ (fun _ _ => ?_)) | (refine PIoK_cy hP ?_ (fun _ _ => ?_)) | (refine PIoK_bn (fun _ => ?_)) | (refine PIoK_na hP ?_ (fun _ _ => ?_)) | (refine PIoK_no hP ?_ (fun _ _ => ?_)) | (refine PIoK_ite ?_ ?_) | (refine PIoK_some ?_) | (exact PIoK_none) | (refine ih _ _ _ _ _ ?_)))
theorem pioK_ob_J7_fill_d0a16  {x0 : Option Nat} {x1 : Int64} {σ : oSt} (hP : iKptK P) (hc : cQoK P call)  (h : P σ) : PIo P (ob_J7_fill_d0a16 n call κ  x0 x1 σ) := by
  unfold ob_J7_fill_d0a16
  repeat' (with_reducible (first | assumption | (refine PIoK_gd ?_) | (refine PIoK_pf hP ?_ (by decide) (by with_unfolding_all rfl) (fun _ _ => ?_)) | (refine PIoK_si hP ?_ (fun _ _ => ?_)) | (refine PIoK_sj hP ?_ (fun _ _ => ?_)) | (refine PIoK_sr hP ?_ (fun _ _ => ?_)) | (refine PIoK_cy hP ?_ (fun _ _ => ?_)) | (refine PIoK_bn (fun _ => ?_)) | (refine PIoK_na hP ?_ (fun _ _ => ?_)) | (refine PIoK_no hP ?_ (fun _ _ => ?_)) | (refine PIoK_ite ?_ ?_) | (refine PIoK_some ?_) | (exact PIoK_none) | (refine pioK_ol_J7_fill_d0a16_6 hP hc  _ _ _ _ _ _ ?_)))
theorem pioK_ol_J7_fill_53178_5  (hP : iKptK P) (hc : cQoK P call)  : ∀ (t : Nat) (x0 : Option Nat) (x1 : Int32) (x2 : Int32) (x3 : Int32) (σ : oSt), P σ → PIo P (ol_J7_fill_53178_5 n call κ  t x0 x1 x2 x3 σ) := by
  intro t
  induction t with
  | zero => intros; exact PIoK_none
  | succ t ih =>
    intro x0 x1 x2 x3 σ h
    rw [ol_J7_fill_53178_5]
    repeat' (with_reducible (first | assumption | (refine PIoK_gd ?_) | (refine PIoK_pf hP ?_ (by decide) (by with_unfolding_all rfl) (fun _ _ => ?_)) | (refine PIoK_si hP ?_ (fun _ _ => ?_)) | (refine PIoK_sj hP ?_ (fun _ _ => ?_)) | (refine PIoK_sr hP ?_ (fun _ _ => ?_)) | (refine PIoK_cy hP ?_ (fun _ _ => ?_)) | (refine PIoK_bn (fun _ => ?_)) | (refine PIoK_na hP ?_ (fun _ _ => ?_)) | (refine PIoK_no hP ?_ (fun _ _ => ?_)) | (refine PIoK_ite ?_ ?_) | (refine PIoK_some ?_) | (exact PIoK_none) | (refine ih _ _ _ _ _ ?_)))
theorem pioK_ob_J7_fill_53178  {x0 : Option Nat} {x1 : Int32} {σ : oSt} (hP : iKptK P) (hc : cQoK P call)  (h : P σ) : PIo P (ob_J7_fill_53178 n call κ  x0 x1 σ) := by
  unfold ob_J7_fill_53178
  repeat' (with_reducible (first | assumption | (refine PIoK_gd ?_) | (refine PIoK_pf hP ?_ (by decide) (by with_unfolding_all rfl) (fun _ _ => ?_)) | (refine PIoK_si hP ?_ (fun _ _ => ?_)) | (refine PIoK_sj hP ?_ (fun _ _ => ?_)) | (refine PIoK_sr hP ?_ (fun _ _ => ?_)) | (refine PIoK_cy hP ?_ (fun _ _ => ?_)) | (refine PIoK_bn (fun _ => ?_)) | (refine PIoK_na hP ?_ (fun _ _ => ?_)) | (refine PIoK_no hP ?_ (fun _ _ => ?_)) | (refine PIoK_ite ?_ ?_) | (refine PIoK_some ?_) | (exact PIoK_none) | (refine pioK_ol_J7_fill_53178_5 hP hc  _ _ _ _ _ _ ?_)))
/-- **all of them, however deep** -/
theorem cQoK_oF (hP : iKptK P) (T : Nat) : ∀ n, cQoK P (oF κ T n) := by
  intro n
  induction n with
  | zero =>
    refine ⟨?_, ?_, ?_, ?_, ?_, ?_, ?_, ?_, ?_, ?_, ?_, ?_, ?_, ?_, ?_, ?_, ?_, ?_, ?_, ?_, ?_, ?_, ?_, ?_, ?_, ?_, ?_, ?_, ?_, ?_, ?_, ?_, ?_, ?_, ?_, ?_, ?_, ?_, ?_, ?_, ?_, ?_, ?_, ?_, ?_, ?_, ?_, ?_, ?_, ?_, ?_, ?_, ?_, ?_, ?_, ?_, ?_, ?_, ?_, ?_, ?_, ?_, ?_, ?_, ?_, ?_, ?_, ?_, ?_, ?_, ?_, ?_, ?_, ?_, ?_, ?_, ?_, ?_, ?_, ?_, ?_, ?_, ?_, ?_, ?_, ?_, ?_, ?_, ?_, ?_, ?_, ?_, ?_, ?_, ?_, ?_, ?_, ?_, ?_, ?_, ?_, ?_, ?_, ?_, ?_, ?_, ?_, ?_, ?_, ?_, ?_, ?_, ?_, ?_, ?_, ?_, ?_, ?_, ?_, ?_, ?_, ?_, ?_, ?_, ?_, ?_, ?_, ?_⟩ <;> (intros; exact fun w e => by cases e)
  | succ n hc =>
    refine ⟨?_, ?_, ?_, ?_, ?_, ?_, ?_, ?_, ?_, ?_, ?_, ?_, ?_, ?_, ?_, ?_, ?_, ?_, ?_, ?_, ?_, ?_, ?_, ?_, ?_, ?_, ?_, ?_, ?_, ?_, ?_, ?_, ?_, ?_, ?_, ?_, ?_, ?_, ?_, ?_, ?_, ?_, ?_, ?_, ?_, ?_, ?_, ?_, ?_, ?_, ?_, ?_, ?_, ?_, ?_, ?_, ?_, ?_, ?_, ?_, ?_, ?_, ?_, ?_, ?_, ?_, ?_, ?_, ?_, ?_, ?_, ?_, ?_, ?_, ?_, ?_, ?_, ?_, ?_, ?_, ?_, ?_, ?_, ?_, ?_, ?_, ?_, ?_, ?_, ?_, ?_, ?_, ?_, ?_, ?_, ?_, ?_, ?_, ?_, ?_, ?_, ?_, ?_, ?_, ?_, ?_, ?_, ?_, ?_, ?_, ?_, ?_, ?_, ?_, ?_, ?_, ?_, ?_, ?_, ?_, ?_, ?_, ?_, ?_, ?_, ?_, ?_, ?_⟩
    · intro x0 x1 x2 σ h
      rw [oE_X4_init]
      exact pioK_ob_X4_init hP hc h
    · intro x0 σ h
      rw [oE_X9_init]
      exact pioK_ob_X9_init hP hc h
    · intro x0 x1 σ h
      rw [oE_X9_append]
      exact pioK_ob_X9_append hP hc h
    · intro x0 x1 x2 σ h
      rw [oE_X9_add]
      exact pioK_ob_X9_add hP hc h
    · intro x0 x1 x2 σ h
      rw [oE_X9_of]
      exact pioK_ob_X9_of hP hc h
    · intro x0 σ h
      rw [oE_X9_isTerm]
      exact pioK_ob_X9_isTerm hP hc h
    · intro x0 x1 σ h
      rw [oE_X10_root]
      exact pioK_ob_X10_root hP hc h
    · intro x0 x1 σ h
      rw [oE_X10_kindOf]
      exact pioK_ob_X10_kindOf hP hc h
    · intro x0 σ h
      rw [oE_X9_isFact]
      exact pioK_ob_X9_isFact hP hc h
    · intro x0 σ h
      rw [oE_X3_forget]
      exact pioK_ob_X3_forget hP hc h
    · intro x0 x1 x2 σ h
      rw [oE_X3_take]
      exact pioK_ob_X3_take hP hc h
    · intro x0 x1 x2 x3 σ h
      rw [oE_X5_init]
      exact pioK_ob_X5_init hP hc h
    · intro x0 x1 σ h
      rw [oE_X7_init]
      exact pioK_ob_X7_init hP hc h
    · intro x0 σ h
      rw [oE_X7_kind]
      exact pioK_ob_X7_kind hP hc h
    · intro x0 σ h
      rw [oE_X7_next]
      exact pioK_ob_X7_next hP hc h
    · intro x0 σ h
      rw [oE_X7_here]
      exact pioK_ob_X7_here hP hc h
    · intro x0 σ h
      rw [oE_X7_fail]
      exact pioK_ob_X7_fail hP hc h
    · intro x0 x1 σ h
      rw [oE_X7_expect]
      exact pioK_ob_X7_expect hP hc h
    · intro x0 σ h
      rw [oE_X7_isRelation]
      exact pioK_ob_X7_isRelation hP hc h
    · intro x0 x1 σ h
      rw [oE_X11_numberOf]
      exact pioK_ob_X11_numberOf hP hc h
    · intro x0 σ h
      rw [oE_X7_readQualTerm]
      exact pioK_ob_X7_readQualTerm hP hc h
    · intro x0 σ h
      rw [oE_X7_readQual]
      exact pioK_ob_X7_readQual hP hc h
    · intro x0 x1 σ h
      rw [oE_X11_textOf]
      exact pioK_ob_X11_textOf hP hc h
    · intro x0 x1 σ h
      rw [oE_X7_counts]
      exact pioK_ob_X7_counts hP hc h
    · intro x0 σ h
      rw [oE_X7_tell]
      exact pioK_ob_X7_tell hP hc h
    · intro x0 x1 σ h
      rw [oE_X7_count]
      exact pioK_ob_X7_count hP hc h
    · intro x0 σ h
      rw [oE_X7_readInput]
      exact pioK_ob_X7_readInput hP hc h
    · intro x0 x1 σ h
      rw [oE_X7_node]
      exact pioK_ob_X7_node hP hc h
    · intro x0 σ h
      rw [oE_X7_use]
      exact pioK_ob_X7_use hP hc h
    · intro x0 x1 σ h
      rw [oE_X7_sum_]
      exact pioK_ob_X7_sum_ hP hc h
    · intro x0 σ h
      rw [oE_X7_sum]
      exact pioK_ob_X7_sum hP hc h
    · intro x0 x1 σ h
      rw [oE_X7_blameForm]
      exact pioK_ob_X7_blameForm hP hc h
    · intro x0 x1 x2 σ h
      rw [oE_X7_compare]
      exact pioK_ob_X7_compare hP hc h
    · intro x0 x1 x2 σ h
      rw [oE_X9_addAll]
      exact pioK_ob_X9_addAll hP hc h
    · intro x0 x1 σ h
      rw [oE_X7_comparison]
      exact pioK_ob_X7_comparison hP hc h
    · intro x0 x1 σ h
      rw [oE_X7_both]
      exact pioK_ob_X7_both hP hc h
    · intro x0 x1 σ h
      rw [oE_X7_either]
      exact pioK_ob_X7_either hP hc h
    · intro x0 x1 σ h
      rw [oE_X7_single]
      exact pioK_ob_X7_single hP hc h
    · intro x0 x1 σ h
      rw [oE_X7_test]
      exact pioK_ob_X7_test hP hc h
    · intro x0 σ h
      rw [oE_X7_beginsArgument]
      exact pioK_ob_X7_beginsArgument hP hc h
    · intro x0 x1 σ h
      rw [oE_X7_beFunction]
      exact pioK_ob_X7_beFunction hP hc h
    · intro x0 x1 σ h
      rw [oE_X7_tellParameter]
      exact pioK_ob_X7_tellParameter hP hc h
    · intro x0 x1 σ h
      rw [oE_X7_readIndex]
      exact pioK_ob_X7_readIndex hP hc h
    · intro x0 x1 σ h
      rw [oE_X7_argument]
      exact pioK_ob_X7_argument hP hc h
    · intro x0 x1 σ h
      rw [oE_X7_expression]
      exact pioK_ob_X7_expression hP hc h
    · intro x0 x1 x2 σ h
      rw [oE_X7_readAssert]
      exact pioK_ob_X7_readAssert hP hc h
    · intro x0 x1 σ h
      rw [oE_X7_readCall]
      exact pioK_ob_X7_readCall hP hc h
    · intro x0 x1 x2 σ h
      rw [oE_X7_readFunction]
      exact pioK_ob_X7_readFunction hP hc h
    · intro x0 x1 x2 σ h
      rw [oE_X7_readIf]
      exact pioK_ob_X7_readIf hP hc h
    · intro x0 x1 x2 σ h
      rw [oE_X7_readLet]
      exact pioK_ob_X7_readLet hP hc h
    · intro x0 x1 x2 σ h
      rw [oE_X7_readMatch]
      exact pioK_ob_X7_readMatch hP hc h
    · intro x0 x1 σ h
      rw [oE_X7_readOpen]
      exact pioK_ob_X7_readOpen hP hc h
    · intro x0 x1 x2 σ h
      rw [oE_X7_readRec]
      exact pioK_ob_X7_readRec hP hc h
    · intro x0 x1 x2 σ h
      rw [oE_X7_readSet]
      exact pioK_ob_X7_readSet hP hc h
    · intro x0 σ h
      rw [oE_X7_readProgram]
      exact pioK_ob_X7_readProgram hP hc h
    · intro x0 x1 σ h
      rw [oE_X10_make]
      exact pioK_ob_X10_make hP hc h
    · intro x0 x1 σ h
      rw [oE_X10_init]
      exact pioK_ob_X10_init hP hc h
    · intro x0 σ h
      rw [oE_X10_basic]
      exact pioK_ob_X10_basic hP hc h
    · intro x0 x1 x2 σ h
      rw [oE_X10_function]
      exact pioK_ob_X10_function hP hc h
    · intro x0 x1 x2 σ h
      rw [oE_X10_unify]
      exact pioK_ob_X10_unify hP hc h
    · intro x0 x1 σ h
      rw [oE_X10_isFinite]
      exact pioK_ob_X10_isFinite hP hc h
    · intro x0 x1 x2 x3 σ h
      rw [oE_X10_must]
      exact pioK_ob_X10_must hP hc h
    · intro x0 x1 σ h
      rw [oE_X10_checkSum]
      exact pioK_ob_X10_checkSum hP hc h
    · intro x0 x1 σ h
      rw [oE_X10_checkTest]
      exact pioK_ob_X10_checkTest hP hc h
    · intro x0 x1 σ h
      rw [oE_X10_inferPlain]
      exact pioK_ob_X10_inferPlain hP hc h
    · intro x0 x1 σ h
      rw [oE_X10_infer]
      exact pioK_ob_X10_infer hP hc h
    · intro x0 x1 σ h
      rw [oE_X10_inferCall]
      exact pioK_ob_X10_inferCall hP hc h
    · intro x0 x1 σ h
      rw [oE_X10_inferMatch]
      exact pioK_ob_X10_inferMatch hP hc h
    · intro x0 x1 σ h
      rw [oE_X10_inferRec]
      exact pioK_ob_X10_inferRec hP hc h
    · intro x0 x1 σ h
      rw [oE_X10_leavesOf]
      exact pioK_ob_X10_leavesOf hP hc h
    · intro x0 x1 σ h
      rw [oE_X10_countTemplates]
      exact pioK_ob_X10_countTemplates hP hc h
    · intro x0 x1 σ h
      rw [oE_X10_findAll]
      exact pioK_ob_X10_findAll hP hc h
    · intro x0 σ h
      rw [oE_X11_isLetter]
      exact pioK_ob_X11_isLetter hP hc h
    · intro x0 σ h
      rw [oE_X11_isDigit]
      exact pioK_ob_X11_isDigit hP hc h
    · intro x0 x1 σ h
      rw [oE_X11_continues]
      exact pioK_ob_X11_continues hP hc h
    · intro x0 x1 σ h
      rw [oE_X11_doubleSign]
      exact pioK_ob_X11_doubleSign hP hc h
    · intro x0 x1 σ h
      rw [oE_X11_endOfWord]
      exact pioK_ob_X11_endOfWord hP hc h
    · intro x0 x1 x2 x3 σ h
      rw [oE_X11_sameLetters]
      exact pioK_ob_X11_sameLetters hP hc h
    · intro x0 x1 x2 σ h
      rw [oE_X11_keyword]
      exact pioK_ob_X11_keyword hP hc h
    · intro x0 x1 x2 σ h
      rw [oE_X11_add]
      exact pioK_ob_X11_add hP hc h
    · intro x0 σ h
      rw [oE_X11_split]
      exact pioK_ob_X11_split hP hc h
    · intro x0 x1 σ h
      rw [oE_X11_init]
      exact pioK_ob_X11_init hP hc h
    · intro x0 x1 x2 σ h
      rw [oE_X12_fault]
      exact pioK_ob_X12_fault hP hc h
    · intro x0 σ h
      rw [oE_X12_compile]
      exact pioK_ob_X12_compile hP hc h
    · intro x0 x1 σ h
      rw [oE_J0_init_905df]
      exact pioK_ob_J0_init_905df hP hc h
    · intro x0 x1 x2 x3 x4 σ h
      rw [oE_J0_init_bb550]
      exact pioK_ob_J0_init_bb550 hP hc h
    · intro x0 x1 x2 σ h
      rw [oE_J2_compress_dfd3c]
      exact pioK_ob_J2_compress_dfd3c hP hc h
    · intro x0 x1 x2 x3 x4 σ h
      rw [oE_J2_compress_fe38e]
      exact pioK_ob_J2_compress_fe38e hP hc h
    · intro x0 x1 σ h
      rw [oE_J2_coderFromArrayLen_85cad]
      exact pioK_ob_J2_coderFromArrayLen_85cad hP hc h
    · intro x0 x1 σ h
      rw [oE_J0_charAt_5068e]
      exact pioK_ob_J0_charAt_5068e hP hc h
    · intro x0 σ h
      rw [oE_J0_isLatin1_aae02]
      exact pioK_ob_J0_isLatin1_aae02 hP hc h
    · intro x0 x1 σ h
      rw [oE_J1_charAt_3b067]
      exact pioK_ob_J1_charAt_3b067 hP hc h
    · intro x0 x1 σ h
      rw [oE_J0_checkIndex_df160]
      exact pioK_ob_J0_checkIndex_df160 hP hc h
    · intro x0 x1 σ h
      rw [oE_J15_checkIndex_7cf53]
      exact pioK_ob_J15_checkIndex_7cf53 hP hc h
    · intro x0 x1 x2 σ h
      rw [oE_J3_checkIndex_8e157]
      exact pioK_ob_J3_checkIndex_8e157 hP hc h
    · intro x0 σ h
      rw [oE_J0_length_8abf5]
      exact pioK_ob_J0_length_8abf5 hP hc h
    · intro x0 σ h
      rw [oE_J0_coder_7d493]
      exact pioK_ob_J0_coder_7d493 hP hc h
    · intro x0 x1 x2 σ h
      rw [oE_J0_substring_37a41]
      exact pioK_ob_J0_substring_37a41 hP hc h
    · intro x0 x1 x2 σ h
      rw [oE_J0_checkBoundsBeginEnd_23922]
      exact pioK_ob_J0_checkBoundsBeginEnd_23922 hP hc h
    · intro x0 x1 x2 x3 σ h
      rw [oE_J3_checkFromToIndex_8c36e]
      exact pioK_ob_J3_checkFromToIndex_8c36e hP hc h
    · intro x0 x1 x2 σ h
      rw [oE_J1_newString_b4f7a]
      exact pioK_ob_J1_newString_b4f7a hP hc h
    · intro x0 x1 x2 σ h
      rw [oE_J7_copyOfRange_39247]
      exact pioK_ob_J7_copyOfRange_39247 hP hc h
    · intro x0 x1 x2 σ h
      rw [oE_J7_copyOfRangeByte_39247]
      exact pioK_ob_J7_copyOfRangeByte_39247 hP hc h
    · intro x0 x1 σ h
      rw [oE_J7_checkLength_df160]
      exact pioK_ob_J7_checkLength_df160 hP hc h
    · intro x0 x1 x2 σ h
      rw [oE_J0_init_031fb]
      exact pioK_ob_J0_init_031fb hP hc h
    · intro x0 x1 σ h
      rw [oE_J0_equals_9ea2d]
      exact pioK_ob_J0_equals_9ea2d hP hc h
    · intro x0 x1 σ h
      rw [oE_J1_equals_b5fdf]
      exact pioK_ob_J1_equals_b5fdf hP hc h
    · intro x0 x1 σ h
      rw [oE_J0_indexOf_0f7a4]
      exact pioK_ob_J0_indexOf_0f7a4 hP hc h
    · intro x0 x1 x2 σ h
      rw [oE_J0_indexOf_7cf53]
      exact pioK_ob_J0_indexOf_7cf53 hP hc h
    · intro x0 x1 x2 x3 σ h
      rw [oE_J1_indexOf_4cfef]
      exact pioK_ob_J1_indexOf_4cfef hP hc h
    · intro x0 σ h
      rw [oE_J1_canEncode_9a6ad]
      exact pioK_ob_J1_canEncode_9a6ad hP hc h
    · intro x0 x1 x2 x3 σ h
      rw [oE_J1_indexOfChar_4cfef]
      exact pioK_ob_J1_indexOfChar_4cfef hP hc h
    · intro x0 σ h
      rw [oE_Jx4a65c_init_da8c8]
      exact pioK_ob_Jx4a65c_init_da8c8 hP hc h
    · intro x0 σ h
      rw [oE_Jxc12de_init_da8c8]
      exact pioK_ob_Jxc12de_init_da8c8 hP hc h
    · intro x0 σ h
      rw [oE_Jxa1e45_init_da8c8]
      exact pioK_ob_Jxa1e45_init_da8c8 hP hc h
    · intro x0 x1 σ h
      rw [oE_Jx4a65c_add_9ea2d]
      exact pioK_ob_Jx4a65c_add_9ea2d hP hc h
    · intro x0 x1 x2 x3 σ h
      rw [oE_Jx4a65c_add_72be8]
      exact pioK_ob_Jx4a65c_add_72be8 hP hc h
    · intro x0 σ h
      rw [oE_Jx4a65c_grow_d5877]
      exact pioK_ob_Jx4a65c_grow_d5877 hP hc h
    · intro x0 x1 σ h
      rw [oE_Jx4a65c_grow_92f84]
      exact pioK_ob_Jx4a65c_grow_92f84 hP hc h
    · intro x0 x1 x2 σ h
      rw [oE_J8_newLength_cabcc]
      exact pioK_ob_J8_newLength_cabcc hP hc h
    · intro x0 x1 σ h
      rw [oE_J7_copyOf_1904c]
      exact pioK_ob_J7_copyOf_1904c hP hc h
    · intro x0 x1 x2 σ h
      rw [oE_J7_copyOf_6403c]
      exact pioK_ob_J7_copyOf_6403c hP hc h
    · intro x0 x1 σ h
      rw [oE_Jx4a65c_get_915e3]
      exact pioK_ob_Jx4a65c_get_915e3 hP hc h
    · intro x0 x1 σ h
      rw [oE_Jx4a65c_elementData_915e3]
      exact pioK_ob_Jx4a65c_elementData_915e3 hP hc h
    · intro x0 σ h
      rw [oE_Jx4a65c_size_8abf5]
      exact pioK_ob_Jx4a65c_size_8abf5 hP hc h
    · intro x0 x1 σ h
      rw [oE_J7_copyOf_59c91]
      exact pioK_ob_J7_copyOf_59c91 hP hc h
    · intro x0 x1 σ h
      rw [oE_J7_fill_d0a16]
      exact pioK_ob_J7_fill_d0a16 hP hc h
    · intro x0 x1 σ h
      rw [oE_J7_fill_53178]
      exact pioK_ob_J7_fill_53178 hP hc h
end OPGK
