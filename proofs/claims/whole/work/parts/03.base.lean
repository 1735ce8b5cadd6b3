/-! words of mine for a contract's start and end, and fields as a list of which some places are known -/
/-- a contract's start: the arguments, the heap's size, the cells, the array classes, the cells apart -/
def zPc (dC : Nat → ClassId) (dI : Nat → Nat → Nat) (sz : Nat) (av : List Value) (ws : va_W) (tys : List (ClassId × FieldType)) : Array Value → State → Prop := va_Pc av (fun U => U.heap.size = sz ∧ va_P (dC, dI) vwCl ws U.heap ∧ va_K (dC, dI) vwCl tys U ∧ va_D (fun _ => True) ws)
/-- the world behind a method -/
def zB {S : Type} (dC : Nat → ClassId) (dI : Nat → Nat → Nat) (tys : S → List (ClassId × FieldType)) (ws : S → va_W) (A : Nat → Prop) (u : S) (t : State) : Prop := va_P (dC, dI) vwCl (ws u) t.heap ∧ va_K (dC, dI) vwCl (tys u) t ∧ va_D A (ws u)
theorem zB_mk {S : Type} {dC : Nat → ClassId} {dI : Nat → Nat → Nat} {tys : S → List (ClassId × FieldType)} {ws : S → va_W} {A : Nat → Prop} {u : S} {t : State} (h1 : va_P (dC, dI) vwCl (ws u) t.heap) (h2 : va_K (dC, dI) vwCl (tys u) t) (h3 : va_D A (ws u)) : zB dC dI tys ws A u t := ⟨h1, h2, h3⟩
theorem zs_lt {fs : List Value} {N k : Nat} (h : fs.length = N) (hk : k < N) : k < fs.length := h ▸ hk
theorem zs_len {fs : List Value} {N k : Nat} {v : Value} (h : fs.length = N) : (fs.set k v).length = N := by rw [List.length_set]; exact h
theorem zs_eq {fs : List Value} {k : Nat} {v : Value} (h : k < fs.length) : (fs.set k v)[k]? = some v := by simp [h]
theorem zs_ne {fs : List Value} {k j : Nat} {v w : Value} (h : k ≠ j) (hj : fs[j]? = some w) : (fs.set k v)[j]? = some w := by rw [List.getElem?_set_ne h]; exact hj
