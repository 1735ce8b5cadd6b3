/-! a plain logic of the methods of the reference: a state of numbers and rows, a rule an instruction -/
/-- numbers and long numbers by field, rows of numbers and of long numbers by row -/
abbrev zSt : Type := (Nat → Int32) × (Nat → Int64) × (Nat → Nat → Int32) × (Nat → Nat → Int64)
abbrev zLv : Type := List (Option Value)
def zkcl : List (Nat × Nat) := [(2, 0), (2, 1), (2, 2), (0, 0), (0, 0), (0, 0), (2, 3), (2, 4), (2, 5), (0, 0), (0, 0), (0, 0), (0, 0), (2, 6), (2, 7), (2, 8), (2, 9), (2, 10), (2, 11), (2, 12), (0, 0), (2, 13), (2, 14), (2, 15), (0, 0), (2, 16), (2, 17), (2, 18), (0, 0), (2, 19), (2, 20), (2, 21), (0, 0), (0, 0), (2, 22), (2, 23), (2, 24), (2, 25), (2, 26), (0, 0), (2, 27), (2, 28), (0, 0), (0, 0), (2, 29), (0, 0), (2, 30), (2, 31), (2, 32), (2, 33), (0, 0), (0, 0), (0, 0), (2, 34), (2, 35), (2, 36), (2, 37), (2, 38), (2, 39), (0, 0), (0, 0), (2, 40), (2, 41), (0, 0), (1, 0), (0, 0), (0, 0), (0, 0), (0, 0), (0, 0), (2, 42), (2, 43), (2, 44), (2, 45), (2, 46), (0, 0), (2, 47), (2, 48), (2, 49), (0, 0), (2, 50), (2, 51), (2, 52), (2, 53), (2, 54), (0, 0), (2, 55), (2, 56), (2, 57), (2, 58), (2, 59), (0, 0), (2, 60), (2, 61), (2, 62), (2, 63), (2, 64), (2, 65), (0, 0), (0, 0), (0, 0), (2, 66), (2, 67), (2, 68), (2, 69), (2, 70), (2, 71), (2, 72), (2, 73), (0, 0), (0, 0), (2, 74), (2, 75), (2, 76), (2, 77), (2, 78), (0, 0), (2, 79), (2, 80), (2, 81), (2, 82), (2, 83), (2, 84), (0, 0), (2, 85), (2, 86), (0, 0), (2, 87), (2, 88), (2, 89), (2, 90), (0, 0), (0, 0), (0, 0), (0, 0), (0, 0), (0, 0), (1, 0), (0, 0), (0, 0), (1, 0), (0, 0), (2, 91), (2, 92), (0, 0), (2, 93), (2, 94), (2, 95), (2, 96), (2, 97), (2, 98), (2, 99), (0, 0), (0, 0), (0, 0), (0, 0), (2, 100), (2, 101), (0, 0), (2, 102), (0, 0), (2, 103), (2, 104), (0, 0), (0, 0), (0, 0), (1, 0), (2, 105), (2, 106), (2, 107), (2, 108), (0, 0), (2, 109), (2, 110), (2, 111), (2, 112), (0, 0), (2, 113), (2, 114), (2, 115), (0, 0), (0, 0), (2, 116), (2, 117), (2, 118), (2, 119), (2, 120), (2, 121), (0, 0), (0, 0), (0, 0), (0, 0), (0, 0), (1, 0), (0, 0), (0, 0)]
def zkc (k : Nat) : Nat × Nat := zkcl.getD k (3, 0)
def zlgl : List Bool := [false, false, false, false, false, false, false, false, false, false, false, false, false, false, false, false, false, false, false, false, false, false, false, false, false, false, false, false, false, false, false, false, false, false, false, false, false, false, false, false, false, false, false, false, false, false, false, false, false, false, false, false, false, false, true, false, false, false, false, true, false, false, false, false, false, false, false, false, false, false, false, false, false, false, false, false, false, false, false, false, false, false, false, false, false, false, false, true, true, false, false, false, false, false, false, false, false, false, false, true, false, false, false, true, true, false, false, false, true, false, false, false, false, false, false, true, false, false, false, true, false, false]
def zlg (i : Nat) : Bool := zlgl.getD i false
def zval (qs : List Nat) (σ : zSt) (k : Nat) : Value := if (zkc k).1 = 0 then .int (σ.1 k) else if (zkc k).1 = 1 then .long (σ.2.1 k) else .ref (qs.getD (zkc k).2 0)
def zfl (qs : List Nat) (σ : zSt) : List Value := (List.range 196).map (zval qs σ)
def zrc (σ : zSt) (i : Nat) : vp_A := ((zspf i).1, if zlg i = true then .inr (.inl (σ.2.2.2 i)) else .inl (σ.2.2.1 i))
def zrw (qs : List Nat) (cs : List ClassId) (σ : zSt) (i : Nat) : Nat × va_E := (qs.getD i 0, .inl (cs.getD i 0, zrc σ i))
/-- the cells of the reference -/
def zwR (h0 : Nat) (qs : List Nat) (cs : List ClassId) (σ : zSt) : va_W := (h0, .inr (15, zfl qs σ)) :: (List.range 122).map (zrw qs cs σ)
def zI (σ : zSt) (k : Nat) (v : Int32) : zSt := (fun j => if j = k then v else σ.1 j, σ.2)
def zJ (σ : zSt) (k : Nat) (v : Int64) : zSt := (σ.1, fun j => if j = k then v else σ.2.1 j, σ.2.2)
def zA (σ : zSt) (i : Nat) (f : Nat → Int32) : zSt := (σ.1, σ.2.1, fun j => if j = i then f else σ.2.2.1 j, σ.2.2.2)
def zG (σ : zSt) (i : Nat) (f : Nat → Int64) : zSt := (σ.1, σ.2.1, σ.2.2.1, fun j => if j = i then f else σ.2.2.2 j)
theorem zfl_len (qs : List Nat) (σ : zSt) : (zfl qs σ).length = 196 := by simp [zfl]
theorem zfl_at {qs : List Nat} {σ : zSt} {k : Nat} (hk : k < 196) : (zfl qs σ)[k]? = some (zval qs σ k) := by simp [zfl, hk]
theorem zwR_at {h0 : Nat} {qs : List Nat} {cs : List ClassId} {σ : zSt} {i : Nat} (hi : i < 122) : (zwR h0 qs cs σ)[i + 1]? = some (zrw qs cs σ i) := by simp [zwR, hi]
theorem zrw_i {qs : List Nat} {cs : List ClassId} {σ : zSt} {i : Nat} (hi : i < 122) (h : zlg i = false) (h0 : Nat) : (zwR h0 qs cs σ)[i + 1]? = some (qs.getD i 0, .inl (cs.getD i 0, (zspf i).1, .inl (σ.2.2.1 i))) := by
  rw [zwR_at hi]; simp [zrw, zrc, h]
theorem zrw_l {qs : List Nat} {cs : List ClassId} {σ : zSt} {i : Nat} (hi : i < 122) (h : zlg i = true) (h0 : Nat) : (zwR h0 qs cs σ)[i + 1]? = some (qs.getD i 0, .inl (cs.getD i 0, (zspf i).1, .inr (.inl (σ.2.2.2 i)))) := by
  rw [zwR_at hi]; simp [zrw, zrc, h]
theorem zfl_I {qs : List Nat} {σ : zSt} {k : Nat} {v : Int32} (h : (zkc k).1 = 0) : (zfl qs σ).set k (.int v) = zfl qs (zI σ k v) := by
  apply List.ext_getElem?
  intro j
  by_cases hj : j < 196
  · by_cases e : k = j
    · subst e
      rw [List.getElem?_set_self (by rw [zfl_len]; exact hj), zfl_at hj]
      simp [zval, h, zI]
    · rw [List.getElem?_set_ne e, zfl_at hj, zfl_at hj]
      have e2 : ¬ j = k := fun x => e x.symm
      simp [zval, zI, e2]
  · have a1 : (zfl qs σ).set k (.int v) = (zfl qs σ).set k (.int v) := rfl
    rw [List.getElem?_eq_none (by rw [List.length_set, zfl_len]; omega), List.getElem?_eq_none (by rw [zfl_len]; omega)]
theorem zfl_J {qs : List Nat} {σ : zSt} {k : Nat} {v : Int64} (h : (zkc k).1 = 1) : (zfl qs σ).set k (.long v) = zfl qs (zJ σ k v) := by
  apply List.ext_getElem?
  intro j
  by_cases hj : j < 196
  · by_cases e : k = j
    · subst e
      rw [List.getElem?_set_self (by rw [zfl_len]; exact hj), zfl_at hj]
      simp [zval, h, zJ]
    · rw [List.getElem?_set_ne e, zfl_at hj, zfl_at hj]
      have e2 : ¬ j = k := fun x => e x.symm
      simp [zval, zJ, e2]
  · rw [List.getElem?_eq_none (by rw [List.length_set, zfl_len]; omega), List.getElem?_eq_none (by rw [zfl_len]; omega)]
theorem zwR_I {h0 : Nat} {qs : List Nat} {cs : List ClassId} {σ : zSt} {k : Nat} {v : Int32} (h : (zkc k).1 = 0) : (zwR h0 qs cs σ).set 0 (h0, .inr (15, (zfl qs σ).set k (.int v))) = zwR h0 qs cs (zI σ k v) := by
  rw [zfl_I h]; rfl
theorem zwR_J {h0 : Nat} {qs : List Nat} {cs : List ClassId} {σ : zSt} {k : Nat} {v : Int64} (h : (zkc k).1 = 1) : (zwR h0 qs cs σ).set 0 (h0, .inr (15, (zfl qs σ).set k (.long v))) = zwR h0 qs cs (zJ σ k v) := by
  rw [zfl_J h]; rfl
theorem zmap_set {α : Type} {N i : Nat} {f g : Nat → α} {x : α} (hi : i < N) (hx : g i = x) (ho : ∀ j, j ≠ i → g j = f j) : ((List.range N).map f).set i x = (List.range N).map g := by
  apply List.ext_getElem?
  intro j
  by_cases hj : j < N
  · by_cases e : i = j
    · subst e
      rw [List.getElem?_set_self (by simpa using hj)]
      simp [hj, hx]
    · rw [List.getElem?_set_ne e]
      simp [hj, ho j (fun x => e x.symm)]
  · rw [List.getElem?_eq_none (by simp; omega), List.getElem?_eq_none (by simp; omega)]
theorem zwR_A {h0 : Nat} {qs : List Nat} {cs : List ClassId} {σ : zSt} {i : Nat} {f : Nat → Int32} (hi : i < 122) (h : zlg i = false) : (zwR h0 qs cs σ).set (i + 1) (qs.getD i 0, .inl (cs.getD i 0, (zspf i).1, .inl f)) = zwR h0 qs cs (zA σ i f) := by
  show (h0, _) :: ((List.range 122).map (zrw qs cs σ)).set i _ = (h0, _) :: _
  rw [zmap_set (g := zrw qs cs (zA σ i f)) hi (by simp [zrw, zrc, h, zA]) (fun j hj => by simp [zrw, zrc, zA, hj])]
  rfl
theorem zwR_G {h0 : Nat} {qs : List Nat} {cs : List ClassId} {σ : zSt} {i : Nat} {f : Nat → Int64} (hi : i < 122) (h : zlg i = true) : (zwR h0 qs cs σ).set (i + 1) (qs.getD i 0, .inl (cs.getD i 0, (zspf i).1, .inr (.inl f))) = zwR h0 qs cs (zG σ i f) := by
  show (h0, _) :: ((List.range 122).map (zrw qs cs σ)).set i _ = (h0, _) :: _
  rw [zmap_set (g := zrw qs cs (zG σ i f)) hi (by simp [zrw, zrc, h, zG]) (fun j hj => by simp [zrw, zrc, zG, hj])]
  rfl
theorem zwR_D {h0 : Nat} {qs : List Nat} {cs : List ClassId} {σ τ : zSt} {A : Nat → Prop} (h : va_D A (zwR h0 qs cs σ)) : va_D A (zwR h0 qs cs τ) := by
  have key : ∀ (k : Nat) (q : Nat × va_E), (zwR h0 qs cs τ)[k]? = some q → ∃ q', (zwR h0 qs cs σ)[k]? = some q' ∧ q'.1 = q.1 := by
    intro k q hq
    cases k with
    | zero => exact ⟨_, rfl, by cases hq; rfl⟩
    | succ i =>
      have hi : i < 122 := by
        have := (List.getElem?_eq_some_iff.mp hq).1
        simp [zwR] at this
        omega
      rw [zwR_at hi] at hq
      cases hq
      exact ⟨_, zwR_at hi, rfl⟩
  refine ⟨fun i j p q hp hq e => ?_, fun k q hq => ?_⟩
  · obtain ⟨p', a1, a2⟩ := key i p hp
    obtain ⟨q', b1, b2⟩ := key j q hq
    exact h.1 i j p' q' a1 b1 (by rw [a2, b2]; exact e)
  · obtain ⟨q', a1, a2⟩ := key k q hq
    rw [← a2]
    exact h.2 k q' a1
/-- what a method's own places hold, by place -/
def zhas (ls : Array Slot) (nL : Nat) (lv : zLv) : Prop := ls.size = nL ∧ lv_wf ls ∧ ∀ (i : Nat) (v : Value), lv[i]? = some (some v) → ls[i]? = some (.val v)
def zle : zLv → zLv → Prop
  | [], _ => True
  | none :: a, _ :: b => zle a b
  | none :: a, [] => zle a []
  | some v :: a, o :: b => o = some v ∧ zle a b
  | some _ :: _, [] => False
theorem zle_at : ∀ (a b : zLv), zle a b → ∀ (i : Nat) (v : Value), a[i]? = some (some v) → b[i]? = some (some v)
  | [], _, _, i, v, h => by simp at h
  | none :: a, x :: b, h, 0, v, e => by simp at e
  | none :: a, x :: b, h, i + 1, v, e => by simpa using zle_at a b h i v (by simpa using e)
  | none :: a, [], h, 0, v, e => by simp at e
  | none :: a, [], h, i + 1, v, e => by simpa using zle_at a [] h i v (by simpa using e)
  | some w :: a, o :: b, h, 0, v, e => by
    have e2 : w = v := by simpa using e
    subst e2
    simpa using h.1
  | some w :: a, o :: b, h, i + 1, v, e => by simpa using zle_at a b h.2 i v (by simpa using e)
def zlo (lv : zLv) (i : Nat) : Bool := match i with
  | 0 => true
  | j + 1 => match lv[j]? with
    | some (some w) => w.category == 1
    | _ => true
def zlist (lv : zLv) : List (Nat × Value) := (List.range lv.length).filterMap (fun i => (lv.getD i none).map (fun v => (i, v)))
theorem zlist_mem {lv : zLv} {i : Nat} {v : Value} : (i, v) ∈ zlist lv ↔ lv[i]? = some (some v) := by
  unfold zlist
  rw [List.mem_filterMap]
  constructor
  · rintro ⟨j, hj, e⟩
    rw [List.mem_range] at hj
    cases hg : lv.getD j none with
    | none => rw [hg] at e; cases e
    | some w =>
      rw [hg] at e
      simp at e
      obtain ⟨rfl, rfl⟩ := e
      rw [List.getD_eq_getElem?_getD, List.getElem?_eq_getElem hj] at hg
      rw [List.getElem?_eq_getElem hj]
      simpa using hg
  · intro h
    have hi : i < lv.length := (List.getElem?_eq_some_iff.mp h).1
    refine ⟨i, List.mem_range.mpr hi, ?_⟩
    rw [List.getD_eq_getElem?_getD, h]
    rfl
theorem zhas.to {ls : Array Slot} {nL : Nat} {lv : zLv} (h : zhas ls nL lv) : lv_has ls nL (zlist lv) := ⟨h.1, h.2.1, fun q hq => h.2.2 q.1 q.2 (zlist_mem.mp hq)⟩
theorem zhas.st1 {ls : Array Slot} {nL i : Nat} {lv : zLv} {v : Value} (hlo : zlo lv i = true) (h : lv_has ls nL ((i, v) :: (zlist lv).filter (fun q => !(q.1 == i) && !(q.1 + 1 == i && q.2.category == 2)))) : zhas ls nL (lv.set i (some v)) := by
  refine ⟨h.1, h.2.1, fun j w hw => ?_⟩
  by_cases e : i = j
  · subst e
    have hl : i < lv.length := by
      have := (List.getElem?_eq_some_iff.mp hw).1
      simpa using this
    rw [List.getElem?_set_self hl] at hw
    cases hw
    exact h.2.2 (i, v) (List.mem_cons_self)
  · rw [List.getElem?_set_ne e] at hw
    refine h.2.2 (j, w) (List.mem_cons_of_mem _ (List.mem_filter.mpr ⟨zlist_mem.mpr hw, ?_⟩))
    have e2 : ¬ j = i := fun x => e x.symm
    by_cases e3 : j + 1 = i
    · subst e3
      simp only [zlo, hw] at hlo
      simp at hlo
      simp [hlo]
    · simp [e2, e3]
theorem zhas.st2 {ls : Array Slot} {nL i : Nat} {lv : zLv} {v : Value} (hlo : zlo lv i = true) (h : lv_has ls nL ((i, v) :: (zlist lv).filter (fun q => !(q.1 == i) && (!(q.1 == i + 1) && !(q.1 + 1 == i && q.2.category == 2))))) : zhas ls nL ((lv.set i (some v)).set (i + 1) none) := by
  refine ⟨h.1, h.2.1, fun j w hw => ?_⟩
  by_cases e4 : i + 1 = j
  · subst e4
    by_cases hl : i + 1 < (lv.set i (some v)).length
    · rw [List.getElem?_set_self hl] at hw; simp at hw
    · rw [List.getElem?_eq_none (by rw [List.length_set]; omega)] at hw; cases hw
  rw [List.getElem?_set_ne e4] at hw
  by_cases e : i = j
  · subst e
    have hl : i < lv.length := by
      have := (List.getElem?_eq_some_iff.mp hw).1
      simpa using this
    rw [List.getElem?_set_self hl] at hw
    cases hw
    exact h.2.2 (i, v) (List.mem_cons_self)
  · rw [List.getElem?_set_ne e] at hw
    refine h.2.2 (j, w) (List.mem_cons_of_mem _ (List.mem_filter.mpr ⟨zlist_mem.mpr hw, ?_⟩))
    have e2 : ¬ j = i := fun x => e x.symm
    have e5 : ¬ j = i + 1 := fun x => e4 x.symm
    by_cases e3 : j + 1 = i
    · subst e3
      simp only [zlo, hw] at hlo
      simp at hlo
      simp [hlo, e5]
    · simp [e2, e3, e5]

/-- the methods: name, bytes, places, parameters, static, answer -/
abbrev zMt : Type := MethodName × ByteArray × Nat × Nat × Bool × Option FieldType
def zmt0 : List zMt := [(yX13_feed, cX13_feed, 8, 5, false, (some .boolean)), (yX13_end, cX13_end, 2, 1, false, (some .boolean)), (yX13_out, cX13_out, 2, 1, false, (some .int)), (yX13_fault, cX13_fault, 3, 2, false, none), (yX13_isLow, cX13_isLow, 1, 1, true, (some .boolean)), (yX13_isDigit, cX13_isDigit, 1, 1, true, (some .boolean)), (yX13_word, cX13_word, 4, 3, false, none), (yX13_isText, cX13_isText, 4, 2, false, (some .boolean)), (yX13_isKey, cX13_isKey, 7, 1, false, (some .boolean)), (yX13_readWords, cX13_readWords, 7, 0, false, none), (yX13_node, cX13_node, 3, 2, false, (some .int)), (yX13_here, cX13_here, 2, 1, false, (some .boolean)), (yX13_skip, cX13_skip, 3, 1, false, (some .boolean)), (yX13_form, cX13_form, 1, 0, false, none), (yX13_must, cX13_must, 2, 1, false, none), (yX13_name, cX13_name, 1, 0, false, (some .int)), (yX13_numberOf, cX13_numberOf, 4, 1, false, (some .int)), (yX13_number, cX13_number, 1, 0, false, (some .int)), (yX13_relation, cX13_relation, 1, 0, false, (some .int)), (yX13_isArgument, cX13_isArgument, 1, 0, false, (some .boolean)), (yX13_part, cX13_part, 3, 1, false, none), (yX13_sum, cX13_sum, 3, 0, false, (some .int)), (yX13_both, cX13_both, 3, 0, false, (some .int)), (yX13_condition, cX13_condition, 3, 0, false, (some .int)), (yX13_single, cX13_single, 5, 0, false, (some .int)), (yX13_call, cX13_call, 9, 1, false, (some .int)), (yX13_expression, cX13_expression, 4, 0, false, (some .int)), (yX13_matching, cX13_matching, 3, 1, false, (some .int)), (yX13_simple, cX13_simple, 3, 1, false, (some .int)), (yX13_within, cX13_within, 2, 0, false, (some .int)), (yX13_program, cX13_program, 4, 0, false, none), (yX13_sameWord, cX13_sameWord, 4, 2, false, (some .boolean)), (yX13_wrongName, cX13_wrongName, 2, 1, false, none), (yX13_tell, cX13_tell, 2, 1, false, (some .int)), (yX13_counts, cX13_counts, 3, 1, false, none), (yX13_uses, cX13_uses, 3, 1, false, none)]
def zmt1 : List zMt := [(yX13_namesOfSum, cX13_namesOfSum, 3, 1, false, none), (yX13_namesOfCondition, cX13_namesOfCondition, 2, 1, false, none), (yX13_parameters, cX13_parameters, 3, 1, false, (some .int)), (yX13_namesOf, cX13_namesOf, 6, 1, false, none), (yX13_newType, cX13_newType, 4, 3, false, (some .int)), (yX13_openType, cX13_openType, 1, 0, false, (some .int)), (yX13_real, cX13_real, 3, 1, false, (some .int)), (yX13_isIn, cX13_isIn, 4, 2, false, (some .boolean)), (yX13_join, cX13_join, 7, 2, false, (some .boolean)), (yX13_mustBe, cX13_mustBe, 4, 3, false, none), (yX13_typesOfSum, cX13_typesOfSum, 3, 1, false, none), (yX13_typesOfCondition, cX13_typesOfCondition, 2, 1, false, none), (yX13_isName, cX13_isName, 2, 1, false, (some .boolean)), (yX13_typeOf, cX13_typeOf, 3, 1, false, (some .int)), (yX13_typeOfCall, cX13_typeOfCall, 8, 1, false, (some .int)), (yX13_typed, cX13_typed, 7, 1, false, (some .int)), (yX13_sort, cX13_sort, 3, 1, false, (some .int)), (yX13_clearLine, cX13_clearLine, 1, 0, false, none), (yX13_addName, cX13_addName, 4, 2, false, none), (yX13_addSum, cX13_addSum, 5, 2, false, none), (yX13_isForm, cX13_isForm, 2, 0, false, (some .boolean)), (yX13_isTerm, cX13_isTerm, 2, 1, false, (some .boolean)), (yX13_wrongForm, cX13_wrongForm, 2, 1, false, none), (yX13_count, cX13_count, 2, 1, false, (some .int)), (yX13_formsOfCondition, cX13_formsOfCondition, 2, 1, false, none), (yX13_leaves, cX13_leaves, 5, 2, false, (some .int)), (yX13_wants, cX13_wants, 3, 2, false, none), (yX13_formsOf, cX13_formsOf, 5, 2, false, none), (yX13_check, cX13_check, 2, 0, false, none), (yX13_compile, cX13_compile, 3, 0, false, (some .int)), (yX13_place, cX13_place, 1, 0, false, (some .int)), (yX13_rich, cX13_rich, 6, 5, false, (some .int)), (yX13_said, cX13_said, 4, 3, false, (some .int)), (yX13_fact, cX13_fact, 7, 5, false, (some .int)), (yX13_isSum, cX13_isSum, 2, 1, false, (some .int)), (yX13_isSaid, cX13_isSaid, 1, 1, true, (some .boolean))]
def zmt2 : List zMt := [(yX13_plainType, cX13_plainType, 2, 1, false, (some .int)), (yX13_knows, cX13_knows, 4, 3, false, (some .int)), (yX13_gone, cX13_gone, 4, 3, false, (some .int)), (yX13_namesAt, cX13_namesAt, 4, 1, false, none), (yX13_template, cX13_template, 10, 3, false, (some .int)), (yX13_put, cX13_put, 9, 5, false, (some .int)), (yX13_mustFit, cX13_mustFit, 8, 4, false, none), (yX13_mustBeSo, cX13_mustBeSo, 7, 6, false, none), (yX13_ofName, cX13_ofName, 3, 1, false, (some .int)), (yX13_ofSign, cX13_ofSign, 8, 3, false, (some .int)), (yX13_ofCall, cX13_ofCall, 10, 3, false, (some .int)), (yX13_richOf, cX13_richOf, 12, 3, false, (some .int)), (yX13_beginBounds, cX13_beginBounds, 2, 0, false, none), (yX13_columnOf, cX13_columnOf, 2, 1, false, (some .int)), (yX13_downwards, cX13_downwards, 6, 2, true, (some .long)), (yX13_lower, cX13_lower, 6, 4, false, none), (yX13_atMost, cX13_atMost, 13, 6, false, (some .boolean)), (yX13_closes, cX13_closes, 9, 0, false, (some .boolean)), (yX13_says, cX13_says, 12, 5, false, (some .boolean)), (yX13_putIn, cX13_putIn, 2, 1, false, none), (yX13_termOf, cX13_termOf, 6, 4, false, none), (yX13_instanceTerm, cX13_instanceTerm, 4, 2, false, none), (yX13_relates, cX13_relates, 8, 2, false, (some .boolean)), (yX13_saysOf, cX13_saysOf, 6, 2, false, (some .boolean)), (yX13_way, cX13_way, 7, 5, false, none), (yX13_lineWay, cX13_lineWay, 6, 2, false, none), (yX13_leaf, cX13_leaf, 8, 0, false, none), (yX13_open, cX13_open, 3, 2, false, none), (yX13_compares, cX13_compares, 5, 2, false, none), (yX13_go, cX13_go, 3, 0, false, none), (yX13_sized, cX13_sized, 5, 2, false, none), (yX13_truth, cX13_truth, 4, 2, false, none), (yX13_namesSaid, cX13_namesSaid, 4, 1, false, none), (yX13_namesIn, cX13_namesIn, 2, 1, false, none), (yX13_namesOfGone, cX13_namesOfGone, 3, 1, false, none), (yX13_under, cX13_under, 7, 3, false, (some .boolean))]
def zmt3 : List zMt := [(yX13_fit, cX13_fit, 6, 1, false, (some .boolean)), (yX13_isSo, cX13_isSo, 5, 1, false, (some .boolean)), (yX13_decide, cX13_decide, 4, 0, false, none), (yX13_accepted, cX13_accepted, 1, 0, false, (some .int)), (yX13_say, cX13_say, 2, 1, false, none), (yX13_sayWord, cX13_sayWord, 3, 1, false, none), (yX13_sayNumber, cX13_sayNumber, 7, 1, false, none), (yX13_sayName, cX13_sayName, 3, 1, false, none), (yX13_sayFact, cX13_sayFact, 3, 2, false, none), (yX13_sayType, cX13_sayType, 6, 1, false, none), (yX13_type, cX13_type, 3, 1, false, (some .int)), (yX13_give, cX13_give, 4, 2, false, (some .boolean)), (yX13_element, cX13_element, 4, 3, false, (some .boolean)), (yX13_slot, cX13_slot, 6, 4, false, (some .int)), (yX13_find, cX13_find, 4, 2, false, (some .int)), (yX13_bounded, cX13_bounded, 3, 1, false, (some .long)), (yX13_sizeOf, cX13_sizeOf, 2, 1, false, (some .int)), (yX13_valueOf, cX13_valueOf, 9, 2, false, (some .long)), (yX13_holds, cX13_holds, 8, 2, false, (some .boolean)), (yX13_newArray, cX13_newArray, 4, 1, false, (some .int)), (yX13_is, cX13_is, 4, 2, false, none), (yX13_function, cX13_function, 3, 2, false, (some .int)), (yX13_todo, cX13_todo, 4, 3, false, none), (yX13_then, cX13_then, 3, 2, false, (some .boolean)), (yX13_sumValue, cX13_sumValue, 5, 2, false, none), (yX13_product, cX13_product, 9, 2, true, (some .long)), (yX13_applies, cX13_applies, 12, 1, false, (some .boolean)), (yX13_called, cX13_called, 8, 2, false, (some .boolean)), (yX13_begun, cX13_begun, 9, 2, false, (some .boolean)), (yX13_goesOn, cX13_goesOn, 3, 0, false, (some .boolean)), (yX13_run, cX13_run, 6, 1, false, (some .int)), (yX13_value, cX13_value, 1, 0, false, (some .long)), (yX13_fuel, cX13_fuel, 1, 0, false, (some .int))]
def zmt : List zMt := zmt0 ++ (zmt1 ++ (zmt2 ++ (zmt3)))
/-- which method an entry of the pool is -/
def zlt : List (Nat × Nat) := [(415, 4), (419, 5), (422, 3), (426, 6), (430, 8), (439, 7), (443, 11), (447, 12), (450, 13), (453, 16), (497, 14), (503, 18), (512, 17), (519, 15), (524, 26), (534, 10), (538, 29), (549, 23), (562, 21), (575, 27), (586, 28), (591, 19), (595, 25), (605, 20), (612, 22), (617, 24), (633, 31), (637, 32), (640, 35), (643, 37), (646, 36), (649, 33), (652, 39), (655, 34), (658, 38), (664, 40), (668, 42), (674, 43), (677, 44), (680, 45), (683, 47), (686, 46), (689, 51), (692, 49), (695, 41), (698, 48), (701, 50), (711, 54), (714, 53), (717, 55), (720, 59), (723, 60), (726, 56), (729, 58), (732, 52), (735, 61), (741, 62), (744, 63), (747, 57), (760, 9), (763, 30), (766, 64), (778, 69), (782, 71), (785, 68), (788, 67), (800, 72), (806, 76), (815, 77), (822, 78), (826, 73), (835, 75), (838, 83), (841, 74), (844, 79), (848, 70), (851, 80), (854, 81), (859, 82), (867, 86), (871, 87), (877, 91), (892, 92), (896, 94), (899, 93), (902, 85), (905, 88), (912, 96), (919, 98), (922, 102), (926, 99), (929, 101), (932, 103), (935, 100), (941, 97), (945, 89), (954, 90), (958, 84), (961, 105), (964, 106), (967, 104), (970, 95), (973, 107), (977, 110), (983, 108), (986, 109), (992, 112), (1004, 114), (1008, 113), (1015, 115), (1018, 117), (1021, 116), (1034, 122), (1037, 124), (1040, 123), (1044, 126), (1047, 125), (1082, 121), (1086, 136), (1095, 137), (1104, 130), (1107, 131), (1109, 129), (1112, 128), (1115, 127), (1119, 132), (1122, 133), (1125, 135), (1134, 134)]
/-- which field an entry of the pool is -/
def zft : List (Nat × Nat) := [(9, 0), (13, 1), (16, 2), (19, 6), (23, 7), (26, 8), (29, 13), (32, 14), (35, 15), (38, 16), (41, 17), (44, 18), (47, 19), (50, 21), (53, 22), (56, 23), (59, 25), (62, 26), (65, 27), (68, 29), (71, 30), (74, 31), (77, 34), (80, 35), (83, 36), (86, 37), (89, 38), (92, 40), (95, 41), (98, 44), (101, 46), (104, 47), (107, 48), (110, 49), (113, 53), (116, 54), (119, 55), (122, 56), (125, 57), (128, 58), (131, 61), (134, 62), (137, 69), (142, 70), (145, 71), (148, 72), (151, 73), (154, 74), (157, 76), (160, 77), (163, 78), (166, 80), (169, 81), (172, 82), (175, 83), (178, 84), (182, 86), (185, 87), (188, 88), (191, 89), (194, 90), (197, 92), (200, 93), (203, 94), (206, 95), (209, 96), (212, 97), (216, 101), (219, 102), (222, 103), (225, 104), (228, 105), (231, 106), (234, 107), (237, 108), (240, 111), (243, 112), (246, 113), (249, 114), (252, 115), (255, 117), (258, 118), (261, 119), (264, 120), (267, 121), (270, 122), (273, 124), (276, 125), (279, 127), (282, 128), (285, 129), (288, 130), (291, 142), (294, 143), (297, 145), (300, 146), (303, 147), (306, 148), (309, 149), (312, 150), (315, 151), (318, 156), (321, 157), (324, 159), (327, 161), (330, 162), (334, 167), (337, 168), (340, 169), (343, 170), (347, 172), (350, 173), (353, 174), (356, 175), (359, 177), (362, 178), (365, 179), (368, 182), (371, 183), (374, 184), (377, 185), (380, 186), (383, 187), (386, 3), (389, 5), (392, 11), (395, 12), (398, 9), (412, 4), (433, 10), (436, 20), (469, 24), (472, 28), (475, 32), (478, 39), (481, 42), (484, 33), (527, 43), (602, 45), (624, 52), (627, 50), (630, 51), (661, 59), (671, 60), (704, 63), (707, 64), (738, 65), (750, 66), (754, 67), (757, 163), (769, 75), (772, 79), (775, 85), (791, 109), (794, 110), (797, 126), (803, 100), (809, 98), (812, 99), (819, 91), (829, 116), (832, 123), (862, 131), (880, 141), (883, 139), (886, 138), (889, 140), (909, 152), (916, 144), (938, 153), (948, 154), (951, 155), (980, 68), (989, 158), (1001, 160), (1024, 171), (1031, 191), (1053, 181), (1058, 180), (1061, 192), (1064, 193), (1067, 176), (1070, 189), (1073, 188), (1076, 190), (1079, 164), (1089, 194), (1092, 195), (1098, 165), (1101, 166)]
def zct : List (Nat × Int32) := [(141, 40000), (333, 260000), (346, 60000)]
def zcl : List (Nat × Int64) := [(857, -1), (865, 2), (875, 1125899906842624), (995, 9), (997, 10), (999, 48), (1027, 1099511627776), (1029, -1099511627776), (1051, 1000), (1056, 10000), (1128, 2199023255552), (1130, -4398046511104), (1132, 4398046511104)]
theorem zm_feed : zmt[0]? = some (yX13_feed, cX13_feed, 8, 5, false, (some .boolean)) := rfl
theorem zm_end : zmt[1]? = some (yX13_end, cX13_end, 2, 1, false, (some .boolean)) := rfl
theorem zm_out : zmt[2]? = some (yX13_out, cX13_out, 2, 1, false, (some .int)) := rfl
theorem zm_fault : zmt[3]? = some (yX13_fault, cX13_fault, 3, 2, false, none) := rfl
theorem zm_isLow : zmt[4]? = some (yX13_isLow, cX13_isLow, 1, 1, true, (some .boolean)) := rfl
theorem zm_isDigit : zmt[5]? = some (yX13_isDigit, cX13_isDigit, 1, 1, true, (some .boolean)) := rfl
theorem zm_word : zmt[6]? = some (yX13_word, cX13_word, 4, 3, false, none) := rfl
theorem zm_isText : zmt[7]? = some (yX13_isText, cX13_isText, 4, 2, false, (some .boolean)) := rfl
theorem zm_isKey : zmt[8]? = some (yX13_isKey, cX13_isKey, 7, 1, false, (some .boolean)) := rfl
theorem zm_readWords : zmt[9]? = some (yX13_readWords, cX13_readWords, 7, 0, false, none) := rfl
theorem zm_node : zmt[10]? = some (yX13_node, cX13_node, 3, 2, false, (some .int)) := rfl
theorem zm_here : zmt[11]? = some (yX13_here, cX13_here, 2, 1, false, (some .boolean)) := rfl
theorem zm_skip : zmt[12]? = some (yX13_skip, cX13_skip, 3, 1, false, (some .boolean)) := rfl
theorem zm_form : zmt[13]? = some (yX13_form, cX13_form, 1, 0, false, none) := rfl
theorem zm_must : zmt[14]? = some (yX13_must, cX13_must, 2, 1, false, none) := rfl
theorem zm_name : zmt[15]? = some (yX13_name, cX13_name, 1, 0, false, (some .int)) := rfl
theorem zm_numberOf : zmt[16]? = some (yX13_numberOf, cX13_numberOf, 4, 1, false, (some .int)) := rfl
theorem zm_number : zmt[17]? = some (yX13_number, cX13_number, 1, 0, false, (some .int)) := rfl
theorem zm_relation : zmt[18]? = some (yX13_relation, cX13_relation, 1, 0, false, (some .int)) := rfl
theorem zm_isArgument : zmt[19]? = some (yX13_isArgument, cX13_isArgument, 1, 0, false, (some .boolean)) := rfl
theorem zm_part : zmt[20]? = some (yX13_part, cX13_part, 3, 1, false, none) := rfl
theorem zm_sum : zmt[21]? = some (yX13_sum, cX13_sum, 3, 0, false, (some .int)) := rfl
theorem zm_both : zmt[22]? = some (yX13_both, cX13_both, 3, 0, false, (some .int)) := rfl
theorem zm_condition : zmt[23]? = some (yX13_condition, cX13_condition, 3, 0, false, (some .int)) := rfl
theorem zm_single : zmt[24]? = some (yX13_single, cX13_single, 5, 0, false, (some .int)) := rfl
theorem zm_call : zmt[25]? = some (yX13_call, cX13_call, 9, 1, false, (some .int)) := rfl
theorem zm_expression : zmt[26]? = some (yX13_expression, cX13_expression, 4, 0, false, (some .int)) := rfl
theorem zm_matching : zmt[27]? = some (yX13_matching, cX13_matching, 3, 1, false, (some .int)) := rfl
theorem zm_simple : zmt[28]? = some (yX13_simple, cX13_simple, 3, 1, false, (some .int)) := rfl
theorem zm_within : zmt[29]? = some (yX13_within, cX13_within, 2, 0, false, (some .int)) := rfl
theorem zm_program : zmt[30]? = some (yX13_program, cX13_program, 4, 0, false, none) := rfl
theorem zm_sameWord : zmt[31]? = some (yX13_sameWord, cX13_sameWord, 4, 2, false, (some .boolean)) := rfl
theorem zm_wrongName : zmt[32]? = some (yX13_wrongName, cX13_wrongName, 2, 1, false, none) := rfl
theorem zm_tell : zmt[33]? = some (yX13_tell, cX13_tell, 2, 1, false, (some .int)) := rfl
theorem zm_counts : zmt[34]? = some (yX13_counts, cX13_counts, 3, 1, false, none) := rfl
theorem zm_uses : zmt[35]? = some (yX13_uses, cX13_uses, 3, 1, false, none) := rfl
theorem zm_namesOfSum : zmt[36]? = some (yX13_namesOfSum, cX13_namesOfSum, 3, 1, false, none) := rfl
theorem zm_namesOfCondition : zmt[37]? = some (yX13_namesOfCondition, cX13_namesOfCondition, 2, 1, false, none) := rfl
theorem zm_parameters : zmt[38]? = some (yX13_parameters, cX13_parameters, 3, 1, false, (some .int)) := rfl
theorem zm_namesOf : zmt[39]? = some (yX13_namesOf, cX13_namesOf, 6, 1, false, none) := rfl
theorem zm_newType : zmt[40]? = some (yX13_newType, cX13_newType, 4, 3, false, (some .int)) := rfl
theorem zm_openType : zmt[41]? = some (yX13_openType, cX13_openType, 1, 0, false, (some .int)) := rfl
theorem zm_real : zmt[42]? = some (yX13_real, cX13_real, 3, 1, false, (some .int)) := rfl
theorem zm_isIn : zmt[43]? = some (yX13_isIn, cX13_isIn, 4, 2, false, (some .boolean)) := rfl
theorem zm_join : zmt[44]? = some (yX13_join, cX13_join, 7, 2, false, (some .boolean)) := rfl
theorem zm_mustBe : zmt[45]? = some (yX13_mustBe, cX13_mustBe, 4, 3, false, none) := rfl
theorem zm_typesOfSum : zmt[46]? = some (yX13_typesOfSum, cX13_typesOfSum, 3, 1, false, none) := rfl
theorem zm_typesOfCondition : zmt[47]? = some (yX13_typesOfCondition, cX13_typesOfCondition, 2, 1, false, none) := rfl
theorem zm_isName : zmt[48]? = some (yX13_isName, cX13_isName, 2, 1, false, (some .boolean)) := rfl
theorem zm_typeOf : zmt[49]? = some (yX13_typeOf, cX13_typeOf, 3, 1, false, (some .int)) := rfl
theorem zm_typeOfCall : zmt[50]? = some (yX13_typeOfCall, cX13_typeOfCall, 8, 1, false, (some .int)) := rfl
theorem zm_typed : zmt[51]? = some (yX13_typed, cX13_typed, 7, 1, false, (some .int)) := rfl
theorem zm_sort : zmt[52]? = some (yX13_sort, cX13_sort, 3, 1, false, (some .int)) := rfl
theorem zm_clearLine : zmt[53]? = some (yX13_clearLine, cX13_clearLine, 1, 0, false, none) := rfl
theorem zm_addName : zmt[54]? = some (yX13_addName, cX13_addName, 4, 2, false, none) := rfl
theorem zm_addSum : zmt[55]? = some (yX13_addSum, cX13_addSum, 5, 2, false, none) := rfl
theorem zm_isForm : zmt[56]? = some (yX13_isForm, cX13_isForm, 2, 0, false, (some .boolean)) := rfl
theorem zm_isTerm : zmt[57]? = some (yX13_isTerm, cX13_isTerm, 2, 1, false, (some .boolean)) := rfl
theorem zm_wrongForm : zmt[58]? = some (yX13_wrongForm, cX13_wrongForm, 2, 1, false, none) := rfl
theorem zm_count : zmt[59]? = some (yX13_count, cX13_count, 2, 1, false, (some .int)) := rfl
theorem zm_formsOfCondition : zmt[60]? = some (yX13_formsOfCondition, cX13_formsOfCondition, 2, 1, false, none) := rfl
theorem zm_leaves : zmt[61]? = some (yX13_leaves, cX13_leaves, 5, 2, false, (some .int)) := rfl
theorem zm_wants : zmt[62]? = some (yX13_wants, cX13_wants, 3, 2, false, none) := rfl
theorem zm_formsOf : zmt[63]? = some (yX13_formsOf, cX13_formsOf, 5, 2, false, none) := rfl
theorem zm_check : zmt[64]? = some (yX13_check, cX13_check, 2, 0, false, none) := rfl
theorem zm_compile : zmt[65]? = some (yX13_compile, cX13_compile, 3, 0, false, (some .int)) := rfl
theorem zm_place : zmt[66]? = some (yX13_place, cX13_place, 1, 0, false, (some .int)) := rfl
theorem zm_rich : zmt[67]? = some (yX13_rich, cX13_rich, 6, 5, false, (some .int)) := rfl
theorem zm_said : zmt[68]? = some (yX13_said, cX13_said, 4, 3, false, (some .int)) := rfl
theorem zm_fact : zmt[69]? = some (yX13_fact, cX13_fact, 7, 5, false, (some .int)) := rfl
theorem zm_isSum : zmt[70]? = some (yX13_isSum, cX13_isSum, 2, 1, false, (some .int)) := rfl
theorem zm_isSaid : zmt[71]? = some (yX13_isSaid, cX13_isSaid, 1, 1, true, (some .boolean)) := rfl
theorem zm_plainType : zmt[72]? = some (yX13_plainType, cX13_plainType, 2, 1, false, (some .int)) := rfl
theorem zm_knows : zmt[73]? = some (yX13_knows, cX13_knows, 4, 3, false, (some .int)) := rfl
theorem zm_gone : zmt[74]? = some (yX13_gone, cX13_gone, 4, 3, false, (some .int)) := rfl
theorem zm_namesAt : zmt[75]? = some (yX13_namesAt, cX13_namesAt, 4, 1, false, none) := rfl
theorem zm_template : zmt[76]? = some (yX13_template, cX13_template, 10, 3, false, (some .int)) := rfl
theorem zm_put : zmt[77]? = some (yX13_put, cX13_put, 9, 5, false, (some .int)) := rfl
theorem zm_mustFit : zmt[78]? = some (yX13_mustFit, cX13_mustFit, 8, 4, false, none) := rfl
theorem zm_mustBeSo : zmt[79]? = some (yX13_mustBeSo, cX13_mustBeSo, 7, 6, false, none) := rfl
theorem zm_ofName : zmt[80]? = some (yX13_ofName, cX13_ofName, 3, 1, false, (some .int)) := rfl
theorem zm_ofSign : zmt[81]? = some (yX13_ofSign, cX13_ofSign, 8, 3, false, (some .int)) := rfl
theorem zm_ofCall : zmt[82]? = some (yX13_ofCall, cX13_ofCall, 10, 3, false, (some .int)) := rfl
theorem zm_richOf : zmt[83]? = some (yX13_richOf, cX13_richOf, 12, 3, false, (some .int)) := rfl
theorem zm_beginBounds : zmt[84]? = some (yX13_beginBounds, cX13_beginBounds, 2, 0, false, none) := rfl
theorem zm_columnOf : zmt[85]? = some (yX13_columnOf, cX13_columnOf, 2, 1, false, (some .int)) := rfl
theorem zm_downwards : zmt[86]? = some (yX13_downwards, cX13_downwards, 6, 2, true, (some .long)) := rfl
theorem zm_lower : zmt[87]? = some (yX13_lower, cX13_lower, 6, 4, false, none) := rfl
theorem zm_atMost : zmt[88]? = some (yX13_atMost, cX13_atMost, 13, 6, false, (some .boolean)) := rfl
theorem zm_closes : zmt[89]? = some (yX13_closes, cX13_closes, 9, 0, false, (some .boolean)) := rfl
theorem zm_says : zmt[90]? = some (yX13_says, cX13_says, 12, 5, false, (some .boolean)) := rfl
theorem zm_putIn : zmt[91]? = some (yX13_putIn, cX13_putIn, 2, 1, false, none) := rfl
theorem zm_termOf : zmt[92]? = some (yX13_termOf, cX13_termOf, 6, 4, false, none) := rfl
theorem zm_instanceTerm : zmt[93]? = some (yX13_instanceTerm, cX13_instanceTerm, 4, 2, false, none) := rfl
theorem zm_relates : zmt[94]? = some (yX13_relates, cX13_relates, 8, 2, false, (some .boolean)) := rfl
theorem zm_saysOf : zmt[95]? = some (yX13_saysOf, cX13_saysOf, 6, 2, false, (some .boolean)) := rfl
theorem zm_way : zmt[96]? = some (yX13_way, cX13_way, 7, 5, false, none) := rfl
theorem zm_lineWay : zmt[97]? = some (yX13_lineWay, cX13_lineWay, 6, 2, false, none) := rfl
theorem zm_leaf : zmt[98]? = some (yX13_leaf, cX13_leaf, 8, 0, false, none) := rfl
theorem zm_open : zmt[99]? = some (yX13_open, cX13_open, 3, 2, false, none) := rfl
theorem zm_compares : zmt[100]? = some (yX13_compares, cX13_compares, 5, 2, false, none) := rfl
theorem zm_go : zmt[101]? = some (yX13_go, cX13_go, 3, 0, false, none) := rfl
theorem zm_sized : zmt[102]? = some (yX13_sized, cX13_sized, 5, 2, false, none) := rfl
theorem zm_truth : zmt[103]? = some (yX13_truth, cX13_truth, 4, 2, false, none) := rfl
theorem zm_namesSaid : zmt[104]? = some (yX13_namesSaid, cX13_namesSaid, 4, 1, false, none) := rfl
theorem zm_namesIn : zmt[105]? = some (yX13_namesIn, cX13_namesIn, 2, 1, false, none) := rfl
theorem zm_namesOfGone : zmt[106]? = some (yX13_namesOfGone, cX13_namesOfGone, 3, 1, false, none) := rfl
theorem zm_under : zmt[107]? = some (yX13_under, cX13_under, 7, 3, false, (some .boolean)) := rfl
theorem zm_fit : zmt[108]? = some (yX13_fit, cX13_fit, 6, 1, false, (some .boolean)) := rfl
theorem zm_isSo : zmt[109]? = some (yX13_isSo, cX13_isSo, 5, 1, false, (some .boolean)) := rfl
theorem zm_decide : zmt[110]? = some (yX13_decide, cX13_decide, 4, 0, false, none) := rfl
theorem zm_accepted : zmt[111]? = some (yX13_accepted, cX13_accepted, 1, 0, false, (some .int)) := rfl
theorem zm_say : zmt[112]? = some (yX13_say, cX13_say, 2, 1, false, none) := rfl
theorem zm_sayWord : zmt[113]? = some (yX13_sayWord, cX13_sayWord, 3, 1, false, none) := rfl
theorem zm_sayNumber : zmt[114]? = some (yX13_sayNumber, cX13_sayNumber, 7, 1, false, none) := rfl
theorem zm_sayName : zmt[115]? = some (yX13_sayName, cX13_sayName, 3, 1, false, none) := rfl
theorem zm_sayFact : zmt[116]? = some (yX13_sayFact, cX13_sayFact, 3, 2, false, none) := rfl
theorem zm_sayType : zmt[117]? = some (yX13_sayType, cX13_sayType, 6, 1, false, none) := rfl
theorem zm_type : zmt[118]? = some (yX13_type, cX13_type, 3, 1, false, (some .int)) := rfl
theorem zm_give : zmt[119]? = some (yX13_give, cX13_give, 4, 2, false, (some .boolean)) := rfl
theorem zm_element : zmt[120]? = some (yX13_element, cX13_element, 4, 3, false, (some .boolean)) := rfl
theorem zm_slot : zmt[121]? = some (yX13_slot, cX13_slot, 6, 4, false, (some .int)) := rfl
theorem zm_find : zmt[122]? = some (yX13_find, cX13_find, 4, 2, false, (some .int)) := rfl
theorem zm_bounded : zmt[123]? = some (yX13_bounded, cX13_bounded, 3, 1, false, (some .long)) := rfl
theorem zm_sizeOf : zmt[124]? = some (yX13_sizeOf, cX13_sizeOf, 2, 1, false, (some .int)) := rfl
theorem zm_valueOf : zmt[125]? = some (yX13_valueOf, cX13_valueOf, 9, 2, false, (some .long)) := rfl
theorem zm_holds : zmt[126]? = some (yX13_holds, cX13_holds, 8, 2, false, (some .boolean)) := rfl
theorem zm_newArray : zmt[127]? = some (yX13_newArray, cX13_newArray, 4, 1, false, (some .int)) := rfl
theorem zm_is : zmt[128]? = some (yX13_is, cX13_is, 4, 2, false, none) := rfl
theorem zm_function : zmt[129]? = some (yX13_function, cX13_function, 3, 2, false, (some .int)) := rfl
theorem zm_todo : zmt[130]? = some (yX13_todo, cX13_todo, 4, 3, false, none) := rfl
theorem zm_then : zmt[131]? = some (yX13_then, cX13_then, 3, 2, false, (some .boolean)) := rfl
theorem zm_sumValue : zmt[132]? = some (yX13_sumValue, cX13_sumValue, 5, 2, false, none) := rfl
theorem zm_product : zmt[133]? = some (yX13_product, cX13_product, 9, 2, true, (some .long)) := rfl
theorem zm_applies : zmt[134]? = some (yX13_applies, cX13_applies, 12, 1, false, (some .boolean)) := rfl
theorem zm_called : zmt[135]? = some (yX13_called, cX13_called, 8, 2, false, (some .boolean)) := rfl
theorem zm_begun : zmt[136]? = some (yX13_begun, cX13_begun, 9, 2, false, (some .boolean)) := rfl
theorem zm_goesOn : zmt[137]? = some (yX13_goesOn, cX13_goesOn, 3, 0, false, (some .boolean)) := rfl
theorem zm_run : zmt[138]? = some (yX13_run, cX13_run, 6, 1, false, (some .int)) := rfl
theorem zm_value : zmt[139]? = some (yX13_value, cX13_value, 1, 0, false, (some .long)) := rfl
theorem zm_fuel : zmt[140]? = some (yX13_fuel, cX13_fuel, 1, 0, false, (some .int)) := rfl
def zKm : List (Nat × String) := (410, "array assert bool cons else false fun if in input int len let list match new nil not qual rec set size then true v with ") :: zKl
/-- a text's letters as bytes -/
def zch (tx : String) (j : Nat) : Int32 := nI (tx.toList.getD j ' ').toNat
def zKs (ks : Nat → Nat) (sz0 : Nat) (U : State) (H : Heap) : Prop := ∀ q ∈ zKm, ∃ vb : Nat, va_O "java/lang/String" (ks q.1) (fun x => sz0 ≤ x) U H ∧ va_OF "java/lang/String" "coder" "B" (.int 0) (ks q.1) (fun x => sz0 ≤ x) U H ∧ va_OF "java/lang/String" "value" "[B" (.ref vb) (ks q.1) (fun x => sz0 ≤ x) U H ∧ va_T .byte vb q.2.toList.length (fun j => .int (zch q.2 j)) (fun x => sz0 ≤ x) U H
/-- the String constants of the reference: which objects they are and what they hold; String's static -/
def zKe (ks : Nat → Nat) (sz0 : Nat) (U : State) : Prop := (∀ q ∈ zKm, vk_R RX13 q.1 q.2 (ks q.1) U) ∧ zKs ks sz0 U U.heap ∧ va_Z "java/lang/String" "COMPACT_STRINGS" "Z" (.int 1) (fun x => sz0 ≤ x) U U.heap ∧ va_Zq "jdk/internal/util/Preconditions" "SIOOBE_FORMATTER" "Ljava/util/function/BiFunction;" (fun x => sz0 ≤ x) U U.heap
theorem zKe.call {ks : Nat → Nat} {sz0 : Nat} {s U : State} {A : Nat → Prop} {H : Heap} {locs : List Loc} (h : zKe ks sz0 s) (hA0 : ∀ q, A q → sz0 ≤ q) (hS : va_S A s.heap H locs) (hU : U.heap = H) (hW : s.WarmedH U.vm) : zKe ks sz0 U := by
  have hk : ∀ a : Nat, a < s.heap.size → ¬ (fun q : Nat => sz0 ≤ q) a → U.heap[a]? = s.heap[a]? := fun a g1 g3 => by rw [hU]; exact hS.2.1 a g1 (fun x => g3 (hA0 a x))
  refine ⟨fun q hq => vk_R.warm hW (h.1 q hq), fun q hq => ?_, (va_Z.moved hW.alike h.2.2.1).kept hk, (va_Zq.moved hW.alike h.2.2.2).kept hk⟩
  obtain ⟨vb, h1, h2, h3, h4⟩ := h.2.1 q hq
  exact ⟨vb, (va_O.moved hW.alike h1).kept hk, (va_OF.moved hW.alike h2).kept hk, (va_OF.moved hW.alike h3).kept hk, (va_T.moved hW.alike h4).kept hk⟩
theorem zKe.calling {ks : Nat → Nat} {sz0 : Nat} {U : State} (h : zKe ks sz0 U) (g : JFrame) (mk : MethodId) (a : Array Value) : zKe ks sz0 (U.calling g mk a) := by
  refine ⟨fun q hq => vk_R.same (u := U) (U := U.calling g mk a) rfl (h.1 q hq), fun q hq => ?_, va_Z.moved (u := U) (U := U.calling g mk a) (Vm.Alike.refl U.vm) h.2.2.1, va_Zq.moved (u := U) (U := U.calling g mk a) (Vm.Alike.refl U.vm) h.2.2.2⟩
  obtain ⟨vb, h1, h2, h3, h4⟩ := h.2.1 q hq
  exact ⟨vb, va_O.moved (u := U) (U := U.calling g mk a) (Vm.Alike.refl U.vm) h1, va_OF.moved (u := U) (U := U.calling g mk a) (Vm.Alike.refl U.vm) h2, va_OF.moved (u := U) (U := U.calling g mk a) (Vm.Alike.refl U.vm) h3, va_T.moved (u := U) (U := U.calling g mk a) (Vm.Alike.refl U.vm) h4⟩
/-- the length of the text at a -/
def zslen (ks : Nat → Nat) (a : Nat) : Option Int32 := (zKm.find? (fun q => ks q.1 == a)).map (fun q => nI q.2.toList.length)
/-- the letter at place j of the text at a -/
def zschr (ks : Nat → Nat) (a : Nat) (j : Int32) : Option Int32 := match zKm.find? (fun q => ks q.1 == a) with
  | some q => if 0 ≤ j.toInt ∧ j.toInt < q.2.toList.length then some (zch q.2 j.toNatClampNeg) else none
  | none => none

