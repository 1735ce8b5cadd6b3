/-! accepted, type, give, element, run of both while there is no program: refused, nothing changes -/
def wn_X12_accepted : List Cond := .code yX12_accepted cX12_accepted 1 (some .int) :: ([.fieldLink RX12 51 "LiquidTongue" "program" "LLiquidTongue$Parser;"] ++ wsX120)
theorem iw_X12_acceptedn_X12 : ∀ w ∈ wsX120, w ∈ wn_X12_accepted := fun w h => List.mem_cons_of_mem _ (List.mem_append_right _ h)
set_option maxHeartbeats 4000000 in
set_option maxRecDepth 100000 in
/-- accepted without a program -/
theorem c_X12_accepted_none (l : Launch) (dC : Nat → ClassId) (dI : Nat → Nat → Nat) (sz : Nat) (h0 : Nat) (fs : List Value) (hfl : fs.length = 13) (hf : fs[2]? = some (.null)) : Met l yX12_accepted wn_X12_accepted ({ frames := 0, cells := 0, slots := 0, locals := 0 }) (zPc dC dI sz [.ref h0] [(h0, .inr (14, fs))] []) (va_Qi (fun (r : Int32) (u : List Value) => r = (-1) ∧ u = fs) (zB dC dI (fun _ => []) (fun u : List Value => [(h0, .inr (14, u))]) (va_A [(h0, .inr (14, fs))] sz)) (va_A [(h0, .inr (14, fs))] sz)) 0 0 (va_A [(h0, .inr (14, fs))] sz) := by
  refine Met.ofW (cc := cX12_accepted) (maxL := 1) (ret := (some .int)) (by decide) rfl ?_
  intro p e s m args below meth c s₁ B hml hv
  obtain ⟨rfl, hsz, hP, hK, hD0⟩ := hv
  have hx := B.exec
  have hb := B.bytes
  have hr := B.returns
  have hts := atoms_spec (ws := wn_X12_accepted) B.pre
  have hown : s.vm.findClass RX12 = some m.cls := findClass_of_methodNamed B.named
  have hlocks := B.notSynchronized
  subst hsz
  have hD := hD0.self (sz := s.heap.size)
  generalize hAe : va_A [(h0, .inr (14, fs))] s.heap.size = A at hD ⊢
  have hA : ∀ q : Nat, s.heap.size ≤ q → A q := fun q h => by rw [← hAe]; exact Or.inr h
  have hS : va_S A s.heap s.heap [] := va_S.rf
  have hP : va_P (dC, dI) vwCl [(h0, .inr (14, fs))] s.heap := hP
  have hl := lv_entry ([.ref h0]) (n := 1) (Nat.le_of_ble_eq_true rfl)
  rw [lg_entry_eq]
  generalize (lg_sl ([.ref h0]) ++ List.replicate (1 - (lg_sl ([.ref h0])).length) Slot.unset).toArray = ls at hl ⊢
  have hl : lv_has ls 1 [(0, .ref h0)] := hl
  refine lv_aload_n hx hb dX12_accepted_0 rfl (lv_at hl 0 rfl) ?_
  refine va_get (D := (dC, dI)) (ci := 14) (v := .null) (C := RX12) (T := TX12) (N := 13) hx hb hts iw_X12_acceptedn_X12 hown hK hP 0 rfl rfl 2 (by decide) (hts (.fieldLink RX12 51 "LiquidTongue" "program" "LLiquidTongue$Parser;") (by decide +kernel)) (fun _ h9 => h9) hf dX12_accepted_1 ?_
  refine lv_ifnonnullN hx hb dX12_accepted_4 ?_
  refine lv_iconst (v := -1) hx hb dX12_accepted_7 (by decide) ?_
  have hP9 := hP.sub (ws' := [(h0, .inr (14, fs))]) [0] rfl
  have hD9 := hD.sub (ws' := [(h0, .inr (14, fs))]) [0] (by decide) rfl
  have hK9 := hK.sub (tys' := []) [] rfl
  exact W.iret (v := (-1)) hx hb hr (fun t ht hW => ⟨⟨(-1), fs, rfl, ⟨rfl, rfl⟩, (zB_mk (by rw [ht]; exact hP9) (va_K.moved hW.alike hK9) hD9)⟩, hS.F ht⟩) hS.2.2 dX12_accepted_8
def wn_X12_type : List Cond := .code yX12_type cX12_type 3 (some .int) :: ([.fieldLink RX12 51 "LiquidTongue" "program" "LLiquidTongue$Parser;"] ++ wsX120)
theorem iw_X12_typen_X12 : ∀ w ∈ wsX120, w ∈ wn_X12_type := fun w h => List.mem_cons_of_mem _ (List.mem_append_right _ h)
set_option maxHeartbeats 4000000 in
set_option maxRecDepth 100000 in
/-- type without a program -/
theorem c_X12_type_none (l : Launch) (dC : Nat → ClassId) (dI : Nat → Nat → Nat) (sz : Nat) (h0 : Nat) (fs : List Value) (p0 : Int32) (hfl : fs.length = 13) (hf : fs[2]? = some (.null)) : Met l yX12_type wn_X12_type ({ frames := 0, cells := 0, slots := 0, locals := 0 }) (zPc dC dI sz [.ref h0, .int p0] [(h0, .inr (14, fs))] []) (va_Qi (fun (r : Int32) (u : List Value) => r = (-1) ∧ u = fs) (zB dC dI (fun _ => []) (fun u : List Value => [(h0, .inr (14, u))]) (va_A [(h0, .inr (14, fs))] sz)) (va_A [(h0, .inr (14, fs))] sz)) 0 0 (va_A [(h0, .inr (14, fs))] sz) := by
  refine Met.ofW (cc := cX12_type) (maxL := 3) (ret := (some .int)) (by decide) rfl ?_
  intro p e s m args below meth c s₁ B hml hv
  obtain ⟨rfl, hsz, hP, hK, hD0⟩ := hv
  have hx := B.exec
  have hb := B.bytes
  have hr := B.returns
  have hts := atoms_spec (ws := wn_X12_type) B.pre
  have hown : s.vm.findClass RX12 = some m.cls := findClass_of_methodNamed B.named
  have hlocks := B.notSynchronized
  subst hsz
  have hD := hD0.self (sz := s.heap.size)
  generalize hAe : va_A [(h0, .inr (14, fs))] s.heap.size = A at hD ⊢
  have hA : ∀ q : Nat, s.heap.size ≤ q → A q := fun q h => by rw [← hAe]; exact Or.inr h
  have hS : va_S A s.heap s.heap [] := va_S.rf
  have hP : va_P (dC, dI) vwCl [(h0, .inr (14, fs))] s.heap := hP
  have hl := lv_entry ([.ref h0, .int p0]) (n := 3) (Nat.le_of_ble_eq_true rfl)
  rw [lg_entry_eq]
  generalize (lg_sl ([.ref h0, .int p0]) ++ List.replicate (3 - (lg_sl ([.ref h0, .int p0])).length) Slot.unset).toArray = ls at hl ⊢
  have hl : lv_has ls 3 [(0, .ref h0), (1, .int p0)] := hl
  refine lv_aload_n hx hb dX12_type_0 rfl (lv_at hl 0 rfl) ?_
  refine va_get (D := (dC, dI)) (ci := 14) (v := .null) (C := RX12) (T := TX12) (N := 13) hx hb hts iw_X12_typen_X12 hown hK hP 0 rfl rfl 2 (by decide) (hts (.fieldLink RX12 51 "LiquidTongue" "program" "LLiquidTongue$Parser;") (by decide +kernel)) (fun _ h9 => h9) hf dX12_type_1 ?_
  refine lv_ifnullN (tgt := 32) hx hb dX12_type_4 (by decide) ?_
  refine lv_iconst (v := -1) hx hb dX12_type_32 (by decide) ?_
  have hP9 := hP.sub (ws' := [(h0, .inr (14, fs))]) [0] rfl
  have hD9 := hD.sub (ws' := [(h0, .inr (14, fs))]) [0] (by decide) rfl
  have hK9 := hK.sub (tys' := []) [] rfl
  exact W.iret (v := (-1)) hx hb hr (fun t ht hW => ⟨⟨(-1), fs, rfl, ⟨rfl, rfl⟩, (zB_mk (by rw [ht]; exact hP9) (va_K.moved hW.alike hK9) hD9)⟩, hS.F ht⟩) hS.2.2 dX12_type_33
def wn_X12_give : List Cond := .code yX12_give cX12_give 3 (some .boolean) :: ([.fieldLink RX12 51 "LiquidTongue" "program" "LLiquidTongue$Parser;"] ++ wsX120)
theorem iw_X12_given_X12 : ∀ w ∈ wsX120, w ∈ wn_X12_give := fun w h => List.mem_cons_of_mem _ (List.mem_append_right _ h)
set_option maxHeartbeats 4000000 in
set_option maxRecDepth 100000 in
/-- give without a program -/
theorem c_X12_give_none (l : Launch) (dC : Nat → ClassId) (dI : Nat → Nat → Nat) (sz : Nat) (h0 : Nat) (fs : List Value) (p0 p1 : Int32) (hfl : fs.length = 13) (hf : fs[2]? = some (.null)) : Met l yX12_give wn_X12_give ({ frames := 0, cells := 0, slots := 0, locals := 0 }) (zPc dC dI sz [.ref h0, .int p0, .int p1] [(h0, .inr (14, fs))] []) (va_Qi (fun (r : Int32) (u : List Value) => r = 0 ∧ u = fs) (zB dC dI (fun _ => []) (fun u : List Value => [(h0, .inr (14, u))]) (va_A [(h0, .inr (14, fs))] sz)) (va_A [(h0, .inr (14, fs))] sz)) 0 0 (va_A [(h0, .inr (14, fs))] sz) := by
  refine Met.ofW (cc := cX12_give) (maxL := 3) (ret := (some .boolean)) (by decide) rfl ?_
  intro p e s m args below meth c s₁ B hml hv
  obtain ⟨rfl, hsz, hP, hK, hD0⟩ := hv
  have hx := B.exec
  have hb := B.bytes
  have hr := B.returns
  have hts := atoms_spec (ws := wn_X12_give) B.pre
  have hown : s.vm.findClass RX12 = some m.cls := findClass_of_methodNamed B.named
  have hlocks := B.notSynchronized
  subst hsz
  have hD := hD0.self (sz := s.heap.size)
  generalize hAe : va_A [(h0, .inr (14, fs))] s.heap.size = A at hD ⊢
  have hA : ∀ q : Nat, s.heap.size ≤ q → A q := fun q h => by rw [← hAe]; exact Or.inr h
  have hS : va_S A s.heap s.heap [] := va_S.rf
  have hP : va_P (dC, dI) vwCl [(h0, .inr (14, fs))] s.heap := hP
  have hl := lv_entry ([.ref h0, .int p0, .int p1]) (n := 3) (Nat.le_of_ble_eq_true rfl)
  rw [lg_entry_eq]
  generalize (lg_sl ([.ref h0, .int p0, .int p1]) ++ List.replicate (3 - (lg_sl ([.ref h0, .int p0, .int p1])).length) Slot.unset).toArray = ls at hl ⊢
  have hl : lv_has ls 3 [(0, .ref h0), (1, .int p0), (2, .int p1)] := hl
  refine lv_aload_n hx hb dX12_give_0 rfl (lv_at hl 0 rfl) ?_
  refine va_get (D := (dC, dI)) (ci := 14) (v := .null) (C := RX12) (T := TX12) (N := 13) hx hb hts iw_X12_given_X12 hown hK hP 0 rfl rfl 2 (by decide) (hts (.fieldLink RX12 51 "LiquidTongue" "program" "LLiquidTongue$Parser;") (by decide +kernel)) (fun _ h9 => h9) hf dX12_give_1 ?_
  refine lv_ifnullN (tgt := 55) hx hb dX12_give_4 (by decide) ?_
  refine lv_iconst (v := 0) hx hb dX12_give_55 (by decide) ?_
  have hP9 := hP.sub (ws' := [(h0, .inr (14, fs))]) [0] rfl
  have hD9 := hD.sub (ws' := [(h0, .inr (14, fs))]) [0] (by decide) rfl
  have hK9 := hK.sub (tys' := []) [] rfl
  exact W.zret (v := 0) hx hb hr (by first | rfl | decide) (fun t ht hW => ⟨⟨0, fs, rfl, ⟨rfl, rfl⟩, (zB_mk (by rw [ht]; exact hP9) (va_K.moved hW.alike hK9) hD9)⟩, hS.F ht⟩) hS.2.2 dX12_give_56
def wn_X12_element : List Cond := .code yX12_element cX12_element 4 (some .boolean) :: ([.fieldLink RX12 51 "LiquidTongue" "program" "LLiquidTongue$Parser;"] ++ wsX120)
theorem iw_X12_elementn_X12 : ∀ w ∈ wsX120, w ∈ wn_X12_element := fun w h => List.mem_cons_of_mem _ (List.mem_append_right _ h)
set_option maxHeartbeats 4000000 in
set_option maxRecDepth 100000 in
/-- element without a program -/
theorem c_X12_element_none (l : Launch) (dC : Nat → ClassId) (dI : Nat → Nat → Nat) (sz : Nat) (h0 : Nat) (fs : List Value) (p0 p1 p2 : Int32) (hfl : fs.length = 13) (hf : fs[2]? = some (.null)) : Met l yX12_element wn_X12_element ({ frames := 0, cells := 0, slots := 0, locals := 0 }) (zPc dC dI sz [.ref h0, .int p0, .int p1, .int p2] [(h0, .inr (14, fs))] []) (va_Qi (fun (r : Int32) (u : List Value) => r = 0 ∧ u = fs) (zB dC dI (fun _ => []) (fun u : List Value => [(h0, .inr (14, u))]) (va_A [(h0, .inr (14, fs))] sz)) (va_A [(h0, .inr (14, fs))] sz)) 0 0 (va_A [(h0, .inr (14, fs))] sz) := by
  refine Met.ofW (cc := cX12_element) (maxL := 4) (ret := (some .boolean)) (by decide) rfl ?_
  intro p e s m args below meth c s₁ B hml hv
  obtain ⟨rfl, hsz, hP, hK, hD0⟩ := hv
  have hx := B.exec
  have hb := B.bytes
  have hr := B.returns
  have hts := atoms_spec (ws := wn_X12_element) B.pre
  have hown : s.vm.findClass RX12 = some m.cls := findClass_of_methodNamed B.named
  have hlocks := B.notSynchronized
  subst hsz
  have hD := hD0.self (sz := s.heap.size)
  generalize hAe : va_A [(h0, .inr (14, fs))] s.heap.size = A at hD ⊢
  have hA : ∀ q : Nat, s.heap.size ≤ q → A q := fun q h => by rw [← hAe]; exact Or.inr h
  have hS : va_S A s.heap s.heap [] := va_S.rf
  have hP : va_P (dC, dI) vwCl [(h0, .inr (14, fs))] s.heap := hP
  have hl := lv_entry ([.ref h0, .int p0, .int p1, .int p2]) (n := 4) (Nat.le_of_ble_eq_true rfl)
  rw [lg_entry_eq]
  generalize (lg_sl ([.ref h0, .int p0, .int p1, .int p2]) ++ List.replicate (4 - (lg_sl ([.ref h0, .int p0, .int p1, .int p2])).length) Slot.unset).toArray = ls at hl ⊢
  have hl : lv_has ls 4 [(0, .ref h0), (1, .int p0), (2, .int p1), (3, .int p2)] := hl
  refine lv_aload_n hx hb dX12_element_0 rfl (lv_at hl 0 rfl) ?_
  refine va_get (D := (dC, dI)) (ci := 14) (v := .null) (C := RX12) (T := TX12) (N := 13) hx hb hts iw_X12_elementn_X12 hown hK hP 0 rfl rfl 2 (by decide) (hts (.fieldLink RX12 51 "LiquidTongue" "program" "LLiquidTongue$Parser;") (by decide +kernel)) (fun _ h9 => h9) hf dX12_element_1 ?_
  refine lv_ifnullN (tgt := 62) hx hb dX12_element_4 (by decide) ?_
  refine lv_iconst (v := 0) hx hb dX12_element_62 (by decide) ?_
  have hP9 := hP.sub (ws' := [(h0, .inr (14, fs))]) [0] rfl
  have hD9 := hD.sub (ws' := [(h0, .inr (14, fs))]) [0] (by decide) rfl
  have hK9 := hK.sub (tys' := []) [] rfl
  exact W.zret (v := 0) hx hb hr (by first | rfl | decide) (fun t ht hW => ⟨⟨0, fs, rfl, ⟨rfl, rfl⟩, (zB_mk (by rw [ht]; exact hP9) (va_K.moved hW.alike hK9) hD9)⟩, hS.F ht⟩) hS.2.2 dX12_element_63
def wn_X12_run : List Cond := .code yX12_run cX12_run 2 (some .int) :: ([.fieldLink RX12 51 "LiquidTongue" "program" "LLiquidTongue$Parser;"] ++ wsX120)
theorem iw_X12_runn_X12 : ∀ w ∈ wsX120, w ∈ wn_X12_run := fun w h => List.mem_cons_of_mem _ (List.mem_append_right _ h)
set_option maxHeartbeats 4000000 in
set_option maxRecDepth 100000 in
/-- run without a program -/
theorem c_X12_run_none (l : Launch) (dC : Nat → ClassId) (dI : Nat → Nat → Nat) (sz : Nat) (h0 : Nat) (fs : List Value) (p0 : Int32) (hfl : fs.length = 13) (hf : fs[2]? = some (.null)) : Met l yX12_run wn_X12_run ({ frames := 0, cells := 0, slots := 0, locals := 0 }) (zPc dC dI sz [.ref h0, .int p0] [(h0, .inr (14, fs))] []) (va_Qi (fun (r : Int32) (u : List Value) => r = (-1) ∧ u = fs) (zB dC dI (fun _ => []) (fun u : List Value => [(h0, .inr (14, u))]) (va_A [(h0, .inr (14, fs))] sz)) (va_A [(h0, .inr (14, fs))] sz)) 0 0 (va_A [(h0, .inr (14, fs))] sz) := by
  refine Met.ofW (cc := cX12_run) (maxL := 2) (ret := (some .int)) (by decide) rfl ?_
  intro p e s m args below meth c s₁ B hml hv
  obtain ⟨rfl, hsz, hP, hK, hD0⟩ := hv
  have hx := B.exec
  have hb := B.bytes
  have hr := B.returns
  have hts := atoms_spec (ws := wn_X12_run) B.pre
  have hown : s.vm.findClass RX12 = some m.cls := findClass_of_methodNamed B.named
  have hlocks := B.notSynchronized
  subst hsz
  have hD := hD0.self (sz := s.heap.size)
  generalize hAe : va_A [(h0, .inr (14, fs))] s.heap.size = A at hD ⊢
  have hA : ∀ q : Nat, s.heap.size ≤ q → A q := fun q h => by rw [← hAe]; exact Or.inr h
  have hS : va_S A s.heap s.heap [] := va_S.rf
  have hP : va_P (dC, dI) vwCl [(h0, .inr (14, fs))] s.heap := hP
  have hl := lv_entry ([.ref h0, .int p0]) (n := 2) (Nat.le_of_ble_eq_true rfl)
  rw [lg_entry_eq]
  generalize (lg_sl ([.ref h0, .int p0]) ++ List.replicate (2 - (lg_sl ([.ref h0, .int p0])).length) Slot.unset).toArray = ls at hl ⊢
  have hl : lv_has ls 2 [(0, .ref h0), (1, .int p0)] := hl
  refine lv_aload_n hx hb dX12_run_0 rfl (lv_at hl 0 rfl) ?_
  refine va_get (D := (dC, dI)) (ci := 14) (v := .null) (C := RX12) (T := TX12) (N := 13) hx hb hts iw_X12_runn_X12 hown hK hP 0 rfl rfl 2 (by decide) (hts (.fieldLink RX12 51 "LiquidTongue" "program" "LLiquidTongue$Parser;") (by decide +kernel)) (fun _ h9 => h9) hf dX12_run_1 ?_
  refine lv_ifnullN (tgt := 18) hx hb dX12_run_4 (by decide) ?_
  refine lv_iconst (v := -1) hx hb dX12_run_18 (by decide) ?_
  have hP9 := hP.sub (ws' := [(h0, .inr (14, fs))]) [0] rfl
  have hD9 := hD.sub (ws' := [(h0, .inr (14, fs))]) [0] (by decide) rfl
  have hK9 := hK.sub (tys' := []) [] rfl
  exact W.iret (v := (-1)) hx hb hr (fun t ht hW => ⟨⟨(-1), fs, rfl, ⟨rfl, rfl⟩, (zB_mk (by rw [ht]; exact hP9) (va_K.moved hW.alike hK9) hD9)⟩, hS.F ht⟩) hS.2.2 dX12_run_19
def wn_X13_accepted : List Cond := .code yX13_accepted cX13_accepted 1 (some .int) :: ([.fieldLink RX13 750 "LiquidTongueModel" "hasOne" "Z"] ++ wsX130)
theorem iw_X13_acceptedn_X13 : ∀ w ∈ wsX130, w ∈ wn_X13_accepted := fun w h => List.mem_cons_of_mem _ (List.mem_append_right _ h)
set_option maxHeartbeats 4000000 in
set_option maxRecDepth 100000 in
/-- accepted without a program -/
theorem c_X13_accepted_none (l : Launch) (dC : Nat → ClassId) (dI : Nat → Nat → Nat) (sz : Nat) (h0 : Nat) (fs : List Value) (hfl : fs.length = 196) (hf : fs[66]? = some (.int 0)) : Met l yX13_accepted wn_X13_accepted ({ frames := 0, cells := 0, slots := 0, locals := 0 }) (zPc dC dI sz [.ref h0] [(h0, .inr (15, fs))] []) (va_Qi (fun (r : Int32) (u : List Value) => r = (-1) ∧ u = fs) (zB dC dI (fun _ => []) (fun u : List Value => [(h0, .inr (15, u))]) (va_A [(h0, .inr (15, fs))] sz)) (va_A [(h0, .inr (15, fs))] sz)) 0 0 (va_A [(h0, .inr (15, fs))] sz) := by
  refine Met.ofW (cc := cX13_accepted) (maxL := 1) (ret := (some .int)) (by decide) rfl ?_
  intro p e s m args below meth c s₁ B hml hv
  obtain ⟨rfl, hsz, hP, hK, hD0⟩ := hv
  have hx := B.exec
  have hb := B.bytes
  have hr := B.returns
  have hts := atoms_spec (ws := wn_X13_accepted) B.pre
  have hown : s.vm.findClass RX13 = some m.cls := findClass_of_methodNamed B.named
  have hlocks := B.notSynchronized
  subst hsz
  have hD := hD0.self (sz := s.heap.size)
  generalize hAe : va_A [(h0, .inr (15, fs))] s.heap.size = A at hD ⊢
  have hA : ∀ q : Nat, s.heap.size ≤ q → A q := fun q h => by rw [← hAe]; exact Or.inr h
  have hS : va_S A s.heap s.heap [] := va_S.rf
  have hP : va_P (dC, dI) vwCl [(h0, .inr (15, fs))] s.heap := hP
  have hl := lv_entry ([.ref h0]) (n := 1) (Nat.le_of_ble_eq_true rfl)
  rw [lg_entry_eq]
  generalize (lg_sl ([.ref h0]) ++ List.replicate (1 - (lg_sl ([.ref h0])).length) Slot.unset).toArray = ls at hl ⊢
  have hl : lv_has ls 1 [(0, .ref h0)] := hl
  refine lv_aload_n hx hb dX13_accepted_0 rfl (lv_at hl 0 rfl) ?_
  refine va_get (D := (dC, dI)) (ci := 15) (v := .int 0) (C := RX13) (T := TX13) (N := 196) hx hb hts iw_X13_acceptedn_X13 hown hK hP 0 rfl rfl 66 (by decide) (hts (.fieldLink RX13 750 "LiquidTongueModel" "hasOne" "Z") (by decide +kernel)) (fun _ h9 => h9) hf dX13_accepted_1 ?_
  refine lv_if_ne (tgt := 9) hx hb dX13_accepted_4 (by decide) (fun c_1 => absurd c_1 (by decide)) (fun c_1 => ?_)
  refine lv_iconst (v := -1) hx hb dX13_accepted_7 (by decide) ?_
  have hP9 := hP.sub (ws' := [(h0, .inr (15, fs))]) [0] rfl
  have hD9 := hD.sub (ws' := [(h0, .inr (15, fs))]) [0] (by decide) rfl
  have hK9 := hK.sub (tys' := []) [] rfl
  exact W.iret (v := (-1)) hx hb hr (fun t ht hW => ⟨⟨(-1), fs, rfl, ⟨rfl, rfl⟩, (zB_mk (by rw [ht]; exact hP9) (va_K.moved hW.alike hK9) hD9)⟩, hS.F ht⟩) hS.2.2 dX13_accepted_8
def wn_X13_type : List Cond := .code yX13_type cX13_type 3 (some .int) :: ([.fieldLink RX13 750 "LiquidTongueModel" "hasOne" "Z"] ++ wsX130)
theorem iw_X13_typen_X13 : ∀ w ∈ wsX130, w ∈ wn_X13_type := fun w h => List.mem_cons_of_mem _ (List.mem_append_right _ h)
set_option maxHeartbeats 4000000 in
set_option maxRecDepth 100000 in
/-- type without a program -/
theorem c_X13_type_none (l : Launch) (dC : Nat → ClassId) (dI : Nat → Nat → Nat) (sz : Nat) (h0 : Nat) (fs : List Value) (p0 : Int32) (hfl : fs.length = 196) (hf : fs[66]? = some (.int 0)) : Met l yX13_type wn_X13_type ({ frames := 0, cells := 0, slots := 0, locals := 0 }) (zPc dC dI sz [.ref h0, .int p0] [(h0, .inr (15, fs))] []) (va_Qi (fun (r : Int32) (u : List Value) => r = (-1) ∧ u = fs) (zB dC dI (fun _ => []) (fun u : List Value => [(h0, .inr (15, u))]) (va_A [(h0, .inr (15, fs))] sz)) (va_A [(h0, .inr (15, fs))] sz)) 0 0 (va_A [(h0, .inr (15, fs))] sz) := by
  refine Met.ofW (cc := cX13_type) (maxL := 3) (ret := (some .int)) (by decide) rfl ?_
  intro p e s m args below meth c s₁ B hml hv
  obtain ⟨rfl, hsz, hP, hK, hD0⟩ := hv
  have hx := B.exec
  have hb := B.bytes
  have hr := B.returns
  have hts := atoms_spec (ws := wn_X13_type) B.pre
  have hown : s.vm.findClass RX13 = some m.cls := findClass_of_methodNamed B.named
  have hlocks := B.notSynchronized
  subst hsz
  have hD := hD0.self (sz := s.heap.size)
  generalize hAe : va_A [(h0, .inr (15, fs))] s.heap.size = A at hD ⊢
  have hA : ∀ q : Nat, s.heap.size ≤ q → A q := fun q h => by rw [← hAe]; exact Or.inr h
  have hS : va_S A s.heap s.heap [] := va_S.rf
  have hP : va_P (dC, dI) vwCl [(h0, .inr (15, fs))] s.heap := hP
  have hl := lv_entry ([.ref h0, .int p0]) (n := 3) (Nat.le_of_ble_eq_true rfl)
  rw [lg_entry_eq]
  generalize (lg_sl ([.ref h0, .int p0]) ++ List.replicate (3 - (lg_sl ([.ref h0, .int p0])).length) Slot.unset).toArray = ls at hl ⊢
  have hl : lv_has ls 3 [(0, .ref h0), (1, .int p0)] := hl
  refine lv_aload_n hx hb dX13_type_0 rfl (lv_at hl 0 rfl) ?_
  refine va_get (D := (dC, dI)) (ci := 15) (v := .int 0) (C := RX13) (T := TX13) (N := 196) hx hb hts iw_X13_typen_X13 hown hK hP 0 rfl rfl 66 (by decide) (hts (.fieldLink RX13 750 "LiquidTongueModel" "hasOne" "Z") (by decide +kernel)) (fun _ h9 => h9) hf dX13_type_1 ?_
  refine lv_if_eq (tgt := 26) hx hb dX13_type_4 (by decide) (fun c_1 => ?_) (fun c_1 => absurd (by decide) c_1)
  refine lv_iconst (v := -1) hx hb dX13_type_26 (by decide) ?_
  have hP9 := hP.sub (ws' := [(h0, .inr (15, fs))]) [0] rfl
  have hD9 := hD.sub (ws' := [(h0, .inr (15, fs))]) [0] (by decide) rfl
  have hK9 := hK.sub (tys' := []) [] rfl
  exact W.iret (v := (-1)) hx hb hr (fun t ht hW => ⟨⟨(-1), fs, rfl, ⟨rfl, rfl⟩, (zB_mk (by rw [ht]; exact hP9) (va_K.moved hW.alike hK9) hD9)⟩, hS.F ht⟩) hS.2.2 dX13_type_27
def wn_X13_give : List Cond := .code yX13_give cX13_give 4 (some .boolean) :: ([.fieldLink RX13 750 "LiquidTongueModel" "hasOne" "Z"] ++ wsX130)
theorem iw_X13_given_X13 : ∀ w ∈ wsX130, w ∈ wn_X13_give := fun w h => List.mem_cons_of_mem _ (List.mem_append_right _ h)
set_option maxHeartbeats 4000000 in
set_option maxRecDepth 100000 in
/-- give without a program -/
theorem c_X13_give_none (l : Launch) (dC : Nat → ClassId) (dI : Nat → Nat → Nat) (sz : Nat) (h0 : Nat) (fs : List Value) (p0 p1 : Int32) (hfl : fs.length = 196) (hf : fs[66]? = some (.int 0)) : Met l yX13_give wn_X13_give ({ frames := 0, cells := 0, slots := 0, locals := 0 }) (zPc dC dI sz [.ref h0, .int p0, .int p1] [(h0, .inr (15, fs))] []) (va_Qi (fun (r : Int32) (u : List Value) => r = 0 ∧ u = fs) (zB dC dI (fun _ => []) (fun u : List Value => [(h0, .inr (15, u))]) (va_A [(h0, .inr (15, fs))] sz)) (va_A [(h0, .inr (15, fs))] sz)) 0 0 (va_A [(h0, .inr (15, fs))] sz) := by
  refine Met.ofW (cc := cX13_give) (maxL := 4) (ret := (some .boolean)) (by decide) rfl ?_
  intro p e s m args below meth c s₁ B hml hv
  obtain ⟨rfl, hsz, hP, hK, hD0⟩ := hv
  have hx := B.exec
  have hb := B.bytes
  have hr := B.returns
  have hts := atoms_spec (ws := wn_X13_give) B.pre
  have hown : s.vm.findClass RX13 = some m.cls := findClass_of_methodNamed B.named
  have hlocks := B.notSynchronized
  subst hsz
  have hD := hD0.self (sz := s.heap.size)
  generalize hAe : va_A [(h0, .inr (15, fs))] s.heap.size = A at hD ⊢
  have hA : ∀ q : Nat, s.heap.size ≤ q → A q := fun q h => by rw [← hAe]; exact Or.inr h
  have hS : va_S A s.heap s.heap [] := va_S.rf
  have hP : va_P (dC, dI) vwCl [(h0, .inr (15, fs))] s.heap := hP
  have hl := lv_entry ([.ref h0, .int p0, .int p1]) (n := 4) (Nat.le_of_ble_eq_true rfl)
  rw [lg_entry_eq]
  generalize (lg_sl ([.ref h0, .int p0, .int p1]) ++ List.replicate (4 - (lg_sl ([.ref h0, .int p0, .int p1])).length) Slot.unset).toArray = ls at hl ⊢
  have hl : lv_has ls 4 [(0, .ref h0), (1, .int p0), (2, .int p1)] := hl
  refine lv_aload_n hx hb dX13_give_0 rfl (lv_at hl 0 rfl) ?_
  refine va_get (D := (dC, dI)) (ci := 15) (v := .int 0) (C := RX13) (T := TX13) (N := 196) hx hb hts iw_X13_given_X13 hown hK hP 0 rfl rfl 66 (by decide) (hts (.fieldLink RX13 750 "LiquidTongueModel" "hasOne" "Z") (by decide +kernel)) (fun _ h9 => h9) hf dX13_give_1 ?_
  refine lv_if_eq (tgt := 40) hx hb dX13_give_4 (by decide) (fun c_1 => ?_) (fun c_1 => absurd (by decide) c_1)
  refine lv_iconst (v := 0) hx hb dX13_give_40 (by decide) ?_
  have hP9 := hP.sub (ws' := [(h0, .inr (15, fs))]) [0] rfl
  have hD9 := hD.sub (ws' := [(h0, .inr (15, fs))]) [0] (by decide) rfl
  have hK9 := hK.sub (tys' := []) [] rfl
  exact W.zret (v := 0) hx hb hr (by first | rfl | decide) (fun t ht hW => ⟨⟨0, fs, rfl, ⟨rfl, rfl⟩, (zB_mk (by rw [ht]; exact hP9) (va_K.moved hW.alike hK9) hD9)⟩, hS.F ht⟩) hS.2.2 dX13_give_41
def wn_X13_element : List Cond := .code yX13_element cX13_element 4 (some .boolean) :: ([.fieldLink RX13 750 "LiquidTongueModel" "hasOne" "Z"] ++ wsX130)
theorem iw_X13_elementn_X13 : ∀ w ∈ wsX130, w ∈ wn_X13_element := fun w h => List.mem_cons_of_mem _ (List.mem_append_right _ h)
set_option maxHeartbeats 4000000 in
set_option maxRecDepth 100000 in
/-- element without a program -/
theorem c_X13_element_none (l : Launch) (dC : Nat → ClassId) (dI : Nat → Nat → Nat) (sz : Nat) (h0 : Nat) (fs : List Value) (p0 p1 p2 : Int32) (hfl : fs.length = 196) (hf : fs[66]? = some (.int 0)) : Met l yX13_element wn_X13_element ({ frames := 0, cells := 0, slots := 0, locals := 0 }) (zPc dC dI sz [.ref h0, .int p0, .int p1, .int p2] [(h0, .inr (15, fs))] []) (va_Qi (fun (r : Int32) (u : List Value) => r = 0 ∧ u = fs) (zB dC dI (fun _ => []) (fun u : List Value => [(h0, .inr (15, u))]) (va_A [(h0, .inr (15, fs))] sz)) (va_A [(h0, .inr (15, fs))] sz)) 0 0 (va_A [(h0, .inr (15, fs))] sz) := by
  refine Met.ofW (cc := cX13_element) (maxL := 4) (ret := (some .boolean)) (by decide) rfl ?_
  intro p e s m args below meth c s₁ B hml hv
  obtain ⟨rfl, hsz, hP, hK, hD0⟩ := hv
  have hx := B.exec
  have hb := B.bytes
  have hr := B.returns
  have hts := atoms_spec (ws := wn_X13_element) B.pre
  have hown : s.vm.findClass RX13 = some m.cls := findClass_of_methodNamed B.named
  have hlocks := B.notSynchronized
  subst hsz
  have hD := hD0.self (sz := s.heap.size)
  generalize hAe : va_A [(h0, .inr (15, fs))] s.heap.size = A at hD ⊢
  have hA : ∀ q : Nat, s.heap.size ≤ q → A q := fun q h => by rw [← hAe]; exact Or.inr h
  have hS : va_S A s.heap s.heap [] := va_S.rf
  have hP : va_P (dC, dI) vwCl [(h0, .inr (15, fs))] s.heap := hP
  have hl := lv_entry ([.ref h0, .int p0, .int p1, .int p2]) (n := 4) (Nat.le_of_ble_eq_true rfl)
  rw [lg_entry_eq]
  generalize (lg_sl ([.ref h0, .int p0, .int p1, .int p2]) ++ List.replicate (4 - (lg_sl ([.ref h0, .int p0, .int p1, .int p2])).length) Slot.unset).toArray = ls at hl ⊢
  have hl : lv_has ls 4 [(0, .ref h0), (1, .int p0), (2, .int p1), (3, .int p2)] := hl
  refine lv_aload_n hx hb dX13_element_0 rfl (lv_at hl 0 rfl) ?_
  refine va_get (D := (dC, dI)) (ci := 15) (v := .int 0) (C := RX13) (T := TX13) (N := 196) hx hb hts iw_X13_elementn_X13 hown hK hP 0 rfl rfl 66 (by decide) (hts (.fieldLink RX13 750 "LiquidTongueModel" "hasOne" "Z") (by decide +kernel)) (fun _ h9 => h9) hf dX13_element_1 ?_
  refine lv_if_eq (tgt := 45) hx hb dX13_element_4 (by decide) (fun c_1 => ?_) (fun c_1 => absurd (by decide) c_1)
  refine lv_iconst (v := 0) hx hb dX13_element_45 (by decide) ?_
  have hP9 := hP.sub (ws' := [(h0, .inr (15, fs))]) [0] rfl
  have hD9 := hD.sub (ws' := [(h0, .inr (15, fs))]) [0] (by decide) rfl
  have hK9 := hK.sub (tys' := []) [] rfl
  exact W.zret (v := 0) hx hb hr (by first | rfl | decide) (fun t ht hW => ⟨⟨0, fs, rfl, ⟨rfl, rfl⟩, (zB_mk (by rw [ht]; exact hP9) (va_K.moved hW.alike hK9) hD9)⟩, hS.F ht⟩) hS.2.2 dX13_element_46
def wn_X13_run : List Cond := .code yX13_run cX13_run 6 (some .int) :: ([.fieldLink RX13 750 "LiquidTongueModel" "hasOne" "Z"] ++ wsX130)
theorem iw_X13_runn_X13 : ∀ w ∈ wsX130, w ∈ wn_X13_run := fun w h => List.mem_cons_of_mem _ (List.mem_append_right _ h)
set_option maxHeartbeats 4000000 in
set_option maxRecDepth 100000 in
/-- run without a program -/
theorem c_X13_run_none (l : Launch) (dC : Nat → ClassId) (dI : Nat → Nat → Nat) (sz : Nat) (h0 : Nat) (fs : List Value) (p0 : Int32) (hfl : fs.length = 196) (hf : fs[66]? = some (.int 0)) : Met l yX13_run wn_X13_run ({ frames := 0, cells := 0, slots := 0, locals := 0 }) (zPc dC dI sz [.ref h0, .int p0] [(h0, .inr (15, fs))] []) (va_Qi (fun (r : Int32) (u : List Value) => r = (-1) ∧ u = fs) (zB dC dI (fun _ => []) (fun u : List Value => [(h0, .inr (15, u))]) (va_A [(h0, .inr (15, fs))] sz)) (va_A [(h0, .inr (15, fs))] sz)) 0 0 (va_A [(h0, .inr (15, fs))] sz) := by
  refine Met.ofW (cc := cX13_run) (maxL := 6) (ret := (some .int)) (by decide) rfl ?_
  intro p e s m args below meth c s₁ B hml hv
  obtain ⟨rfl, hsz, hP, hK, hD0⟩ := hv
  have hx := B.exec
  have hb := B.bytes
  have hr := B.returns
  have hts := atoms_spec (ws := wn_X13_run) B.pre
  have hown : s.vm.findClass RX13 = some m.cls := findClass_of_methodNamed B.named
  have hlocks := B.notSynchronized
  subst hsz
  have hD := hD0.self (sz := s.heap.size)
  generalize hAe : va_A [(h0, .inr (15, fs))] s.heap.size = A at hD ⊢
  have hA : ∀ q : Nat, s.heap.size ≤ q → A q := fun q h => by rw [← hAe]; exact Or.inr h
  have hS : va_S A s.heap s.heap [] := va_S.rf
  have hP : va_P (dC, dI) vwCl [(h0, .inr (15, fs))] s.heap := hP
  have hl := lv_entry ([.ref h0, .int p0]) (n := 6) (Nat.le_of_ble_eq_true rfl)
  rw [lg_entry_eq]
  generalize (lg_sl ([.ref h0, .int p0]) ++ List.replicate (6 - (lg_sl ([.ref h0, .int p0])).length) Slot.unset).toArray = ls at hl ⊢
  have hl : lv_has ls 6 [(0, .ref h0), (1, .int p0)] := hl
  refine lv_aload_n hx hb dX13_run_0 rfl (lv_at hl 0 rfl) ?_
  refine va_get (D := (dC, dI)) (ci := 15) (v := .int 0) (C := RX13) (T := TX13) (N := 196) hx hb hts iw_X13_runn_X13 hown hK hP 0 rfl rfl 66 (by decide) (hts (.fieldLink RX13 750 "LiquidTongueModel" "hasOne" "Z") (by decide +kernel)) (fun _ h9 => h9) hf dX13_run_1 ?_
  refine lv_if_eq (tgt := 18) hx hb dX13_run_4 (by decide) (fun c_1 => ?_) (fun c_1 => absurd (by decide) c_1)
  refine lv_iconst (v := -1) hx hb dX13_run_18 (by decide) ?_
  have hP9 := hP.sub (ws' := [(h0, .inr (15, fs))]) [0] rfl
  have hD9 := hD.sub (ws' := [(h0, .inr (15, fs))]) [0] (by decide) rfl
  have hK9 := hK.sub (tys' := []) [] rfl
  exact W.iret (v := (-1)) hx hb hr (fun t ht hW => ⟨⟨(-1), fs, rfl, ⟨rfl, rfl⟩, (zB_mk (by rw [ht]; exact hP9) (va_K.moved hW.alike hK9) hD9)⟩, hS.F ht⟩) hS.2.2 dX13_run_19
