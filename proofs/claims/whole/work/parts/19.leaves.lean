/-! leaf methods of the reference and of the class, a road each (wip/auto.py) -/
theorem iw_X13_fault_X13 : ∀ w ∈ wsX130, w ∈ wsX13_fault := fun w h => List.mem_cons_of_mem _ (List.mem_append_right _ h)
set_option maxHeartbeats 4000000 in
set_option maxRecDepth 100000 in
/-- X13_fault, a road -/
theorem c_X13_fault_r0 (l : Launch) (dC : Nat → ClassId) (dI : Nat → Nat → Nat) (sz : Nat) (h0 : Nat) (fs0 : List Value) (p0 : Int32) (p1 : Int32) (v0_11 : Int32) (hl0 : fs0.length = 196) (hf0_11 : fs0[11]? = some (.int v0_11)) (hc_0 : v0_11 = 0) : Met l yX13_fault wsX13_fault ({ frames := 0, cells := 0, slots := 0, locals := 0 }) (zPc dC dI sz [.ref h0, .int p0, .int p1] [(h0, .inr (15, fs0))] []) (va_Qv (fun _ : Unit => True) (zB dC dI (fun _ => []) (fun _ : Unit => [(h0, .inr (15, ((fs0.set 11 (.int p0)).set 12 (.int p1))))]) (va_A [(h0, .inr (15, fs0))] sz)) (va_A [(h0, .inr (15, fs0))] sz)) 0 0 (va_A [(h0, .inr (15, fs0))] sz) := by
  refine Met.ofW (cc := cX13_fault) (maxL := 3) (ret := none) (by decide) rfl ?_
  intro p e s m args below meth c s₁ B hml hv
  obtain ⟨rfl, hsz, hP, hK, hD0⟩ := hv
  have hx := B.exec
  have hb := B.bytes
  have hr := B.returns
  have hts := atoms_spec (ws := wsX13_fault) B.pre
  have hown : s.vm.findClass RX13 = some m.cls := findClass_of_methodNamed B.named
  have hlocks := B.notSynchronized
  subst hsz
  have hD := hD0.self (sz := s.heap.size)
  generalize hAe : va_A [(h0, .inr (15, fs0))] s.heap.size = A at hD ⊢
  have hA : ∀ q : Nat, s.heap.size ≤ q → A q := fun q h => by rw [← hAe]; exact Or.inr h
  have hS : va_S A s.heap s.heap [] := va_S.rf
  have hP : va_P (dC, dI) vwCl [(h0, .inr (15, fs0))] s.heap := hP
  have hl := lv_entry ([.ref h0, .int p0, .int p1]) (n := 3) (Nat.le_of_ble_eq_true rfl)
  rw [lg_entry_eq]
  generalize (lg_sl ([.ref h0, .int p0, .int p1]) ++ List.replicate (3 - (lg_sl ([.ref h0, .int p0, .int p1])).length) Slot.unset).toArray = ls at hl ⊢
  have hl : lv_has ls 3 [(0, .ref h0), (1, .int p0), (2, .int p1)] := hl
  refine lv_aload_n hx hb dX13_fault_0 rfl (lv_at hl 0 rfl) ?_
  refine va_get (D := (dC, dI)) (ci := 15) (v := .int v0_11) (C := RX13) (T := TX13) (N := 196) hx hb hts iw_X13_fault_X13 hown hK hP 0 rfl rfl 11 (by decide) (hts (.fieldLink RX13 392 "LiquidTongueModel" "bad" "I") (by decide +kernel)) (fun _ h9 => h9) hf0_11 dX13_fault_1 ?_
  refine lv_if_eq (tgt := 8) hx hb dX13_fault_4 (by decide) (fun c_1 => ?_) (fun c_1 => absurd hc_0 c_1)
  refine lv_aload_n hx hb dX13_fault_8 rfl (lv_at hl 0 rfl) ?_
  refine lv_iload_n hx hb dX13_fault_9 rfl (lv_at hl 1 rfl) ?_
  refine va_put (D := (dC, dI)) (ci := 15) (v := .int p0) (ty := .int) (C := RX13) (T := TX13) (N := 196) hx hb hts iw_X13_fault_X13 tyX13 tyX13_ok nmX13 hown hK hP hD hS 0 rfl rfl 11 (by decide) (hts (.fieldLink RX13 392 "LiquidTongueModel" "bad" "I") (by decide +kernel)) (fun _ h9 => h9) rfl (by decide +kernel) rfl rfl (zs_lt hl0 (by decide)) dX13_fault_10 (fun H locs hP hD hS => ?_)
  have hP : va_P (dC, dI) vwCl [(h0, .inr (15, (fs0.set 11 (.int p0))))] H := hP
  have hD : va_D A [(h0, .inr (15, (fs0.set 11 (.int p0))))] := hD
  refine lv_aload_n hx hb dX13_fault_13 rfl (lv_at hl 0 rfl) ?_
  refine lv_iload_n hx hb dX13_fault_14 rfl (lv_at hl 2 rfl) ?_
  refine va_put (D := (dC, dI)) (ci := 15) (v := .int p1) (ty := .int) (C := RX13) (T := TX13) (N := 196) hx hb hts iw_X13_fault_X13 tyX13 tyX13_ok nmX13 hown hK hP hD hS 0 rfl rfl 12 (by decide) (hts (.fieldLink RX13 395 "LiquidTongueModel" "badAt" "I") (by decide +kernel)) (fun _ h9 => h9) rfl (by decide +kernel) rfl rfl (zs_lt (zs_len hl0) (by decide)) dX13_fault_15 (fun H locs hP hD hS => ?_)
  have hP : va_P (dC, dI) vwCl [(h0, .inr (15, ((fs0.set 11 (.int p0)).set 12 (.int p1))))] H := hP
  have hD : va_D A [(h0, .inr (15, ((fs0.set 11 (.int p0)).set 12 (.int p1))))] := hD
  have hP9 := hP.sub (ws' := [(h0, .inr (15, ((fs0.set 11 (.int p0)).set 12 (.int p1))))]) [0] rfl
  have hD9 := hD.sub (ws' := [(h0, .inr (15, ((fs0.set 11 (.int p0)).set 12 (.int p1))))]) [0] (by decide) rfl
  have hK9 := hK.sub (tys' := []) [] rfl
  exact W.vret hx hb hr (fun t ht hW => ⟨⟨(), rfl, trivial, (zB_mk (by rw [ht]; exact hP9) (va_K.moved hW.alike hK9) hD9)⟩, hS.F ht⟩) hS.2.2 dX13_fault_18
set_option maxHeartbeats 4000000 in
set_option maxRecDepth 100000 in
/-- X13_fault, a road -/
theorem c_X13_fault_r1 (l : Launch) (dC : Nat → ClassId) (dI : Nat → Nat → Nat) (sz : Nat) (h0 : Nat) (fs0 : List Value) (p0 : Int32) (p1 : Int32) (v0_11 : Int32) (hl0 : fs0.length = 196) (hf0_11 : fs0[11]? = some (.int v0_11)) (hc_0 : ¬ v0_11 = 0) : Met l yX13_fault wsX13_fault ({ frames := 0, cells := 0, slots := 0, locals := 0 }) (zPc dC dI sz [.ref h0, .int p0, .int p1] [(h0, .inr (15, fs0))] []) (va_Qv (fun _ : Unit => True) (zB dC dI (fun _ => []) (fun _ : Unit => [(h0, .inr (15, fs0))]) (va_A [(h0, .inr (15, fs0))] sz)) (va_A [(h0, .inr (15, fs0))] sz)) 0 0 (va_A [(h0, .inr (15, fs0))] sz) := by
  refine Met.ofW (cc := cX13_fault) (maxL := 3) (ret := none) (by decide) rfl ?_
  intro p e s m args below meth c s₁ B hml hv
  obtain ⟨rfl, hsz, hP, hK, hD0⟩ := hv
  have hx := B.exec
  have hb := B.bytes
  have hr := B.returns
  have hts := atoms_spec (ws := wsX13_fault) B.pre
  have hown : s.vm.findClass RX13 = some m.cls := findClass_of_methodNamed B.named
  have hlocks := B.notSynchronized
  subst hsz
  have hD := hD0.self (sz := s.heap.size)
  generalize hAe : va_A [(h0, .inr (15, fs0))] s.heap.size = A at hD ⊢
  have hA : ∀ q : Nat, s.heap.size ≤ q → A q := fun q h => by rw [← hAe]; exact Or.inr h
  have hS : va_S A s.heap s.heap [] := va_S.rf
  have hP : va_P (dC, dI) vwCl [(h0, .inr (15, fs0))] s.heap := hP
  have hl := lv_entry ([.ref h0, .int p0, .int p1]) (n := 3) (Nat.le_of_ble_eq_true rfl)
  rw [lg_entry_eq]
  generalize (lg_sl ([.ref h0, .int p0, .int p1]) ++ List.replicate (3 - (lg_sl ([.ref h0, .int p0, .int p1])).length) Slot.unset).toArray = ls at hl ⊢
  have hl : lv_has ls 3 [(0, .ref h0), (1, .int p0), (2, .int p1)] := hl
  refine lv_aload_n hx hb dX13_fault_0 rfl (lv_at hl 0 rfl) ?_
  refine va_get (D := (dC, dI)) (ci := 15) (v := .int v0_11) (C := RX13) (T := TX13) (N := 196) hx hb hts iw_X13_fault_X13 hown hK hP 0 rfl rfl 11 (by decide) (hts (.fieldLink RX13 392 "LiquidTongueModel" "bad" "I") (by decide +kernel)) (fun _ h9 => h9) hf0_11 dX13_fault_1 ?_
  refine lv_if_eq (tgt := 8) hx hb dX13_fault_4 (by decide) (fun c_1 => absurd c_1 hc_0) (fun c_1 => ?_)
  have hP9 := hP.sub (ws' := [(h0, .inr (15, fs0))]) [0] rfl
  have hD9 := hD.sub (ws' := [(h0, .inr (15, fs0))]) [0] (by decide) rfl
  have hK9 := hK.sub (tys' := []) [] rfl
  exact W.vret hx hb hr (fun t ht hW => ⟨⟨(), rfl, trivial, (zB_mk (by rw [ht]; exact hP9) (va_K.moved hW.alike hK9) hD9)⟩, hS.F ht⟩) hS.2.2 dX13_fault_7
theorem iw_X13_clearLine_X13 : ∀ w ∈ wsX130, w ∈ wsX13_clearLine := fun w h => List.mem_cons_of_mem _ (List.mem_append_right _ h)
set_option maxHeartbeats 4000000 in
set_option maxRecDepth 100000 in
/-- X13_clearLine, a road -/
theorem c_X13_clearLine_r0 (l : Launch) (dC : Nat → ClassId) (dI : Nat → Nat → Nat) (sz : Nat) (h0 : Nat) (fs0 : List Value) (hl0 : fs0.length = 196) : Met l yX13_clearLine wsX13_clearLine ({ frames := 0, cells := 0, slots := 0, locals := 0 }) (zPc dC dI sz [.ref h0] [(h0, .inr (15, fs0))] []) (va_Qv (fun _ : Unit => True) (zB dC dI (fun _ => []) (fun _ : Unit => [(h0, .inr (15, ((fs0.set 63 (.int 0)).set 64 (.long 0))))]) (va_A [(h0, .inr (15, fs0))] sz)) (va_A [(h0, .inr (15, fs0))] sz)) 0 0 (va_A [(h0, .inr (15, fs0))] sz) := by
  refine Met.ofW (cc := cX13_clearLine) (maxL := 1) (ret := none) (by decide) rfl ?_
  intro p e s m args below meth c s₁ B hml hv
  obtain ⟨rfl, hsz, hP, hK, hD0⟩ := hv
  have hx := B.exec
  have hb := B.bytes
  have hr := B.returns
  have hts := atoms_spec (ws := wsX13_clearLine) B.pre
  have hown : s.vm.findClass RX13 = some m.cls := findClass_of_methodNamed B.named
  have hlocks := B.notSynchronized
  subst hsz
  have hD := hD0.self (sz := s.heap.size)
  generalize hAe : va_A [(h0, .inr (15, fs0))] s.heap.size = A at hD ⊢
  have hA : ∀ q : Nat, s.heap.size ≤ q → A q := fun q h => by rw [← hAe]; exact Or.inr h
  have hS : va_S A s.heap s.heap [] := va_S.rf
  have hP : va_P (dC, dI) vwCl [(h0, .inr (15, fs0))] s.heap := hP
  have hl := lv_entry ([.ref h0]) (n := 1) (Nat.le_of_ble_eq_true rfl)
  rw [lg_entry_eq]
  generalize (lg_sl ([.ref h0]) ++ List.replicate (1 - (lg_sl ([.ref h0])).length) Slot.unset).toArray = ls at hl ⊢
  have hl : lv_has ls 1 [(0, .ref h0)] := hl
  refine lv_aload_n hx hb dX13_clearLine_0 rfl (lv_at hl 0 rfl) ?_
  refine lv_iconst (v := 0) hx hb dX13_clearLine_1 (by decide) ?_
  refine va_put (D := (dC, dI)) (ci := 15) (v := .int 0) (ty := .int) (C := RX13) (T := TX13) (N := 196) hx hb hts iw_X13_clearLine_X13 tyX13 tyX13_ok nmX13 hown hK hP hD hS 0 rfl rfl 63 (by decide) (hts (.fieldLink RX13 704 "LiquidTongueModel" "lMany" "I") (by decide +kernel)) (fun _ h9 => h9) rfl (by decide +kernel) rfl rfl (zs_lt hl0 (by decide)) dX13_clearLine_2 (fun H locs hP hD hS => ?_)
  have hP : va_P (dC, dI) vwCl [(h0, .inr (15, (fs0.set 63 (.int 0))))] H := hP
  have hD : va_D A [(h0, .inr (15, (fs0.set 63 (.int 0))))] := hD
  refine lv_aload_n hx hb dX13_clearLine_5 rfl (lv_at hl 0 rfl) ?_
  refine lv_lconst (v := 0) hx hb dX13_clearLine_6 (by decide) ?_
  refine va_put (D := (dC, dI)) (ci := 15) (v := .long 0) (ty := .long) (C := RX13) (T := TX13) (N := 196) hx hb hts iw_X13_clearLine_X13 tyX13 tyX13_ok nmX13 hown hK hP hD hS 0 rfl rfl 64 (by decide) (hts (.fieldLink RX13 707 "LiquidTongueModel" "lNumber" "J") (by decide +kernel)) (fun _ h9 => h9) rfl (by decide +kernel) rfl rfl (zs_lt (zs_len hl0) (by decide)) dX13_clearLine_7 (fun H locs hP hD hS => ?_)
  have hP : va_P (dC, dI) vwCl [(h0, .inr (15, ((fs0.set 63 (.int 0)).set 64 (.long 0))))] H := hP
  have hD : va_D A [(h0, .inr (15, ((fs0.set 63 (.int 0)).set 64 (.long 0))))] := hD
  have hP9 := hP.sub (ws' := [(h0, .inr (15, ((fs0.set 63 (.int 0)).set 64 (.long 0))))]) [0] rfl
  have hD9 := hD.sub (ws' := [(h0, .inr (15, ((fs0.set 63 (.int 0)).set 64 (.long 0))))]) [0] (by decide) rfl
  have hK9 := hK.sub (tys' := []) [] rfl
  exact W.vret hx hb hr (fun t ht hW => ⟨⟨(), rfl, trivial, (zB_mk (by rw [ht]; exact hP9) (va_K.moved hW.alike hK9) hD9)⟩, hS.F ht⟩) hS.2.2 dX13_clearLine_10
theorem iw_X13_word_X13 : ∀ w ∈ wsX130, w ∈ wsX13_word := fun w h => List.mem_cons_of_mem _ (List.mem_append_right _ h)
set_option maxHeartbeats 4000000 in
set_option maxRecDepth 100000 in
/-- X13_word, a road -/
theorem c_X13_word_r0 (l : Launch) (dC : Nat → ClassId) (dI : Nat → Nat → Nat) (sz : Nat) (h0 : Nat) (fs0 : List Value) (p0 : Int32) (p1 : Int32) (p2 : Int32) (v0_6 : Nat) (v0_9 : Int32) (c_v0_6 : ClassId) (f_v0_6 : Nat → Int32) (v0_7 : Nat) (c_v0_7 : ClassId) (f_v0_7 : Nat → Int32) (v0_8 : Nat) (c_v0_8 : ClassId) (f_v0_8 : Nat → Int32) (hl0 : fs0.length = 196) (hf0_6 : fs0[6]? = some (.ref v0_6)) (hf0_9 : fs0[9]? = some (.int v0_9)) (hf0_7 : fs0[7]? = some (.ref v0_7)) (hf0_8 : fs0[8]? = some (.ref v0_8)) (hi_0 : vp_in v0_9 2010) (hi_1 : vp_in v0_9 2010) (hi_2 : vp_in v0_9 2010) : Met l yX13_word wsX13_word ({ frames := 0, cells := 0, slots := 0, locals := 0 }) (zPc dC dI sz [.ref h0, .int p0, .int p1, .int p2] [(h0, .inr (15, fs0)), (v0_6, .inl (c_v0_6, 2010, .inl f_v0_6)), (v0_7, .inl (c_v0_7, 2010, .inl f_v0_7)), (v0_8, .inl (c_v0_8, 2010, .inl f_v0_8))] [(c_v0_6, .int), (c_v0_7, .int), (c_v0_8, .int)]) (va_Qv (fun _ : Unit => True) (zB dC dI (fun _ => [(c_v0_6, .int), (c_v0_7, .int), (c_v0_8, .int)]) (fun _ : Unit => [(h0, .inr (15, (fs0.set 9 (.int (v0_9 + 1))))), (v0_6, .inl (c_v0_6, 2010, .inl (upd f_v0_6 (v0_9).toNatClampNeg p0))), (v0_7, .inl (c_v0_7, 2010, .inl (upd f_v0_7 (v0_9).toNatClampNeg p1))), (v0_8, .inl (c_v0_8, 2010, .inl (upd f_v0_8 (v0_9).toNatClampNeg p2)))]) (va_A [(h0, .inr (15, fs0)), (v0_6, .inl (c_v0_6, 2010, .inl f_v0_6)), (v0_7, .inl (c_v0_7, 2010, .inl f_v0_7)), (v0_8, .inl (c_v0_8, 2010, .inl f_v0_8))] sz)) (va_A [(h0, .inr (15, fs0)), (v0_6, .inl (c_v0_6, 2010, .inl f_v0_6)), (v0_7, .inl (c_v0_7, 2010, .inl f_v0_7)), (v0_8, .inl (c_v0_8, 2010, .inl f_v0_8))] sz)) 0 0 (va_A [(h0, .inr (15, fs0)), (v0_6, .inl (c_v0_6, 2010, .inl f_v0_6)), (v0_7, .inl (c_v0_7, 2010, .inl f_v0_7)), (v0_8, .inl (c_v0_8, 2010, .inl f_v0_8))] sz) := by
  refine Met.ofW (cc := cX13_word) (maxL := 4) (ret := none) (by decide) rfl ?_
  intro p e s m args below meth c s₁ B hml hv
  obtain ⟨rfl, hsz, hP, hK, hD0⟩ := hv
  have hx := B.exec
  have hb := B.bytes
  have hr := B.returns
  have hts := atoms_spec (ws := wsX13_word) B.pre
  have hown : s.vm.findClass RX13 = some m.cls := findClass_of_methodNamed B.named
  have hlocks := B.notSynchronized
  subst hsz
  have hD := hD0.self (sz := s.heap.size)
  generalize hAe : va_A [(h0, .inr (15, fs0)), (v0_6, .inl (c_v0_6, 2010, .inl f_v0_6)), (v0_7, .inl (c_v0_7, 2010, .inl f_v0_7)), (v0_8, .inl (c_v0_8, 2010, .inl f_v0_8))] s.heap.size = A at hD ⊢
  have hA : ∀ q : Nat, s.heap.size ≤ q → A q := fun q h => by rw [← hAe]; exact Or.inr h
  have hS : va_S A s.heap s.heap [] := va_S.rf
  have hP : va_P (dC, dI) vwCl [(h0, .inr (15, fs0)), (v0_6, .inl (c_v0_6, 2010, .inl f_v0_6)), (v0_7, .inl (c_v0_7, 2010, .inl f_v0_7)), (v0_8, .inl (c_v0_8, 2010, .inl f_v0_8))] s.heap := hP
  have hl := lv_entry ([.ref h0, .int p0, .int p1, .int p2]) (n := 4) (Nat.le_of_ble_eq_true rfl)
  rw [lg_entry_eq]
  generalize (lg_sl ([.ref h0, .int p0, .int p1, .int p2]) ++ List.replicate (4 - (lg_sl ([.ref h0, .int p0, .int p1, .int p2])).length) Slot.unset).toArray = ls at hl ⊢
  have hl : lv_has ls 4 [(0, .ref h0), (1, .int p0), (2, .int p1), (3, .int p2)] := hl
  refine lv_aload_n hx hb dX13_word_0 rfl (lv_at hl 0 rfl) ?_
  refine va_get (D := (dC, dI)) (ci := 15) (v := .ref v0_6) (C := RX13) (T := TX13) (N := 196) hx hb hts iw_X13_word_X13 hown hK hP 0 rfl rfl 6 (by decide) (hts (.fieldLink RX13 19 "LiquidTongueModel" "wKind" "[I") (by decide +kernel)) (fun _ h9 => h9) hf0_6 dX13_word_1 ?_
  refine lv_aload_n hx hb dX13_word_4 rfl (lv_at hl 0 rfl) ?_
  refine va_get (D := (dC, dI)) (ci := 15) (v := .int v0_9) (C := RX13) (T := TX13) (N := 196) hx hb hts iw_X13_word_X13 hown hK hP 0 rfl rfl 9 (by decide) (hts (.fieldLink RX13 398 "LiquidTongueModel" "words" "I") (by decide +kernel)) (fun _ h9 => h9) hf0_9 dX13_word_5 ?_
  refine lv_iload_n hx hb dX13_word_8 rfl (lv_at hl 1 rfl) ?_
  refine va_iast hx hb hK hP hD hS 1 0 rfl rfl hi_0 dX13_word_9 (fun H locs hP hD hS => ?_)
  have hP : va_P (dC, dI) vwCl [(h0, .inr (15, fs0)), (v0_6, .inl (c_v0_6, 2010, .inl (upd f_v0_6 (v0_9).toNatClampNeg p0))), (v0_7, .inl (c_v0_7, 2010, .inl f_v0_7)), (v0_8, .inl (c_v0_8, 2010, .inl f_v0_8))] H := hP
  have hD : va_D A [(h0, .inr (15, fs0)), (v0_6, .inl (c_v0_6, 2010, .inl (upd f_v0_6 (v0_9).toNatClampNeg p0))), (v0_7, .inl (c_v0_7, 2010, .inl f_v0_7)), (v0_8, .inl (c_v0_8, 2010, .inl f_v0_8))] := hD
  refine lv_aload_n hx hb dX13_word_10 rfl (lv_at hl 0 rfl) ?_
  refine va_get (D := (dC, dI)) (ci := 15) (v := .ref v0_7) (C := RX13) (T := TX13) (N := 196) hx hb hts iw_X13_word_X13 hown hK hP 0 rfl rfl 7 (by decide) (hts (.fieldLink RX13 23 "LiquidTongueModel" "wAt" "[I") (by decide +kernel)) (fun _ h9 => h9) hf0_7 dX13_word_11 ?_
  refine lv_aload_n hx hb dX13_word_14 rfl (lv_at hl 0 rfl) ?_
  refine va_get (D := (dC, dI)) (ci := 15) (v := .int v0_9) (C := RX13) (T := TX13) (N := 196) hx hb hts iw_X13_word_X13 hown hK hP 0 rfl rfl 9 (by decide) (hts (.fieldLink RX13 398 "LiquidTongueModel" "words" "I") (by decide +kernel)) (fun _ h9 => h9) hf0_9 dX13_word_15 ?_
  refine lv_iload_n hx hb dX13_word_18 rfl (lv_at hl 2 rfl) ?_
  refine va_iast hx hb hK hP hD hS 2 1 rfl rfl hi_1 dX13_word_19 (fun H locs hP hD hS => ?_)
  have hP : va_P (dC, dI) vwCl [(h0, .inr (15, fs0)), (v0_6, .inl (c_v0_6, 2010, .inl (upd f_v0_6 (v0_9).toNatClampNeg p0))), (v0_7, .inl (c_v0_7, 2010, .inl (upd f_v0_7 (v0_9).toNatClampNeg p1))), (v0_8, .inl (c_v0_8, 2010, .inl f_v0_8))] H := hP
  have hD : va_D A [(h0, .inr (15, fs0)), (v0_6, .inl (c_v0_6, 2010, .inl (upd f_v0_6 (v0_9).toNatClampNeg p0))), (v0_7, .inl (c_v0_7, 2010, .inl (upd f_v0_7 (v0_9).toNatClampNeg p1))), (v0_8, .inl (c_v0_8, 2010, .inl f_v0_8))] := hD
  refine lv_aload_n hx hb dX13_word_20 rfl (lv_at hl 0 rfl) ?_
  refine va_get (D := (dC, dI)) (ci := 15) (v := .ref v0_8) (C := RX13) (T := TX13) (N := 196) hx hb hts iw_X13_word_X13 hown hK hP 0 rfl rfl 8 (by decide) (hts (.fieldLink RX13 26 "LiquidTongueModel" "wEnd" "[I") (by decide +kernel)) (fun _ h9 => h9) hf0_8 dX13_word_21 ?_
  refine lv_aload_n hx hb dX13_word_24 rfl (lv_at hl 0 rfl) ?_
  refine va_get (D := (dC, dI)) (ci := 15) (v := .int v0_9) (C := RX13) (T := TX13) (N := 196) hx hb hts iw_X13_word_X13 hown hK hP 0 rfl rfl 9 (by decide) (hts (.fieldLink RX13 398 "LiquidTongueModel" "words" "I") (by decide +kernel)) (fun _ h9 => h9) hf0_9 dX13_word_25 ?_
  refine lv_iload_n hx hb dX13_word_28 rfl (lv_at hl 3 rfl) ?_
  refine va_iast hx hb hK hP hD hS 3 2 rfl rfl hi_2 dX13_word_29 (fun H locs hP hD hS => ?_)
  have hP : va_P (dC, dI) vwCl [(h0, .inr (15, fs0)), (v0_6, .inl (c_v0_6, 2010, .inl (upd f_v0_6 (v0_9).toNatClampNeg p0))), (v0_7, .inl (c_v0_7, 2010, .inl (upd f_v0_7 (v0_9).toNatClampNeg p1))), (v0_8, .inl (c_v0_8, 2010, .inl (upd f_v0_8 (v0_9).toNatClampNeg p2)))] H := hP
  have hD : va_D A [(h0, .inr (15, fs0)), (v0_6, .inl (c_v0_6, 2010, .inl (upd f_v0_6 (v0_9).toNatClampNeg p0))), (v0_7, .inl (c_v0_7, 2010, .inl (upd f_v0_7 (v0_9).toNatClampNeg p1))), (v0_8, .inl (c_v0_8, 2010, .inl (upd f_v0_8 (v0_9).toNatClampNeg p2)))] := hD
  refine lv_aload_n hx hb dX13_word_30 rfl (lv_at hl 0 rfl) ?_
  refine lv_dup hx hb dX13_word_31 rfl ?_
  refine va_get (D := (dC, dI)) (ci := 15) (v := .int v0_9) (C := RX13) (T := TX13) (N := 196) hx hb hts iw_X13_word_X13 hown hK hP 0 rfl rfl 9 (by decide) (hts (.fieldLink RX13 398 "LiquidTongueModel" "words" "I") (by decide +kernel)) (fun _ h9 => h9) hf0_9 dX13_word_32 ?_
  refine lv_iconst (v := 1) hx hb dX13_word_35 (by decide) ?_
  refine lv_iadd hx hb dX13_word_36 ?_
  refine va_put (D := (dC, dI)) (ci := 15) (v := .int (v0_9 + 1)) (ty := .int) (C := RX13) (T := TX13) (N := 196) hx hb hts iw_X13_word_X13 tyX13 tyX13_ok nmX13 hown hK hP hD hS 0 rfl rfl 9 (by decide) (hts (.fieldLink RX13 398 "LiquidTongueModel" "words" "I") (by decide +kernel)) (fun _ h9 => h9) rfl (by decide +kernel) rfl rfl (zs_lt hl0 (by decide)) dX13_word_37 (fun H locs hP hD hS => ?_)
  have hP : va_P (dC, dI) vwCl [(h0, .inr (15, (fs0.set 9 (.int (v0_9 + 1))))), (v0_6, .inl (c_v0_6, 2010, .inl (upd f_v0_6 (v0_9).toNatClampNeg p0))), (v0_7, .inl (c_v0_7, 2010, .inl (upd f_v0_7 (v0_9).toNatClampNeg p1))), (v0_8, .inl (c_v0_8, 2010, .inl (upd f_v0_8 (v0_9).toNatClampNeg p2)))] H := hP
  have hD : va_D A [(h0, .inr (15, (fs0.set 9 (.int (v0_9 + 1))))), (v0_6, .inl (c_v0_6, 2010, .inl (upd f_v0_6 (v0_9).toNatClampNeg p0))), (v0_7, .inl (c_v0_7, 2010, .inl (upd f_v0_7 (v0_9).toNatClampNeg p1))), (v0_8, .inl (c_v0_8, 2010, .inl (upd f_v0_8 (v0_9).toNatClampNeg p2)))] := hD
  have hP9 := hP.sub (ws' := [(h0, .inr (15, (fs0.set 9 (.int (v0_9 + 1))))), (v0_6, .inl (c_v0_6, 2010, .inl (upd f_v0_6 (v0_9).toNatClampNeg p0))), (v0_7, .inl (c_v0_7, 2010, .inl (upd f_v0_7 (v0_9).toNatClampNeg p1))), (v0_8, .inl (c_v0_8, 2010, .inl (upd f_v0_8 (v0_9).toNatClampNeg p2)))]) [0, 1, 2, 3] rfl
  have hD9 := hD.sub (ws' := [(h0, .inr (15, (fs0.set 9 (.int (v0_9 + 1))))), (v0_6, .inl (c_v0_6, 2010, .inl (upd f_v0_6 (v0_9).toNatClampNeg p0))), (v0_7, .inl (c_v0_7, 2010, .inl (upd f_v0_7 (v0_9).toNatClampNeg p1))), (v0_8, .inl (c_v0_8, 2010, .inl (upd f_v0_8 (v0_9).toNatClampNeg p2)))]) [0, 1, 2, 3] (by decide) rfl
  have hK9 := hK.sub (tys' := [(c_v0_6, .int), (c_v0_7, .int), (c_v0_8, .int)]) [0, 1, 2] rfl
  exact W.vret hx hb hr (fun t ht hW => ⟨⟨(), rfl, trivial, (zB_mk (by rw [ht]; exact hP9) (va_K.moved hW.alike hK9) hD9)⟩, hS.F ht⟩) hS.2.2 dX13_word_40
theorem iw_X13_node_X13 : ∀ w ∈ wsX130, w ∈ wsX13_node := fun w h => List.mem_cons_of_mem _ (List.mem_append_right _ h)
set_option maxHeartbeats 4000000 in
set_option maxRecDepth 100000 in
/-- X13_node, a road -/
theorem c_X13_node_r0 (l : Launch) (dC : Nat → ClassId) (dI : Nat → Nat → Nat) (sz : Nat) (h0 : Nat) (fs0 : List Value) (p0 : Int32) (p1 : Int32) (v0_13 : Nat) (v0_20 : Int32) (c_v0_13 : ClassId) (f_v0_13 : Nat → Int32) (v0_14 : Nat) (c_v0_14 : ClassId) (f_v0_14 : Nat → Int32) (v0_15 : Nat) (c_v0_15 : ClassId) (f_v0_15 : Nat → Int32) (hl0 : fs0.length = 196) (hf0_13 : fs0[13]? = some (.ref v0_13)) (hf0_20 : fs0[20]? = some (.int v0_20)) (hf0_14 : fs0[14]? = some (.ref v0_14)) (hf0_15 : fs0[15]? = some (.ref v0_15)) (hi_0 : vp_in v0_20 2100) (hi_1 : vp_in v0_20 2100) (hi_2 : vp_in v0_20 2100) : Met l yX13_node wsX13_node ({ frames := 0, cells := 0, slots := 0, locals := 0 }) (zPc dC dI sz [.ref h0, .int p0, .int p1] [(h0, .inr (15, fs0)), (v0_13, .inl (c_v0_13, 2100, .inl f_v0_13)), (v0_14, .inl (c_v0_14, 2100, .inl f_v0_14)), (v0_15, .inl (c_v0_15, 2100, .inl f_v0_15))] [(c_v0_13, .int), (c_v0_14, .int), (c_v0_15, .int)]) (va_Qi (fun (r : Int32) (_ : Unit) => r = ((v0_20 + 1) - 1)) (zB dC dI (fun _ => [(c_v0_13, .int), (c_v0_14, .int), (c_v0_15, .int)]) (fun _ : Unit => [(h0, .inr (15, (fs0.set 20 (.int (v0_20 + 1))))), (v0_13, .inl (c_v0_13, 2100, .inl (upd f_v0_13 (v0_20).toNatClampNeg p0))), (v0_14, .inl (c_v0_14, 2100, .inl (upd f_v0_14 (v0_20).toNatClampNeg p1))), (v0_15, .inl (c_v0_15, 2100, .inl (upd f_v0_15 (v0_20).toNatClampNeg p1)))]) (va_A [(h0, .inr (15, fs0)), (v0_13, .inl (c_v0_13, 2100, .inl f_v0_13)), (v0_14, .inl (c_v0_14, 2100, .inl f_v0_14)), (v0_15, .inl (c_v0_15, 2100, .inl f_v0_15))] sz)) (va_A [(h0, .inr (15, fs0)), (v0_13, .inl (c_v0_13, 2100, .inl f_v0_13)), (v0_14, .inl (c_v0_14, 2100, .inl f_v0_14)), (v0_15, .inl (c_v0_15, 2100, .inl f_v0_15))] sz)) 0 0 (va_A [(h0, .inr (15, fs0)), (v0_13, .inl (c_v0_13, 2100, .inl f_v0_13)), (v0_14, .inl (c_v0_14, 2100, .inl f_v0_14)), (v0_15, .inl (c_v0_15, 2100, .inl f_v0_15))] sz) := by
  refine Met.ofW (cc := cX13_node) (maxL := 3) (ret := (some .int)) (by decide) rfl ?_
  intro p e s m args below meth c s₁ B hml hv
  obtain ⟨rfl, hsz, hP, hK, hD0⟩ := hv
  have hx := B.exec
  have hb := B.bytes
  have hr := B.returns
  have hts := atoms_spec (ws := wsX13_node) B.pre
  have hown : s.vm.findClass RX13 = some m.cls := findClass_of_methodNamed B.named
  have hlocks := B.notSynchronized
  subst hsz
  have hD := hD0.self (sz := s.heap.size)
  generalize hAe : va_A [(h0, .inr (15, fs0)), (v0_13, .inl (c_v0_13, 2100, .inl f_v0_13)), (v0_14, .inl (c_v0_14, 2100, .inl f_v0_14)), (v0_15, .inl (c_v0_15, 2100, .inl f_v0_15))] s.heap.size = A at hD ⊢
  have hA : ∀ q : Nat, s.heap.size ≤ q → A q := fun q h => by rw [← hAe]; exact Or.inr h
  have hS : va_S A s.heap s.heap [] := va_S.rf
  have hP : va_P (dC, dI) vwCl [(h0, .inr (15, fs0)), (v0_13, .inl (c_v0_13, 2100, .inl f_v0_13)), (v0_14, .inl (c_v0_14, 2100, .inl f_v0_14)), (v0_15, .inl (c_v0_15, 2100, .inl f_v0_15))] s.heap := hP
  have hl := lv_entry ([.ref h0, .int p0, .int p1]) (n := 3) (Nat.le_of_ble_eq_true rfl)
  rw [lg_entry_eq]
  generalize (lg_sl ([.ref h0, .int p0, .int p1]) ++ List.replicate (3 - (lg_sl ([.ref h0, .int p0, .int p1])).length) Slot.unset).toArray = ls at hl ⊢
  have hl : lv_has ls 3 [(0, .ref h0), (1, .int p0), (2, .int p1)] := hl
  refine lv_aload_n hx hb dX13_node_0 rfl (lv_at hl 0 rfl) ?_
  refine va_get (D := (dC, dI)) (ci := 15) (v := .ref v0_13) (C := RX13) (T := TX13) (N := 196) hx hb hts iw_X13_node_X13 hown hK hP 0 rfl rfl 13 (by decide) (hts (.fieldLink RX13 29 "LiquidTongueModel" "kind" "[I") (by decide +kernel)) (fun _ h9 => h9) hf0_13 dX13_node_1 ?_
  refine lv_aload_n hx hb dX13_node_4 rfl (lv_at hl 0 rfl) ?_
  refine va_get (D := (dC, dI)) (ci := 15) (v := .int v0_20) (C := RX13) (T := TX13) (N := 196) hx hb hts iw_X13_node_X13 hown hK hP 0 rfl rfl 20 (by decide) (hts (.fieldLink RX13 436 "LiquidTongueModel" "nodes" "I") (by decide +kernel)) (fun _ h9 => h9) hf0_20 dX13_node_5 ?_
  refine lv_iload_n hx hb dX13_node_8 rfl (lv_at hl 1 rfl) ?_
  refine va_iast hx hb hK hP hD hS 1 0 rfl rfl hi_0 dX13_node_9 (fun H locs hP hD hS => ?_)
  have hP : va_P (dC, dI) vwCl [(h0, .inr (15, fs0)), (v0_13, .inl (c_v0_13, 2100, .inl (upd f_v0_13 (v0_20).toNatClampNeg p0))), (v0_14, .inl (c_v0_14, 2100, .inl f_v0_14)), (v0_15, .inl (c_v0_15, 2100, .inl f_v0_15))] H := hP
  have hD : va_D A [(h0, .inr (15, fs0)), (v0_13, .inl (c_v0_13, 2100, .inl (upd f_v0_13 (v0_20).toNatClampNeg p0))), (v0_14, .inl (c_v0_14, 2100, .inl f_v0_14)), (v0_15, .inl (c_v0_15, 2100, .inl f_v0_15))] := hD
  refine lv_aload_n hx hb dX13_node_10 rfl (lv_at hl 0 rfl) ?_
  refine va_get (D := (dC, dI)) (ci := 15) (v := .ref v0_14) (C := RX13) (T := TX13) (N := 196) hx hb hts iw_X13_node_X13 hown hK hP 0 rfl rfl 14 (by decide) (hts (.fieldLink RX13 32 "LiquidTongueModel" "at" "[I") (by decide +kernel)) (fun _ h9 => h9) hf0_14 dX13_node_11 ?_
  refine lv_aload_n hx hb dX13_node_14 rfl (lv_at hl 0 rfl) ?_
  refine va_get (D := (dC, dI)) (ci := 15) (v := .int v0_20) (C := RX13) (T := TX13) (N := 196) hx hb hts iw_X13_node_X13 hown hK hP 0 rfl rfl 20 (by decide) (hts (.fieldLink RX13 436 "LiquidTongueModel" "nodes" "I") (by decide +kernel)) (fun _ h9 => h9) hf0_20 dX13_node_15 ?_
  refine lv_iload_n hx hb dX13_node_18 rfl (lv_at hl 2 rfl) ?_
  refine va_iast hx hb hK hP hD hS 2 1 rfl rfl hi_1 dX13_node_19 (fun H locs hP hD hS => ?_)
  have hP : va_P (dC, dI) vwCl [(h0, .inr (15, fs0)), (v0_13, .inl (c_v0_13, 2100, .inl (upd f_v0_13 (v0_20).toNatClampNeg p0))), (v0_14, .inl (c_v0_14, 2100, .inl (upd f_v0_14 (v0_20).toNatClampNeg p1))), (v0_15, .inl (c_v0_15, 2100, .inl f_v0_15))] H := hP
  have hD : va_D A [(h0, .inr (15, fs0)), (v0_13, .inl (c_v0_13, 2100, .inl (upd f_v0_13 (v0_20).toNatClampNeg p0))), (v0_14, .inl (c_v0_14, 2100, .inl (upd f_v0_14 (v0_20).toNatClampNeg p1))), (v0_15, .inl (c_v0_15, 2100, .inl f_v0_15))] := hD
  refine lv_aload_n hx hb dX13_node_20 rfl (lv_at hl 0 rfl) ?_
  refine va_get (D := (dC, dI)) (ci := 15) (v := .ref v0_15) (C := RX13) (T := TX13) (N := 196) hx hb hts iw_X13_node_X13 hown hK hP 0 rfl rfl 15 (by decide) (hts (.fieldLink RX13 35 "LiquidTongueModel" "sign" "[I") (by decide +kernel)) (fun _ h9 => h9) hf0_15 dX13_node_21 ?_
  refine lv_aload_n hx hb dX13_node_24 rfl (lv_at hl 0 rfl) ?_
  refine va_get (D := (dC, dI)) (ci := 15) (v := .int v0_20) (C := RX13) (T := TX13) (N := 196) hx hb hts iw_X13_node_X13 hown hK hP 0 rfl rfl 20 (by decide) (hts (.fieldLink RX13 436 "LiquidTongueModel" "nodes" "I") (by decide +kernel)) (fun _ h9 => h9) hf0_20 dX13_node_25 ?_
  refine lv_iload_n hx hb dX13_node_28 rfl (lv_at hl 2 rfl) ?_
  refine va_iast hx hb hK hP hD hS 3 2 rfl rfl hi_2 dX13_node_29 (fun H locs hP hD hS => ?_)
  have hP : va_P (dC, dI) vwCl [(h0, .inr (15, fs0)), (v0_13, .inl (c_v0_13, 2100, .inl (upd f_v0_13 (v0_20).toNatClampNeg p0))), (v0_14, .inl (c_v0_14, 2100, .inl (upd f_v0_14 (v0_20).toNatClampNeg p1))), (v0_15, .inl (c_v0_15, 2100, .inl (upd f_v0_15 (v0_20).toNatClampNeg p1)))] H := hP
  have hD : va_D A [(h0, .inr (15, fs0)), (v0_13, .inl (c_v0_13, 2100, .inl (upd f_v0_13 (v0_20).toNatClampNeg p0))), (v0_14, .inl (c_v0_14, 2100, .inl (upd f_v0_14 (v0_20).toNatClampNeg p1))), (v0_15, .inl (c_v0_15, 2100, .inl (upd f_v0_15 (v0_20).toNatClampNeg p1)))] := hD
  refine lv_aload_n hx hb dX13_node_30 rfl (lv_at hl 0 rfl) ?_
  refine lv_dup hx hb dX13_node_31 rfl ?_
  refine va_get (D := (dC, dI)) (ci := 15) (v := .int v0_20) (C := RX13) (T := TX13) (N := 196) hx hb hts iw_X13_node_X13 hown hK hP 0 rfl rfl 20 (by decide) (hts (.fieldLink RX13 436 "LiquidTongueModel" "nodes" "I") (by decide +kernel)) (fun _ h9 => h9) hf0_20 dX13_node_32 ?_
  refine lv_iconst (v := 1) hx hb dX13_node_35 (by decide) ?_
  refine lv_iadd hx hb dX13_node_36 ?_
  refine va_put (D := (dC, dI)) (ci := 15) (v := .int (v0_20 + 1)) (ty := .int) (C := RX13) (T := TX13) (N := 196) hx hb hts iw_X13_node_X13 tyX13 tyX13_ok nmX13 hown hK hP hD hS 0 rfl rfl 20 (by decide) (hts (.fieldLink RX13 436 "LiquidTongueModel" "nodes" "I") (by decide +kernel)) (fun _ h9 => h9) rfl (by decide +kernel) rfl rfl (zs_lt hl0 (by decide)) dX13_node_37 (fun H locs hP hD hS => ?_)
  have hP : va_P (dC, dI) vwCl [(h0, .inr (15, (fs0.set 20 (.int (v0_20 + 1))))), (v0_13, .inl (c_v0_13, 2100, .inl (upd f_v0_13 (v0_20).toNatClampNeg p0))), (v0_14, .inl (c_v0_14, 2100, .inl (upd f_v0_14 (v0_20).toNatClampNeg p1))), (v0_15, .inl (c_v0_15, 2100, .inl (upd f_v0_15 (v0_20).toNatClampNeg p1)))] H := hP
  have hD : va_D A [(h0, .inr (15, (fs0.set 20 (.int (v0_20 + 1))))), (v0_13, .inl (c_v0_13, 2100, .inl (upd f_v0_13 (v0_20).toNatClampNeg p0))), (v0_14, .inl (c_v0_14, 2100, .inl (upd f_v0_14 (v0_20).toNatClampNeg p1))), (v0_15, .inl (c_v0_15, 2100, .inl (upd f_v0_15 (v0_20).toNatClampNeg p1)))] := hD
  refine lv_aload_n hx hb dX13_node_40 rfl (lv_at hl 0 rfl) ?_
  refine va_get (D := (dC, dI)) (ci := 15) (v := .int (v0_20 + 1)) (C := RX13) (T := TX13) (N := 196) hx hb hts iw_X13_node_X13 hown hK hP 0 rfl rfl 20 (by decide) (hts (.fieldLink RX13 436 "LiquidTongueModel" "nodes" "I") (by decide +kernel)) (fun _ h9 => h9) (zs_eq (zs_lt hl0 (by decide))) dX13_node_41 ?_
  refine lv_iconst (v := 1) hx hb dX13_node_44 (by decide) ?_
  refine lv_isub hx hb dX13_node_45 ?_
  have hP9 := hP.sub (ws' := [(h0, .inr (15, (fs0.set 20 (.int (v0_20 + 1))))), (v0_13, .inl (c_v0_13, 2100, .inl (upd f_v0_13 (v0_20).toNatClampNeg p0))), (v0_14, .inl (c_v0_14, 2100, .inl (upd f_v0_14 (v0_20).toNatClampNeg p1))), (v0_15, .inl (c_v0_15, 2100, .inl (upd f_v0_15 (v0_20).toNatClampNeg p1)))]) [0, 1, 2, 3] rfl
  have hD9 := hD.sub (ws' := [(h0, .inr (15, (fs0.set 20 (.int (v0_20 + 1))))), (v0_13, .inl (c_v0_13, 2100, .inl (upd f_v0_13 (v0_20).toNatClampNeg p0))), (v0_14, .inl (c_v0_14, 2100, .inl (upd f_v0_14 (v0_20).toNatClampNeg p1))), (v0_15, .inl (c_v0_15, 2100, .inl (upd f_v0_15 (v0_20).toNatClampNeg p1)))]) [0, 1, 2, 3] (by decide) rfl
  have hK9 := hK.sub (tys' := [(c_v0_13, .int), (c_v0_14, .int), (c_v0_15, .int)]) [0, 1, 2] rfl
  exact W.iret (v := ((v0_20 + 1) - 1)) hx hb hr (fun t ht hW => ⟨⟨((v0_20 + 1) - 1), (), rfl, rfl, (zB_mk (by rw [ht]; exact hP9) (va_K.moved hW.alike hK9) hD9)⟩, hS.F ht⟩) hS.2.2 dX13_node_46
theorem iw_X13_is_X13 : ∀ w ∈ wsX130, w ∈ wsX13_is := fun w h => List.mem_cons_of_mem _ (List.mem_append_right _ h)
set_option maxHeartbeats 4000000 in
set_option maxRecDepth 100000 in
/-- X13_is, a road -/
theorem c_X13_is_r0 (l : Launch) (dC : Nat → ClassId) (dI : Nat → Nat → Nat) (sz : Nat) (h0 : Nat) (fs0 : List Value) (p0 : Int32) (p1 : Int64) (hl0 : fs0.length = 196) : Met l yX13_is wsX13_is ({ frames := 0, cells := 0, slots := 0, locals := 0 }) (zPc dC dI sz [.ref h0, .int p0, .long p1] [(h0, .inr (15, fs0))] []) (va_Qv (fun _ : Unit => True) (zB dC dI (fun _ => []) (fun _ : Unit => [(h0, .inr (15, ((fs0.set 192 (.int p0)).set 193 (.long p1))))]) (va_A [(h0, .inr (15, fs0))] sz)) (va_A [(h0, .inr (15, fs0))] sz)) 0 0 (va_A [(h0, .inr (15, fs0))] sz) := by
  refine Met.ofW (cc := cX13_is) (maxL := 4) (ret := none) (by decide) rfl ?_
  intro p e s m args below meth c s₁ B hml hv
  obtain ⟨rfl, hsz, hP, hK, hD0⟩ := hv
  have hx := B.exec
  have hb := B.bytes
  have hr := B.returns
  have hts := atoms_spec (ws := wsX13_is) B.pre
  have hown : s.vm.findClass RX13 = some m.cls := findClass_of_methodNamed B.named
  have hlocks := B.notSynchronized
  subst hsz
  have hD := hD0.self (sz := s.heap.size)
  generalize hAe : va_A [(h0, .inr (15, fs0))] s.heap.size = A at hD ⊢
  have hA : ∀ q : Nat, s.heap.size ≤ q → A q := fun q h => by rw [← hAe]; exact Or.inr h
  have hS : va_S A s.heap s.heap [] := va_S.rf
  have hP : va_P (dC, dI) vwCl [(h0, .inr (15, fs0))] s.heap := hP
  have hl := lv_entry ([.ref h0, .int p0, .long p1]) (n := 4) (Nat.le_of_ble_eq_true rfl)
  rw [lg_entry_eq]
  generalize (lg_sl ([.ref h0, .int p0, .long p1]) ++ List.replicate (4 - (lg_sl ([.ref h0, .int p0, .long p1])).length) Slot.unset).toArray = ls at hl ⊢
  have hl : lv_has ls 4 [(0, .ref h0), (1, .int p0), (2, .long p1)] := hl
  refine lv_aload_n hx hb dX13_is_0 rfl (lv_at hl 0 rfl) ?_
  refine lv_iload_n hx hb dX13_is_1 rfl (lv_at hl 1 rfl) ?_
  refine va_put (D := (dC, dI)) (ci := 15) (v := .int p0) (ty := .int) (C := RX13) (T := TX13) (N := 196) hx hb hts iw_X13_is_X13 tyX13 tyX13_ok nmX13 hown hK hP hD hS 0 rfl rfl 192 (by decide) (hts (.fieldLink RX13 1061 "LiquidTongueModel" "vKind" "I") (by decide +kernel)) (fun _ h9 => h9) rfl (by decide +kernel) rfl rfl (zs_lt hl0 (by decide)) dX13_is_2 (fun H locs hP hD hS => ?_)
  have hP : va_P (dC, dI) vwCl [(h0, .inr (15, (fs0.set 192 (.int p0))))] H := hP
  have hD : va_D A [(h0, .inr (15, (fs0.set 192 (.int p0))))] := hD
  refine lv_aload_n hx hb dX13_is_5 rfl (lv_at hl 0 rfl) ?_
  refine lv_lload_n hx hb dX13_is_6 rfl (lv_at hl 2 rfl) ?_
  refine va_put (D := (dC, dI)) (ci := 15) (v := .long p1) (ty := .long) (C := RX13) (T := TX13) (N := 196) hx hb hts iw_X13_is_X13 tyX13 tyX13_ok nmX13 hown hK hP hD hS 0 rfl rfl 193 (by decide) (hts (.fieldLink RX13 1064 "LiquidTongueModel" "vValue" "J") (by decide +kernel)) (fun _ h9 => h9) rfl (by decide +kernel) rfl rfl (zs_lt (zs_len hl0) (by decide)) dX13_is_7 (fun H locs hP hD hS => ?_)
  have hP : va_P (dC, dI) vwCl [(h0, .inr (15, ((fs0.set 192 (.int p0)).set 193 (.long p1))))] H := hP
  have hD : va_D A [(h0, .inr (15, ((fs0.set 192 (.int p0)).set 193 (.long p1))))] := hD
  have hP9 := hP.sub (ws' := [(h0, .inr (15, ((fs0.set 192 (.int p0)).set 193 (.long p1))))]) [0] rfl
  have hD9 := hD.sub (ws' := [(h0, .inr (15, ((fs0.set 192 (.int p0)).set 193 (.long p1))))]) [0] (by decide) rfl
  have hK9 := hK.sub (tys' := []) [] rfl
  exact W.vret hx hb hr (fun t ht hW => ⟨⟨(), rfl, trivial, (zB_mk (by rw [ht]; exact hP9) (va_K.moved hW.alike hK9) hD9)⟩, hS.F ht⟩) hS.2.2 dX13_is_10
theorem iw_X13_then_X13 : ∀ w ∈ wsX130, w ∈ wsX13_then := fun w h => List.mem_cons_of_mem _ (List.mem_append_right _ h)
set_option maxHeartbeats 4000000 in
set_option maxRecDepth 100000 in
/-- X13_then, a road -/
theorem c_X13_then_r0 (l : Launch) (dC : Nat → ClassId) (dI : Nat → Nat → Nat) (sz : Nat) (h0 : Nat) (fs0 : List Value) (p0 : Int32) (p1 : Int32) (hl0 : fs0.length = 196) : Met l yX13_then wsX13_then ({ frames := 0, cells := 0, slots := 0, locals := 0 }) (zPc dC dI sz [.ref h0, .int p0, .int p1] [(h0, .inr (15, fs0))] []) (va_Qi (fun (r : Int32) (_ : Unit) => r = 1) (zB dC dI (fun _ => []) (fun _ : Unit => [(h0, .inr (15, ((fs0.set 194 (.int p0)).set 195 (.int p1))))]) (va_A [(h0, .inr (15, fs0))] sz)) (va_A [(h0, .inr (15, fs0))] sz)) 0 0 (va_A [(h0, .inr (15, fs0))] sz) := by
  refine Met.ofW (cc := cX13_then) (maxL := 3) (ret := (some .boolean)) (by decide) rfl ?_
  intro p e s m args below meth c s₁ B hml hv
  obtain ⟨rfl, hsz, hP, hK, hD0⟩ := hv
  have hx := B.exec
  have hb := B.bytes
  have hr := B.returns
  have hts := atoms_spec (ws := wsX13_then) B.pre
  have hown : s.vm.findClass RX13 = some m.cls := findClass_of_methodNamed B.named
  have hlocks := B.notSynchronized
  subst hsz
  have hD := hD0.self (sz := s.heap.size)
  generalize hAe : va_A [(h0, .inr (15, fs0))] s.heap.size = A at hD ⊢
  have hA : ∀ q : Nat, s.heap.size ≤ q → A q := fun q h => by rw [← hAe]; exact Or.inr h
  have hS : va_S A s.heap s.heap [] := va_S.rf
  have hP : va_P (dC, dI) vwCl [(h0, .inr (15, fs0))] s.heap := hP
  have hl := lv_entry ([.ref h0, .int p0, .int p1]) (n := 3) (Nat.le_of_ble_eq_true rfl)
  rw [lg_entry_eq]
  generalize (lg_sl ([.ref h0, .int p0, .int p1]) ++ List.replicate (3 - (lg_sl ([.ref h0, .int p0, .int p1])).length) Slot.unset).toArray = ls at hl ⊢
  have hl : lv_has ls 3 [(0, .ref h0), (1, .int p0), (2, .int p1)] := hl
  refine lv_aload_n hx hb dX13_then_0 rfl (lv_at hl 0 rfl) ?_
  refine lv_iload_n hx hb dX13_then_1 rfl (lv_at hl 1 rfl) ?_
  refine va_put (D := (dC, dI)) (ci := 15) (v := .int p0) (ty := .int) (C := RX13) (T := TX13) (N := 196) hx hb hts iw_X13_then_X13 tyX13 tyX13_ok nmX13 hown hK hP hD hS 0 rfl rfl 194 (by decide) (hts (.fieldLink RX13 1089 "LiquidTongueModel" "nextNode" "I") (by decide +kernel)) (fun _ h9 => h9) rfl (by decide +kernel) rfl rfl (zs_lt hl0 (by decide)) dX13_then_2 (fun H locs hP hD hS => ?_)
  have hP : va_P (dC, dI) vwCl [(h0, .inr (15, (fs0.set 194 (.int p0))))] H := hP
  have hD : va_D A [(h0, .inr (15, (fs0.set 194 (.int p0))))] := hD
  refine lv_aload_n hx hb dX13_then_5 rfl (lv_at hl 0 rfl) ?_
  refine lv_iload_n hx hb dX13_then_6 rfl (lv_at hl 2 rfl) ?_
  refine va_put (D := (dC, dI)) (ci := 15) (v := .int p1) (ty := .int) (C := RX13) (T := TX13) (N := 196) hx hb hts iw_X13_then_X13 tyX13 tyX13_ok nmX13 hown hK hP hD hS 0 rfl rfl 195 (by decide) (hts (.fieldLink RX13 1092 "LiquidTongueModel" "nextSlots" "I") (by decide +kernel)) (fun _ h9 => h9) rfl (by decide +kernel) rfl rfl (zs_lt (zs_len hl0) (by decide)) dX13_then_7 (fun H locs hP hD hS => ?_)
  have hP : va_P (dC, dI) vwCl [(h0, .inr (15, ((fs0.set 194 (.int p0)).set 195 (.int p1))))] H := hP
  have hD : va_D A [(h0, .inr (15, ((fs0.set 194 (.int p0)).set 195 (.int p1))))] := hD
  refine lv_iconst (v := 1) hx hb dX13_then_10 (by decide) ?_
  have hP9 := hP.sub (ws' := [(h0, .inr (15, ((fs0.set 194 (.int p0)).set 195 (.int p1))))]) [0] rfl
  have hD9 := hD.sub (ws' := [(h0, .inr (15, ((fs0.set 194 (.int p0)).set 195 (.int p1))))]) [0] (by decide) rfl
  have hK9 := hK.sub (tys' := []) [] rfl
  exact W.zret (v := 1) hx hb hr (by first | rfl | decide) (fun t ht hW => ⟨⟨1, (), rfl, rfl, (zB_mk (by rw [ht]; exact hP9) (va_K.moved hW.alike hK9) hD9)⟩, hS.F ht⟩) hS.2.2 dX13_then_11
set_option maxHeartbeats 4000000 in
set_option maxRecDepth 100000 in
/-- X13_isLow, a road -/
theorem c_X13_isLow_r0 (l : Launch) (dC : Nat → ClassId) (dI : Nat → Nat → Nat) (sz : Nat) (p0 : Int32) (hc_0 : p0 < 97) : Met l yX13_isLow wsX13_isLow ({ frames := 0, cells := 0, slots := 0, locals := 0 }) (zPc dC dI sz [.int p0] [] []) (va_Qi (fun (r : Int32) (_ : Unit) => r = 0) (zB dC dI (fun _ => []) (fun _ : Unit => []) (va_A [] sz)) (va_A [] sz)) 0 0 (va_A [] sz) := by
  refine Met.ofW (cc := cX13_isLow) (maxL := 1) (ret := (some .boolean)) (by decide) rfl ?_
  intro p e s m args below meth c s₁ B hml hv
  obtain ⟨rfl, hsz, hP, hK, hD0⟩ := hv
  have hx := B.exec
  have hb := B.bytes
  have hr := B.returns
  have hts := atoms_spec (ws := wsX13_isLow) B.pre
  have hown : s.vm.findClass RX13 = some m.cls := findClass_of_methodNamed B.named
  have hlocks := B.notSynchronized
  subst hsz
  have hD := hD0.self (sz := s.heap.size)
  generalize hAe : va_A [] s.heap.size = A at hD ⊢
  have hA : ∀ q : Nat, s.heap.size ≤ q → A q := fun q h => by rw [← hAe]; exact Or.inr h
  have hS : va_S A s.heap s.heap [] := va_S.rf
  have hP : va_P (dC, dI) vwCl [] s.heap := hP
  have hl := lv_entry ([.int p0]) (n := 1) (Nat.le_of_ble_eq_true rfl)
  rw [lg_entry_eq]
  generalize (lg_sl ([.int p0]) ++ List.replicate (1 - (lg_sl ([.int p0])).length) Slot.unset).toArray = ls at hl ⊢
  have hl : lv_has ls 1 [(0, .int p0)] := hl
  refine lv_iload_n hx hb dX13_isLow_0 rfl (lv_at hl 0 rfl) ?_
  refine lv_bipush (v := 97) hx hb dX13_isLow_1 (by decide) ?_
  refine lv_icmp_lt (tgt := 16) hx hb dX13_isLow_3 (by decide) (fun c_1 => ?_) (fun c_1 => absurd hc_0 c_1)
  refine lv_iconst (v := 0) hx hb dX13_isLow_16 (by decide) ?_
  have hP9 := hP.sub (ws' := []) [] rfl
  have hD9 := hD.sub (ws' := []) [] (by decide) rfl
  have hK9 := hK.sub (tys' := []) [] rfl
  exact W.zret (v := 0) hx hb hr (by first | rfl | decide) (fun t ht hW => ⟨⟨0, (), rfl, rfl, (zB_mk (by rw [ht]; exact hP9) (va_K.moved hW.alike hK9) hD9)⟩, hS.F ht⟩) hS.2.2 dX13_isLow_17
set_option maxHeartbeats 4000000 in
set_option maxRecDepth 100000 in
/-- X13_isLow, a road -/
theorem c_X13_isLow_r1 (l : Launch) (dC : Nat → ClassId) (dI : Nat → Nat → Nat) (sz : Nat) (p0 : Int32) (hc_0 : ¬ p0 < 97) (hc_1 : 122 < p0) : Met l yX13_isLow wsX13_isLow ({ frames := 0, cells := 0, slots := 0, locals := 0 }) (zPc dC dI sz [.int p0] [] []) (va_Qi (fun (r : Int32) (_ : Unit) => r = 0) (zB dC dI (fun _ => []) (fun _ : Unit => []) (va_A [] sz)) (va_A [] sz)) 0 0 (va_A [] sz) := by
  refine Met.ofW (cc := cX13_isLow) (maxL := 1) (ret := (some .boolean)) (by decide) rfl ?_
  intro p e s m args below meth c s₁ B hml hv
  obtain ⟨rfl, hsz, hP, hK, hD0⟩ := hv
  have hx := B.exec
  have hb := B.bytes
  have hr := B.returns
  have hts := atoms_spec (ws := wsX13_isLow) B.pre
  have hown : s.vm.findClass RX13 = some m.cls := findClass_of_methodNamed B.named
  have hlocks := B.notSynchronized
  subst hsz
  have hD := hD0.self (sz := s.heap.size)
  generalize hAe : va_A [] s.heap.size = A at hD ⊢
  have hA : ∀ q : Nat, s.heap.size ≤ q → A q := fun q h => by rw [← hAe]; exact Or.inr h
  have hS : va_S A s.heap s.heap [] := va_S.rf
  have hP : va_P (dC, dI) vwCl [] s.heap := hP
  have hl := lv_entry ([.int p0]) (n := 1) (Nat.le_of_ble_eq_true rfl)
  rw [lg_entry_eq]
  generalize (lg_sl ([.int p0]) ++ List.replicate (1 - (lg_sl ([.int p0])).length) Slot.unset).toArray = ls at hl ⊢
  have hl : lv_has ls 1 [(0, .int p0)] := hl
  refine lv_iload_n hx hb dX13_isLow_0 rfl (lv_at hl 0 rfl) ?_
  refine lv_bipush (v := 97) hx hb dX13_isLow_1 (by decide) ?_
  refine lv_icmp_lt (tgt := 16) hx hb dX13_isLow_3 (by decide) (fun c_1 => absurd c_1 hc_0) (fun c_1 => ?_)
  refine lv_iload_n hx hb dX13_isLow_6 rfl (lv_at hl 0 rfl) ?_
  refine lv_bipush (v := 122) hx hb dX13_isLow_7 (by decide) ?_
  refine lv_icmp_gt (tgt := 16) hx hb dX13_isLow_9 (by decide) (fun c_2 => ?_) (fun c_2 => absurd hc_1 c_2)
  refine lv_iconst (v := 0) hx hb dX13_isLow_16 (by decide) ?_
  have hP9 := hP.sub (ws' := []) [] rfl
  have hD9 := hD.sub (ws' := []) [] (by decide) rfl
  have hK9 := hK.sub (tys' := []) [] rfl
  exact W.zret (v := 0) hx hb hr (by first | rfl | decide) (fun t ht hW => ⟨⟨0, (), rfl, rfl, (zB_mk (by rw [ht]; exact hP9) (va_K.moved hW.alike hK9) hD9)⟩, hS.F ht⟩) hS.2.2 dX13_isLow_17
set_option maxHeartbeats 4000000 in
set_option maxRecDepth 100000 in
/-- X13_isLow, a road -/
theorem c_X13_isLow_r2 (l : Launch) (dC : Nat → ClassId) (dI : Nat → Nat → Nat) (sz : Nat) (p0 : Int32) (hc_0 : ¬ p0 < 97) (hc_1 : ¬ 122 < p0) : Met l yX13_isLow wsX13_isLow ({ frames := 0, cells := 0, slots := 0, locals := 0 }) (zPc dC dI sz [.int p0] [] []) (va_Qi (fun (r : Int32) (_ : Unit) => r = 1) (zB dC dI (fun _ => []) (fun _ : Unit => []) (va_A [] sz)) (va_A [] sz)) 0 0 (va_A [] sz) := by
  refine Met.ofW (cc := cX13_isLow) (maxL := 1) (ret := (some .boolean)) (by decide) rfl ?_
  intro p e s m args below meth c s₁ B hml hv
  obtain ⟨rfl, hsz, hP, hK, hD0⟩ := hv
  have hx := B.exec
  have hb := B.bytes
  have hr := B.returns
  have hts := atoms_spec (ws := wsX13_isLow) B.pre
  have hown : s.vm.findClass RX13 = some m.cls := findClass_of_methodNamed B.named
  have hlocks := B.notSynchronized
  subst hsz
  have hD := hD0.self (sz := s.heap.size)
  generalize hAe : va_A [] s.heap.size = A at hD ⊢
  have hA : ∀ q : Nat, s.heap.size ≤ q → A q := fun q h => by rw [← hAe]; exact Or.inr h
  have hS : va_S A s.heap s.heap [] := va_S.rf
  have hP : va_P (dC, dI) vwCl [] s.heap := hP
  have hl := lv_entry ([.int p0]) (n := 1) (Nat.le_of_ble_eq_true rfl)
  rw [lg_entry_eq]
  generalize (lg_sl ([.int p0]) ++ List.replicate (1 - (lg_sl ([.int p0])).length) Slot.unset).toArray = ls at hl ⊢
  have hl : lv_has ls 1 [(0, .int p0)] := hl
  refine lv_iload_n hx hb dX13_isLow_0 rfl (lv_at hl 0 rfl) ?_
  refine lv_bipush (v := 97) hx hb dX13_isLow_1 (by decide) ?_
  refine lv_icmp_lt (tgt := 16) hx hb dX13_isLow_3 (by decide) (fun c_1 => absurd c_1 hc_0) (fun c_1 => ?_)
  refine lv_iload_n hx hb dX13_isLow_6 rfl (lv_at hl 0 rfl) ?_
  refine lv_bipush (v := 122) hx hb dX13_isLow_7 (by decide) ?_
  refine lv_icmp_gt (tgt := 16) hx hb dX13_isLow_9 (by decide) (fun c_2 => absurd c_2 hc_1) (fun c_2 => ?_)
  refine lv_iconst (v := 1) hx hb dX13_isLow_12 (by decide) ?_
  refine lv_goto (tgt := 17) hx hb dX13_isLow_13 (by decide) ?_
  have hP9 := hP.sub (ws' := []) [] rfl
  have hD9 := hD.sub (ws' := []) [] (by decide) rfl
  have hK9 := hK.sub (tys' := []) [] rfl
  exact W.zret (v := 1) hx hb hr (by first | rfl | decide) (fun t ht hW => ⟨⟨1, (), rfl, rfl, (zB_mk (by rw [ht]; exact hP9) (va_K.moved hW.alike hK9) hD9)⟩, hS.F ht⟩) hS.2.2 dX13_isLow_17
set_option maxHeartbeats 4000000 in
set_option maxRecDepth 100000 in
/-- X13_isDigit, a road -/
theorem c_X13_isDigit_r0 (l : Launch) (dC : Nat → ClassId) (dI : Nat → Nat → Nat) (sz : Nat) (p0 : Int32) (hc_0 : p0 < 48) : Met l yX13_isDigit wsX13_isDigit ({ frames := 0, cells := 0, slots := 0, locals := 0 }) (zPc dC dI sz [.int p0] [] []) (va_Qi (fun (r : Int32) (_ : Unit) => r = 0) (zB dC dI (fun _ => []) (fun _ : Unit => []) (va_A [] sz)) (va_A [] sz)) 0 0 (va_A [] sz) := by
  refine Met.ofW (cc := cX13_isDigit) (maxL := 1) (ret := (some .boolean)) (by decide) rfl ?_
  intro p e s m args below meth c s₁ B hml hv
  obtain ⟨rfl, hsz, hP, hK, hD0⟩ := hv
  have hx := B.exec
  have hb := B.bytes
  have hr := B.returns
  have hts := atoms_spec (ws := wsX13_isDigit) B.pre
  have hown : s.vm.findClass RX13 = some m.cls := findClass_of_methodNamed B.named
  have hlocks := B.notSynchronized
  subst hsz
  have hD := hD0.self (sz := s.heap.size)
  generalize hAe : va_A [] s.heap.size = A at hD ⊢
  have hA : ∀ q : Nat, s.heap.size ≤ q → A q := fun q h => by rw [← hAe]; exact Or.inr h
  have hS : va_S A s.heap s.heap [] := va_S.rf
  have hP : va_P (dC, dI) vwCl [] s.heap := hP
  have hl := lv_entry ([.int p0]) (n := 1) (Nat.le_of_ble_eq_true rfl)
  rw [lg_entry_eq]
  generalize (lg_sl ([.int p0]) ++ List.replicate (1 - (lg_sl ([.int p0])).length) Slot.unset).toArray = ls at hl ⊢
  have hl : lv_has ls 1 [(0, .int p0)] := hl
  refine lv_iload_n hx hb dX13_isDigit_0 rfl (lv_at hl 0 rfl) ?_
  refine lv_bipush (v := 48) hx hb dX13_isDigit_1 (by decide) ?_
  refine lv_icmp_lt (tgt := 16) hx hb dX13_isDigit_3 (by decide) (fun c_1 => ?_) (fun c_1 => absurd hc_0 c_1)
  refine lv_iconst (v := 0) hx hb dX13_isDigit_16 (by decide) ?_
  have hP9 := hP.sub (ws' := []) [] rfl
  have hD9 := hD.sub (ws' := []) [] (by decide) rfl
  have hK9 := hK.sub (tys' := []) [] rfl
  exact W.zret (v := 0) hx hb hr (by first | rfl | decide) (fun t ht hW => ⟨⟨0, (), rfl, rfl, (zB_mk (by rw [ht]; exact hP9) (va_K.moved hW.alike hK9) hD9)⟩, hS.F ht⟩) hS.2.2 dX13_isDigit_17
set_option maxHeartbeats 4000000 in
set_option maxRecDepth 100000 in
/-- X13_isDigit, a road -/
theorem c_X13_isDigit_r1 (l : Launch) (dC : Nat → ClassId) (dI : Nat → Nat → Nat) (sz : Nat) (p0 : Int32) (hc_0 : ¬ p0 < 48) (hc_1 : 57 < p0) : Met l yX13_isDigit wsX13_isDigit ({ frames := 0, cells := 0, slots := 0, locals := 0 }) (zPc dC dI sz [.int p0] [] []) (va_Qi (fun (r : Int32) (_ : Unit) => r = 0) (zB dC dI (fun _ => []) (fun _ : Unit => []) (va_A [] sz)) (va_A [] sz)) 0 0 (va_A [] sz) := by
  refine Met.ofW (cc := cX13_isDigit) (maxL := 1) (ret := (some .boolean)) (by decide) rfl ?_
  intro p e s m args below meth c s₁ B hml hv
  obtain ⟨rfl, hsz, hP, hK, hD0⟩ := hv
  have hx := B.exec
  have hb := B.bytes
  have hr := B.returns
  have hts := atoms_spec (ws := wsX13_isDigit) B.pre
  have hown : s.vm.findClass RX13 = some m.cls := findClass_of_methodNamed B.named
  have hlocks := B.notSynchronized
  subst hsz
  have hD := hD0.self (sz := s.heap.size)
  generalize hAe : va_A [] s.heap.size = A at hD ⊢
  have hA : ∀ q : Nat, s.heap.size ≤ q → A q := fun q h => by rw [← hAe]; exact Or.inr h
  have hS : va_S A s.heap s.heap [] := va_S.rf
  have hP : va_P (dC, dI) vwCl [] s.heap := hP
  have hl := lv_entry ([.int p0]) (n := 1) (Nat.le_of_ble_eq_true rfl)
  rw [lg_entry_eq]
  generalize (lg_sl ([.int p0]) ++ List.replicate (1 - (lg_sl ([.int p0])).length) Slot.unset).toArray = ls at hl ⊢
  have hl : lv_has ls 1 [(0, .int p0)] := hl
  refine lv_iload_n hx hb dX13_isDigit_0 rfl (lv_at hl 0 rfl) ?_
  refine lv_bipush (v := 48) hx hb dX13_isDigit_1 (by decide) ?_
  refine lv_icmp_lt (tgt := 16) hx hb dX13_isDigit_3 (by decide) (fun c_1 => absurd c_1 hc_0) (fun c_1 => ?_)
  refine lv_iload_n hx hb dX13_isDigit_6 rfl (lv_at hl 0 rfl) ?_
  refine lv_bipush (v := 57) hx hb dX13_isDigit_7 (by decide) ?_
  refine lv_icmp_gt (tgt := 16) hx hb dX13_isDigit_9 (by decide) (fun c_2 => ?_) (fun c_2 => absurd hc_1 c_2)
  refine lv_iconst (v := 0) hx hb dX13_isDigit_16 (by decide) ?_
  have hP9 := hP.sub (ws' := []) [] rfl
  have hD9 := hD.sub (ws' := []) [] (by decide) rfl
  have hK9 := hK.sub (tys' := []) [] rfl
  exact W.zret (v := 0) hx hb hr (by first | rfl | decide) (fun t ht hW => ⟨⟨0, (), rfl, rfl, (zB_mk (by rw [ht]; exact hP9) (va_K.moved hW.alike hK9) hD9)⟩, hS.F ht⟩) hS.2.2 dX13_isDigit_17
set_option maxHeartbeats 4000000 in
set_option maxRecDepth 100000 in
/-- X13_isDigit, a road -/
theorem c_X13_isDigit_r2 (l : Launch) (dC : Nat → ClassId) (dI : Nat → Nat → Nat) (sz : Nat) (p0 : Int32) (hc_0 : ¬ p0 < 48) (hc_1 : ¬ 57 < p0) : Met l yX13_isDigit wsX13_isDigit ({ frames := 0, cells := 0, slots := 0, locals := 0 }) (zPc dC dI sz [.int p0] [] []) (va_Qi (fun (r : Int32) (_ : Unit) => r = 1) (zB dC dI (fun _ => []) (fun _ : Unit => []) (va_A [] sz)) (va_A [] sz)) 0 0 (va_A [] sz) := by
  refine Met.ofW (cc := cX13_isDigit) (maxL := 1) (ret := (some .boolean)) (by decide) rfl ?_
  intro p e s m args below meth c s₁ B hml hv
  obtain ⟨rfl, hsz, hP, hK, hD0⟩ := hv
  have hx := B.exec
  have hb := B.bytes
  have hr := B.returns
  have hts := atoms_spec (ws := wsX13_isDigit) B.pre
  have hown : s.vm.findClass RX13 = some m.cls := findClass_of_methodNamed B.named
  have hlocks := B.notSynchronized
  subst hsz
  have hD := hD0.self (sz := s.heap.size)
  generalize hAe : va_A [] s.heap.size = A at hD ⊢
  have hA : ∀ q : Nat, s.heap.size ≤ q → A q := fun q h => by rw [← hAe]; exact Or.inr h
  have hS : va_S A s.heap s.heap [] := va_S.rf
  have hP : va_P (dC, dI) vwCl [] s.heap := hP
  have hl := lv_entry ([.int p0]) (n := 1) (Nat.le_of_ble_eq_true rfl)
  rw [lg_entry_eq]
  generalize (lg_sl ([.int p0]) ++ List.replicate (1 - (lg_sl ([.int p0])).length) Slot.unset).toArray = ls at hl ⊢
  have hl : lv_has ls 1 [(0, .int p0)] := hl
  refine lv_iload_n hx hb dX13_isDigit_0 rfl (lv_at hl 0 rfl) ?_
  refine lv_bipush (v := 48) hx hb dX13_isDigit_1 (by decide) ?_
  refine lv_icmp_lt (tgt := 16) hx hb dX13_isDigit_3 (by decide) (fun c_1 => absurd c_1 hc_0) (fun c_1 => ?_)
  refine lv_iload_n hx hb dX13_isDigit_6 rfl (lv_at hl 0 rfl) ?_
  refine lv_bipush (v := 57) hx hb dX13_isDigit_7 (by decide) ?_
  refine lv_icmp_gt (tgt := 16) hx hb dX13_isDigit_9 (by decide) (fun c_2 => absurd c_2 hc_1) (fun c_2 => ?_)
  refine lv_iconst (v := 1) hx hb dX13_isDigit_12 (by decide) ?_
  refine lv_goto (tgt := 17) hx hb dX13_isDigit_13 (by decide) ?_
  have hP9 := hP.sub (ws' := []) [] rfl
  have hD9 := hD.sub (ws' := []) [] (by decide) rfl
  have hK9 := hK.sub (tys' := []) [] rfl
  exact W.zret (v := 1) hx hb hr (by first | rfl | decide) (fun t ht hW => ⟨⟨1, (), rfl, rfl, (zB_mk (by rw [ht]; exact hP9) (va_K.moved hW.alike hK9) hD9)⟩, hS.F ht⟩) hS.2.2 dX13_isDigit_17
theorem iw_X13_wrongForm_X13 : ∀ w ∈ wsX130, w ∈ wsX13_wrongForm := fun w h => List.mem_cons_of_mem _ (List.mem_append_right _ h)
set_option maxHeartbeats 4000000 in
set_option maxRecDepth 100000 in
/-- X13_wrongForm, a road -/
theorem c_X13_wrongForm_r0 (l : Launch) (dC : Nat → ClassId) (dI : Nat → Nat → Nat) (sz : Nat) (h0 : Nat) (fs0 : List Value) (p0 : Int32) (v0_52 : Int32) (hl0 : fs0.length = 196) (hf0_52 : fs0[52]? = some (.int v0_52)) (hc_0 : v0_52 < 0) : Met l yX13_wrongForm wsX13_wrongForm ({ frames := 0, cells := 0, slots := 0, locals := 0 }) (zPc dC dI sz [.ref h0, .int p0] [(h0, .inr (15, fs0))] []) (va_Qv (fun _ : Unit => True) (zB dC dI (fun _ => []) (fun _ : Unit => [(h0, .inr (15, (fs0.set 52 (.int p0))))]) (va_A [(h0, .inr (15, fs0))] sz)) (va_A [(h0, .inr (15, fs0))] sz)) 0 0 (va_A [(h0, .inr (15, fs0))] sz) := by
  refine Met.ofW (cc := cX13_wrongForm) (maxL := 2) (ret := none) (by decide) rfl ?_
  intro p e s m args below meth c s₁ B hml hv
  obtain ⟨rfl, hsz, hP, hK, hD0⟩ := hv
  have hx := B.exec
  have hb := B.bytes
  have hr := B.returns
  have hts := atoms_spec (ws := wsX13_wrongForm) B.pre
  have hown : s.vm.findClass RX13 = some m.cls := findClass_of_methodNamed B.named
  have hlocks := B.notSynchronized
  subst hsz
  have hD := hD0.self (sz := s.heap.size)
  generalize hAe : va_A [(h0, .inr (15, fs0))] s.heap.size = A at hD ⊢
  have hA : ∀ q : Nat, s.heap.size ≤ q → A q := fun q h => by rw [← hAe]; exact Or.inr h
  have hS : va_S A s.heap s.heap [] := va_S.rf
  have hP : va_P (dC, dI) vwCl [(h0, .inr (15, fs0))] s.heap := hP
  have hl := lv_entry ([.ref h0, .int p0]) (n := 2) (Nat.le_of_ble_eq_true rfl)
  rw [lg_entry_eq]
  generalize (lg_sl ([.ref h0, .int p0]) ++ List.replicate (2 - (lg_sl ([.ref h0, .int p0])).length) Slot.unset).toArray = ls at hl ⊢
  have hl : lv_has ls 2 [(0, .ref h0), (1, .int p0)] := hl
  refine lv_aload_n hx hb dX13_wrongForm_0 rfl (lv_at hl 0 rfl) ?_
  refine va_get (D := (dC, dI)) (ci := 15) (v := .int v0_52) (C := RX13) (T := TX13) (N := 196) hx hb hts iw_X13_wrongForm_X13 hown hK hP 0 rfl rfl 52 (by decide) (hts (.fieldLink RX13 624 "LiquidTongueModel" "least" "I") (by decide +kernel)) (fun _ h9 => h9) hf0_52 dX13_wrongForm_1 ?_
  refine lv_if_lt (tgt := 15) hx hb dX13_wrongForm_4 (by decide) (fun c_1 => ?_) (fun c_1 => absurd hc_0 c_1)
  refine lv_aload_n hx hb dX13_wrongForm_15 rfl (lv_at hl 0 rfl) ?_
  refine lv_iload_n hx hb dX13_wrongForm_16 rfl (lv_at hl 1 rfl) ?_
  refine va_put (D := (dC, dI)) (ci := 15) (v := .int p0) (ty := .int) (C := RX13) (T := TX13) (N := 196) hx hb hts iw_X13_wrongForm_X13 tyX13 tyX13_ok nmX13 hown hK hP hD hS 0 rfl rfl 52 (by decide) (hts (.fieldLink RX13 624 "LiquidTongueModel" "least" "I") (by decide +kernel)) (fun _ h9 => h9) rfl (by decide +kernel) rfl rfl (zs_lt hl0 (by decide)) dX13_wrongForm_17 (fun H locs hP hD hS => ?_)
  have hP : va_P (dC, dI) vwCl [(h0, .inr (15, (fs0.set 52 (.int p0))))] H := hP
  have hD : va_D A [(h0, .inr (15, (fs0.set 52 (.int p0))))] := hD
  have hP9 := hP.sub (ws' := [(h0, .inr (15, (fs0.set 52 (.int p0))))]) [0] rfl
  have hD9 := hD.sub (ws' := [(h0, .inr (15, (fs0.set 52 (.int p0))))]) [0] (by decide) rfl
  have hK9 := hK.sub (tys' := []) [] rfl
  exact W.vret hx hb hr (fun t ht hW => ⟨⟨(), rfl, trivial, (zB_mk (by rw [ht]; exact hP9) (va_K.moved hW.alike hK9) hD9)⟩, hS.F ht⟩) hS.2.2 dX13_wrongForm_20
set_option maxHeartbeats 4000000 in
set_option maxRecDepth 100000 in
/-- X13_wrongForm, a road -/
theorem c_X13_wrongForm_r1 (l : Launch) (dC : Nat → ClassId) (dI : Nat → Nat → Nat) (sz : Nat) (h0 : Nat) (fs0 : List Value) (p0 : Int32) (v0_52 : Int32) (hl0 : fs0.length = 196) (hf0_52 : fs0[52]? = some (.int v0_52)) (hc_0 : ¬ v0_52 < 0) (hc_1 : v0_52 ≤ p0) : Met l yX13_wrongForm wsX13_wrongForm ({ frames := 0, cells := 0, slots := 0, locals := 0 }) (zPc dC dI sz [.ref h0, .int p0] [(h0, .inr (15, fs0))] []) (va_Qv (fun _ : Unit => True) (zB dC dI (fun _ => []) (fun _ : Unit => [(h0, .inr (15, fs0))]) (va_A [(h0, .inr (15, fs0))] sz)) (va_A [(h0, .inr (15, fs0))] sz)) 0 0 (va_A [(h0, .inr (15, fs0))] sz) := by
  refine Met.ofW (cc := cX13_wrongForm) (maxL := 2) (ret := none) (by decide) rfl ?_
  intro p e s m args below meth c s₁ B hml hv
  obtain ⟨rfl, hsz, hP, hK, hD0⟩ := hv
  have hx := B.exec
  have hb := B.bytes
  have hr := B.returns
  have hts := atoms_spec (ws := wsX13_wrongForm) B.pre
  have hown : s.vm.findClass RX13 = some m.cls := findClass_of_methodNamed B.named
  have hlocks := B.notSynchronized
  subst hsz
  have hD := hD0.self (sz := s.heap.size)
  generalize hAe : va_A [(h0, .inr (15, fs0))] s.heap.size = A at hD ⊢
  have hA : ∀ q : Nat, s.heap.size ≤ q → A q := fun q h => by rw [← hAe]; exact Or.inr h
  have hS : va_S A s.heap s.heap [] := va_S.rf
  have hP : va_P (dC, dI) vwCl [(h0, .inr (15, fs0))] s.heap := hP
  have hl := lv_entry ([.ref h0, .int p0]) (n := 2) (Nat.le_of_ble_eq_true rfl)
  rw [lg_entry_eq]
  generalize (lg_sl ([.ref h0, .int p0]) ++ List.replicate (2 - (lg_sl ([.ref h0, .int p0])).length) Slot.unset).toArray = ls at hl ⊢
  have hl : lv_has ls 2 [(0, .ref h0), (1, .int p0)] := hl
  refine lv_aload_n hx hb dX13_wrongForm_0 rfl (lv_at hl 0 rfl) ?_
  refine va_get (D := (dC, dI)) (ci := 15) (v := .int v0_52) (C := RX13) (T := TX13) (N := 196) hx hb hts iw_X13_wrongForm_X13 hown hK hP 0 rfl rfl 52 (by decide) (hts (.fieldLink RX13 624 "LiquidTongueModel" "least" "I") (by decide +kernel)) (fun _ h9 => h9) hf0_52 dX13_wrongForm_1 ?_
  refine lv_if_lt (tgt := 15) hx hb dX13_wrongForm_4 (by decide) (fun c_1 => absurd c_1 hc_0) (fun c_1 => ?_)
  refine lv_iload_n hx hb dX13_wrongForm_7 rfl (lv_at hl 1 rfl) ?_
  refine lv_aload_n hx hb dX13_wrongForm_8 rfl (lv_at hl 0 rfl) ?_
  refine va_get (D := (dC, dI)) (ci := 15) (v := .int v0_52) (C := RX13) (T := TX13) (N := 196) hx hb hts iw_X13_wrongForm_X13 hown hK hP 0 rfl rfl 52 (by decide) (hts (.fieldLink RX13 624 "LiquidTongueModel" "least" "I") (by decide +kernel)) (fun _ h9 => h9) hf0_52 dX13_wrongForm_9 ?_
  refine lv_icmp_ge (tgt := 20) hx hb dX13_wrongForm_12 (by decide) (fun c_2 => ?_) (fun c_2 => absurd hc_1 c_2)
  have hP9 := hP.sub (ws' := [(h0, .inr (15, fs0))]) [0] rfl
  have hD9 := hD.sub (ws' := [(h0, .inr (15, fs0))]) [0] (by decide) rfl
  have hK9 := hK.sub (tys' := []) [] rfl
  exact W.vret hx hb hr (fun t ht hW => ⟨⟨(), rfl, trivial, (zB_mk (by rw [ht]; exact hP9) (va_K.moved hW.alike hK9) hD9)⟩, hS.F ht⟩) hS.2.2 dX13_wrongForm_20
set_option maxHeartbeats 4000000 in
set_option maxRecDepth 100000 in
/-- X13_wrongForm, a road -/
theorem c_X13_wrongForm_r2 (l : Launch) (dC : Nat → ClassId) (dI : Nat → Nat → Nat) (sz : Nat) (h0 : Nat) (fs0 : List Value) (p0 : Int32) (v0_52 : Int32) (hl0 : fs0.length = 196) (hf0_52 : fs0[52]? = some (.int v0_52)) (hc_0 : ¬ v0_52 < 0) (hc_1 : ¬ v0_52 ≤ p0) : Met l yX13_wrongForm wsX13_wrongForm ({ frames := 0, cells := 0, slots := 0, locals := 0 }) (zPc dC dI sz [.ref h0, .int p0] [(h0, .inr (15, fs0))] []) (va_Qv (fun _ : Unit => True) (zB dC dI (fun _ => []) (fun _ : Unit => [(h0, .inr (15, (fs0.set 52 (.int p0))))]) (va_A [(h0, .inr (15, fs0))] sz)) (va_A [(h0, .inr (15, fs0))] sz)) 0 0 (va_A [(h0, .inr (15, fs0))] sz) := by
  refine Met.ofW (cc := cX13_wrongForm) (maxL := 2) (ret := none) (by decide) rfl ?_
  intro p e s m args below meth c s₁ B hml hv
  obtain ⟨rfl, hsz, hP, hK, hD0⟩ := hv
  have hx := B.exec
  have hb := B.bytes
  have hr := B.returns
  have hts := atoms_spec (ws := wsX13_wrongForm) B.pre
  have hown : s.vm.findClass RX13 = some m.cls := findClass_of_methodNamed B.named
  have hlocks := B.notSynchronized
  subst hsz
  have hD := hD0.self (sz := s.heap.size)
  generalize hAe : va_A [(h0, .inr (15, fs0))] s.heap.size = A at hD ⊢
  have hA : ∀ q : Nat, s.heap.size ≤ q → A q := fun q h => by rw [← hAe]; exact Or.inr h
  have hS : va_S A s.heap s.heap [] := va_S.rf
  have hP : va_P (dC, dI) vwCl [(h0, .inr (15, fs0))] s.heap := hP
  have hl := lv_entry ([.ref h0, .int p0]) (n := 2) (Nat.le_of_ble_eq_true rfl)
  rw [lg_entry_eq]
  generalize (lg_sl ([.ref h0, .int p0]) ++ List.replicate (2 - (lg_sl ([.ref h0, .int p0])).length) Slot.unset).toArray = ls at hl ⊢
  have hl : lv_has ls 2 [(0, .ref h0), (1, .int p0)] := hl
  refine lv_aload_n hx hb dX13_wrongForm_0 rfl (lv_at hl 0 rfl) ?_
  refine va_get (D := (dC, dI)) (ci := 15) (v := .int v0_52) (C := RX13) (T := TX13) (N := 196) hx hb hts iw_X13_wrongForm_X13 hown hK hP 0 rfl rfl 52 (by decide) (hts (.fieldLink RX13 624 "LiquidTongueModel" "least" "I") (by decide +kernel)) (fun _ h9 => h9) hf0_52 dX13_wrongForm_1 ?_
  refine lv_if_lt (tgt := 15) hx hb dX13_wrongForm_4 (by decide) (fun c_1 => absurd c_1 hc_0) (fun c_1 => ?_)
  refine lv_iload_n hx hb dX13_wrongForm_7 rfl (lv_at hl 1 rfl) ?_
  refine lv_aload_n hx hb dX13_wrongForm_8 rfl (lv_at hl 0 rfl) ?_
  refine va_get (D := (dC, dI)) (ci := 15) (v := .int v0_52) (C := RX13) (T := TX13) (N := 196) hx hb hts iw_X13_wrongForm_X13 hown hK hP 0 rfl rfl 52 (by decide) (hts (.fieldLink RX13 624 "LiquidTongueModel" "least" "I") (by decide +kernel)) (fun _ h9 => h9) hf0_52 dX13_wrongForm_9 ?_
  refine lv_icmp_ge (tgt := 20) hx hb dX13_wrongForm_12 (by decide) (fun c_2 => absurd c_2 hc_1) (fun c_2 => ?_)
  refine lv_aload_n hx hb dX13_wrongForm_15 rfl (lv_at hl 0 rfl) ?_
  refine lv_iload_n hx hb dX13_wrongForm_16 rfl (lv_at hl 1 rfl) ?_
  refine va_put (D := (dC, dI)) (ci := 15) (v := .int p0) (ty := .int) (C := RX13) (T := TX13) (N := 196) hx hb hts iw_X13_wrongForm_X13 tyX13 tyX13_ok nmX13 hown hK hP hD hS 0 rfl rfl 52 (by decide) (hts (.fieldLink RX13 624 "LiquidTongueModel" "least" "I") (by decide +kernel)) (fun _ h9 => h9) rfl (by decide +kernel) rfl rfl (zs_lt hl0 (by decide)) dX13_wrongForm_17 (fun H locs hP hD hS => ?_)
  have hP : va_P (dC, dI) vwCl [(h0, .inr (15, (fs0.set 52 (.int p0))))] H := hP
  have hD : va_D A [(h0, .inr (15, (fs0.set 52 (.int p0))))] := hD
  have hP9 := hP.sub (ws' := [(h0, .inr (15, (fs0.set 52 (.int p0))))]) [0] rfl
  have hD9 := hD.sub (ws' := [(h0, .inr (15, (fs0.set 52 (.int p0))))]) [0] (by decide) rfl
  have hK9 := hK.sub (tys' := []) [] rfl
  exact W.vret hx hb hr (fun t ht hW => ⟨⟨(), rfl, trivial, (zB_mk (by rw [ht]; exact hP9) (va_K.moved hW.alike hK9) hD9)⟩, hS.F ht⟩) hS.2.2 dX13_wrongForm_20
theorem iw_X13_wrongName_X13 : ∀ w ∈ wsX130, w ∈ wsX13_wrongName := fun w h => List.mem_cons_of_mem _ (List.mem_append_right _ h)
set_option maxHeartbeats 4000000 in
set_option maxRecDepth 100000 in
/-- X13_wrongName, a road -/
theorem c_X13_wrongName_r0 (l : Launch) (dC : Nat → ClassId) (dI : Nat → Nat → Nat) (sz : Nat) (h0 : Nat) (fs0 : List Value) (p0 : Int32) (v0_52 : Int32) (v0_7 : Nat) (c_v0_7 : ClassId) (f_v0_7 : Nat → Int32) (hl0 : fs0.length = 196) (hf0_52 : fs0[52]? = some (.int v0_52)) (hf0_7 : fs0[7]? = some (.ref v0_7)) (hi_0 : vp_in p0 2010) (hc_0 : v0_52 < 0) : Met l yX13_wrongName wsX13_wrongName ({ frames := 0, cells := 0, slots := 0, locals := 0 }) (zPc dC dI sz [.ref h0, .int p0] [(h0, .inr (15, fs0)), (v0_7, .inl (c_v0_7, 2010, .inl f_v0_7))] [(c_v0_7, .int)]) (va_Qv (fun _ : Unit => True) (zB dC dI (fun _ => [(c_v0_7, .int)]) (fun _ : Unit => [(h0, .inr (15, (fs0.set 52 (.int (f_v0_7 (p0).toNatClampNeg))))), (v0_7, .inl (c_v0_7, 2010, .inl f_v0_7))]) (va_A [(h0, .inr (15, fs0)), (v0_7, .inl (c_v0_7, 2010, .inl f_v0_7))] sz)) (va_A [(h0, .inr (15, fs0)), (v0_7, .inl (c_v0_7, 2010, .inl f_v0_7))] sz)) 0 0 (va_A [(h0, .inr (15, fs0)), (v0_7, .inl (c_v0_7, 2010, .inl f_v0_7))] sz) := by
  refine Met.ofW (cc := cX13_wrongName) (maxL := 2) (ret := none) (by decide) rfl ?_
  intro p e s m args below meth c s₁ B hml hv
  obtain ⟨rfl, hsz, hP, hK, hD0⟩ := hv
  have hx := B.exec
  have hb := B.bytes
  have hr := B.returns
  have hts := atoms_spec (ws := wsX13_wrongName) B.pre
  have hown : s.vm.findClass RX13 = some m.cls := findClass_of_methodNamed B.named
  have hlocks := B.notSynchronized
  subst hsz
  have hD := hD0.self (sz := s.heap.size)
  generalize hAe : va_A [(h0, .inr (15, fs0)), (v0_7, .inl (c_v0_7, 2010, .inl f_v0_7))] s.heap.size = A at hD ⊢
  have hA : ∀ q : Nat, s.heap.size ≤ q → A q := fun q h => by rw [← hAe]; exact Or.inr h
  have hS : va_S A s.heap s.heap [] := va_S.rf
  have hP : va_P (dC, dI) vwCl [(h0, .inr (15, fs0)), (v0_7, .inl (c_v0_7, 2010, .inl f_v0_7))] s.heap := hP
  have hl := lv_entry ([.ref h0, .int p0]) (n := 2) (Nat.le_of_ble_eq_true rfl)
  rw [lg_entry_eq]
  generalize (lg_sl ([.ref h0, .int p0]) ++ List.replicate (2 - (lg_sl ([.ref h0, .int p0])).length) Slot.unset).toArray = ls at hl ⊢
  have hl : lv_has ls 2 [(0, .ref h0), (1, .int p0)] := hl
  refine lv_aload_n hx hb dX13_wrongName_0 rfl (lv_at hl 0 rfl) ?_
  refine va_get (D := (dC, dI)) (ci := 15) (v := .int v0_52) (C := RX13) (T := TX13) (N := 196) hx hb hts iw_X13_wrongName_X13 hown hK hP 0 rfl rfl 52 (by decide) (hts (.fieldLink RX13 624 "LiquidTongueModel" "least" "I") (by decide +kernel)) (fun _ h9 => h9) hf0_52 dX13_wrongName_1 ?_
  refine lv_if_lt (tgt := 20) hx hb dX13_wrongName_4 (by decide) (fun c_1 => ?_) (fun c_1 => absurd hc_0 c_1)
  refine lv_aload_n hx hb dX13_wrongName_20 rfl (lv_at hl 0 rfl) ?_
  refine lv_aload_n hx hb dX13_wrongName_21 rfl (lv_at hl 0 rfl) ?_
  refine va_get (D := (dC, dI)) (ci := 15) (v := .ref v0_7) (C := RX13) (T := TX13) (N := 196) hx hb hts iw_X13_wrongName_X13 hown hK hP 0 rfl rfl 7 (by decide) (hts (.fieldLink RX13 23 "LiquidTongueModel" "wAt" "[I") (by decide +kernel)) (fun _ h9 => h9) hf0_7 dX13_wrongName_22 ?_
  refine lv_iload_n hx hb dX13_wrongName_25 rfl (lv_at hl 1 rfl) ?_
  refine va_iald hx hb hK hP 1 0 rfl rfl hi_0 dX13_wrongName_26 ?_
  refine va_put (D := (dC, dI)) (ci := 15) (v := .int (f_v0_7 (p0).toNatClampNeg)) (ty := .int) (C := RX13) (T := TX13) (N := 196) hx hb hts iw_X13_wrongName_X13 tyX13 tyX13_ok nmX13 hown hK hP hD hS 0 rfl rfl 52 (by decide) (hts (.fieldLink RX13 624 "LiquidTongueModel" "least" "I") (by decide +kernel)) (fun _ h9 => h9) rfl (by decide +kernel) rfl rfl (zs_lt hl0 (by decide)) dX13_wrongName_27 (fun H locs hP hD hS => ?_)
  have hP : va_P (dC, dI) vwCl [(h0, .inr (15, (fs0.set 52 (.int (f_v0_7 (p0).toNatClampNeg))))), (v0_7, .inl (c_v0_7, 2010, .inl f_v0_7))] H := hP
  have hD : va_D A [(h0, .inr (15, (fs0.set 52 (.int (f_v0_7 (p0).toNatClampNeg))))), (v0_7, .inl (c_v0_7, 2010, .inl f_v0_7))] := hD
  have hP9 := hP.sub (ws' := [(h0, .inr (15, (fs0.set 52 (.int (f_v0_7 (p0).toNatClampNeg))))), (v0_7, .inl (c_v0_7, 2010, .inl f_v0_7))]) [0, 1] rfl
  have hD9 := hD.sub (ws' := [(h0, .inr (15, (fs0.set 52 (.int (f_v0_7 (p0).toNatClampNeg))))), (v0_7, .inl (c_v0_7, 2010, .inl f_v0_7))]) [0, 1] (by decide) rfl
  have hK9 := hK.sub (tys' := [(c_v0_7, .int)]) [0] rfl
  exact W.vret hx hb hr (fun t ht hW => ⟨⟨(), rfl, trivial, (zB_mk (by rw [ht]; exact hP9) (va_K.moved hW.alike hK9) hD9)⟩, hS.F ht⟩) hS.2.2 dX13_wrongName_30
set_option maxHeartbeats 4000000 in
set_option maxRecDepth 100000 in
/-- X13_wrongName, a road -/
theorem c_X13_wrongName_r1 (l : Launch) (dC : Nat → ClassId) (dI : Nat → Nat → Nat) (sz : Nat) (h0 : Nat) (fs0 : List Value) (p0 : Int32) (v0_52 : Int32) (v0_7 : Nat) (c_v0_7 : ClassId) (f_v0_7 : Nat → Int32) (hl0 : fs0.length = 196) (hf0_52 : fs0[52]? = some (.int v0_52)) (hf0_7 : fs0[7]? = some (.ref v0_7)) (hi_0 : vp_in p0 2010) (hc_0 : ¬ v0_52 < 0) (hc_1 : v0_52 ≤ (f_v0_7 (p0).toNatClampNeg)) : Met l yX13_wrongName wsX13_wrongName ({ frames := 0, cells := 0, slots := 0, locals := 0 }) (zPc dC dI sz [.ref h0, .int p0] [(h0, .inr (15, fs0)), (v0_7, .inl (c_v0_7, 2010, .inl f_v0_7))] [(c_v0_7, .int)]) (va_Qv (fun _ : Unit => True) (zB dC dI (fun _ => [(c_v0_7, .int)]) (fun _ : Unit => [(h0, .inr (15, fs0)), (v0_7, .inl (c_v0_7, 2010, .inl f_v0_7))]) (va_A [(h0, .inr (15, fs0)), (v0_7, .inl (c_v0_7, 2010, .inl f_v0_7))] sz)) (va_A [(h0, .inr (15, fs0)), (v0_7, .inl (c_v0_7, 2010, .inl f_v0_7))] sz)) 0 0 (va_A [(h0, .inr (15, fs0)), (v0_7, .inl (c_v0_7, 2010, .inl f_v0_7))] sz) := by
  refine Met.ofW (cc := cX13_wrongName) (maxL := 2) (ret := none) (by decide) rfl ?_
  intro p e s m args below meth c s₁ B hml hv
  obtain ⟨rfl, hsz, hP, hK, hD0⟩ := hv
  have hx := B.exec
  have hb := B.bytes
  have hr := B.returns
  have hts := atoms_spec (ws := wsX13_wrongName) B.pre
  have hown : s.vm.findClass RX13 = some m.cls := findClass_of_methodNamed B.named
  have hlocks := B.notSynchronized
  subst hsz
  have hD := hD0.self (sz := s.heap.size)
  generalize hAe : va_A [(h0, .inr (15, fs0)), (v0_7, .inl (c_v0_7, 2010, .inl f_v0_7))] s.heap.size = A at hD ⊢
  have hA : ∀ q : Nat, s.heap.size ≤ q → A q := fun q h => by rw [← hAe]; exact Or.inr h
  have hS : va_S A s.heap s.heap [] := va_S.rf
  have hP : va_P (dC, dI) vwCl [(h0, .inr (15, fs0)), (v0_7, .inl (c_v0_7, 2010, .inl f_v0_7))] s.heap := hP
  have hl := lv_entry ([.ref h0, .int p0]) (n := 2) (Nat.le_of_ble_eq_true rfl)
  rw [lg_entry_eq]
  generalize (lg_sl ([.ref h0, .int p0]) ++ List.replicate (2 - (lg_sl ([.ref h0, .int p0])).length) Slot.unset).toArray = ls at hl ⊢
  have hl : lv_has ls 2 [(0, .ref h0), (1, .int p0)] := hl
  refine lv_aload_n hx hb dX13_wrongName_0 rfl (lv_at hl 0 rfl) ?_
  refine va_get (D := (dC, dI)) (ci := 15) (v := .int v0_52) (C := RX13) (T := TX13) (N := 196) hx hb hts iw_X13_wrongName_X13 hown hK hP 0 rfl rfl 52 (by decide) (hts (.fieldLink RX13 624 "LiquidTongueModel" "least" "I") (by decide +kernel)) (fun _ h9 => h9) hf0_52 dX13_wrongName_1 ?_
  refine lv_if_lt (tgt := 20) hx hb dX13_wrongName_4 (by decide) (fun c_1 => absurd c_1 hc_0) (fun c_1 => ?_)
  refine lv_aload_n hx hb dX13_wrongName_7 rfl (lv_at hl 0 rfl) ?_
  refine va_get (D := (dC, dI)) (ci := 15) (v := .ref v0_7) (C := RX13) (T := TX13) (N := 196) hx hb hts iw_X13_wrongName_X13 hown hK hP 0 rfl rfl 7 (by decide) (hts (.fieldLink RX13 23 "LiquidTongueModel" "wAt" "[I") (by decide +kernel)) (fun _ h9 => h9) hf0_7 dX13_wrongName_8 ?_
  refine lv_iload_n hx hb dX13_wrongName_11 rfl (lv_at hl 1 rfl) ?_
  refine va_iald hx hb hK hP 1 0 rfl rfl hi_0 dX13_wrongName_12 ?_
  refine lv_aload_n hx hb dX13_wrongName_13 rfl (lv_at hl 0 rfl) ?_
  refine va_get (D := (dC, dI)) (ci := 15) (v := .int v0_52) (C := RX13) (T := TX13) (N := 196) hx hb hts iw_X13_wrongName_X13 hown hK hP 0 rfl rfl 52 (by decide) (hts (.fieldLink RX13 624 "LiquidTongueModel" "least" "I") (by decide +kernel)) (fun _ h9 => h9) hf0_52 dX13_wrongName_14 ?_
  refine lv_icmp_ge (tgt := 30) hx hb dX13_wrongName_17 (by decide) (fun c_2 => ?_) (fun c_2 => absurd hc_1 c_2)
  have hP9 := hP.sub (ws' := [(h0, .inr (15, fs0)), (v0_7, .inl (c_v0_7, 2010, .inl f_v0_7))]) [0, 1] rfl
  have hD9 := hD.sub (ws' := [(h0, .inr (15, fs0)), (v0_7, .inl (c_v0_7, 2010, .inl f_v0_7))]) [0, 1] (by decide) rfl
  have hK9 := hK.sub (tys' := [(c_v0_7, .int)]) [0] rfl
  exact W.vret hx hb hr (fun t ht hW => ⟨⟨(), rfl, trivial, (zB_mk (by rw [ht]; exact hP9) (va_K.moved hW.alike hK9) hD9)⟩, hS.F ht⟩) hS.2.2 dX13_wrongName_30
set_option maxHeartbeats 4000000 in
set_option maxRecDepth 100000 in
/-- X13_wrongName, a road -/
theorem c_X13_wrongName_r2 (l : Launch) (dC : Nat → ClassId) (dI : Nat → Nat → Nat) (sz : Nat) (h0 : Nat) (fs0 : List Value) (p0 : Int32) (v0_52 : Int32) (v0_7 : Nat) (c_v0_7 : ClassId) (f_v0_7 : Nat → Int32) (hl0 : fs0.length = 196) (hf0_52 : fs0[52]? = some (.int v0_52)) (hf0_7 : fs0[7]? = some (.ref v0_7)) (hi_0 : vp_in p0 2010) (hi_1 : vp_in p0 2010) (hc_0 : ¬ v0_52 < 0) (hc_1 : ¬ v0_52 ≤ (f_v0_7 (p0).toNatClampNeg)) : Met l yX13_wrongName wsX13_wrongName ({ frames := 0, cells := 0, slots := 0, locals := 0 }) (zPc dC dI sz [.ref h0, .int p0] [(h0, .inr (15, fs0)), (v0_7, .inl (c_v0_7, 2010, .inl f_v0_7))] [(c_v0_7, .int)]) (va_Qv (fun _ : Unit => True) (zB dC dI (fun _ => [(c_v0_7, .int)]) (fun _ : Unit => [(h0, .inr (15, (fs0.set 52 (.int (f_v0_7 (p0).toNatClampNeg))))), (v0_7, .inl (c_v0_7, 2010, .inl f_v0_7))]) (va_A [(h0, .inr (15, fs0)), (v0_7, .inl (c_v0_7, 2010, .inl f_v0_7))] sz)) (va_A [(h0, .inr (15, fs0)), (v0_7, .inl (c_v0_7, 2010, .inl f_v0_7))] sz)) 0 0 (va_A [(h0, .inr (15, fs0)), (v0_7, .inl (c_v0_7, 2010, .inl f_v0_7))] sz) := by
  refine Met.ofW (cc := cX13_wrongName) (maxL := 2) (ret := none) (by decide) rfl ?_
  intro p e s m args below meth c s₁ B hml hv
  obtain ⟨rfl, hsz, hP, hK, hD0⟩ := hv
  have hx := B.exec
  have hb := B.bytes
  have hr := B.returns
  have hts := atoms_spec (ws := wsX13_wrongName) B.pre
  have hown : s.vm.findClass RX13 = some m.cls := findClass_of_methodNamed B.named
  have hlocks := B.notSynchronized
  subst hsz
  have hD := hD0.self (sz := s.heap.size)
  generalize hAe : va_A [(h0, .inr (15, fs0)), (v0_7, .inl (c_v0_7, 2010, .inl f_v0_7))] s.heap.size = A at hD ⊢
  have hA : ∀ q : Nat, s.heap.size ≤ q → A q := fun q h => by rw [← hAe]; exact Or.inr h
  have hS : va_S A s.heap s.heap [] := va_S.rf
  have hP : va_P (dC, dI) vwCl [(h0, .inr (15, fs0)), (v0_7, .inl (c_v0_7, 2010, .inl f_v0_7))] s.heap := hP
  have hl := lv_entry ([.ref h0, .int p0]) (n := 2) (Nat.le_of_ble_eq_true rfl)
  rw [lg_entry_eq]
  generalize (lg_sl ([.ref h0, .int p0]) ++ List.replicate (2 - (lg_sl ([.ref h0, .int p0])).length) Slot.unset).toArray = ls at hl ⊢
  have hl : lv_has ls 2 [(0, .ref h0), (1, .int p0)] := hl
  refine lv_aload_n hx hb dX13_wrongName_0 rfl (lv_at hl 0 rfl) ?_
  refine va_get (D := (dC, dI)) (ci := 15) (v := .int v0_52) (C := RX13) (T := TX13) (N := 196) hx hb hts iw_X13_wrongName_X13 hown hK hP 0 rfl rfl 52 (by decide) (hts (.fieldLink RX13 624 "LiquidTongueModel" "least" "I") (by decide +kernel)) (fun _ h9 => h9) hf0_52 dX13_wrongName_1 ?_
  refine lv_if_lt (tgt := 20) hx hb dX13_wrongName_4 (by decide) (fun c_1 => absurd c_1 hc_0) (fun c_1 => ?_)
  refine lv_aload_n hx hb dX13_wrongName_7 rfl (lv_at hl 0 rfl) ?_
  refine va_get (D := (dC, dI)) (ci := 15) (v := .ref v0_7) (C := RX13) (T := TX13) (N := 196) hx hb hts iw_X13_wrongName_X13 hown hK hP 0 rfl rfl 7 (by decide) (hts (.fieldLink RX13 23 "LiquidTongueModel" "wAt" "[I") (by decide +kernel)) (fun _ h9 => h9) hf0_7 dX13_wrongName_8 ?_
  refine lv_iload_n hx hb dX13_wrongName_11 rfl (lv_at hl 1 rfl) ?_
  refine va_iald hx hb hK hP 1 0 rfl rfl hi_0 dX13_wrongName_12 ?_
  refine lv_aload_n hx hb dX13_wrongName_13 rfl (lv_at hl 0 rfl) ?_
  refine va_get (D := (dC, dI)) (ci := 15) (v := .int v0_52) (C := RX13) (T := TX13) (N := 196) hx hb hts iw_X13_wrongName_X13 hown hK hP 0 rfl rfl 52 (by decide) (hts (.fieldLink RX13 624 "LiquidTongueModel" "least" "I") (by decide +kernel)) (fun _ h9 => h9) hf0_52 dX13_wrongName_14 ?_
  refine lv_icmp_ge (tgt := 30) hx hb dX13_wrongName_17 (by decide) (fun c_2 => absurd c_2 hc_1) (fun c_2 => ?_)
  refine lv_aload_n hx hb dX13_wrongName_20 rfl (lv_at hl 0 rfl) ?_
  refine lv_aload_n hx hb dX13_wrongName_21 rfl (lv_at hl 0 rfl) ?_
  refine va_get (D := (dC, dI)) (ci := 15) (v := .ref v0_7) (C := RX13) (T := TX13) (N := 196) hx hb hts iw_X13_wrongName_X13 hown hK hP 0 rfl rfl 7 (by decide) (hts (.fieldLink RX13 23 "LiquidTongueModel" "wAt" "[I") (by decide +kernel)) (fun _ h9 => h9) hf0_7 dX13_wrongName_22 ?_
  refine lv_iload_n hx hb dX13_wrongName_25 rfl (lv_at hl 1 rfl) ?_
  refine va_iald hx hb hK hP 1 0 rfl rfl hi_1 dX13_wrongName_26 ?_
  refine va_put (D := (dC, dI)) (ci := 15) (v := .int (f_v0_7 (p0).toNatClampNeg)) (ty := .int) (C := RX13) (T := TX13) (N := 196) hx hb hts iw_X13_wrongName_X13 tyX13 tyX13_ok nmX13 hown hK hP hD hS 0 rfl rfl 52 (by decide) (hts (.fieldLink RX13 624 "LiquidTongueModel" "least" "I") (by decide +kernel)) (fun _ h9 => h9) rfl (by decide +kernel) rfl rfl (zs_lt hl0 (by decide)) dX13_wrongName_27 (fun H locs hP hD hS => ?_)
  have hP : va_P (dC, dI) vwCl [(h0, .inr (15, (fs0.set 52 (.int (f_v0_7 (p0).toNatClampNeg))))), (v0_7, .inl (c_v0_7, 2010, .inl f_v0_7))] H := hP
  have hD : va_D A [(h0, .inr (15, (fs0.set 52 (.int (f_v0_7 (p0).toNatClampNeg))))), (v0_7, .inl (c_v0_7, 2010, .inl f_v0_7))] := hD
  have hP9 := hP.sub (ws' := [(h0, .inr (15, (fs0.set 52 (.int (f_v0_7 (p0).toNatClampNeg))))), (v0_7, .inl (c_v0_7, 2010, .inl f_v0_7))]) [0, 1] rfl
  have hD9 := hD.sub (ws' := [(h0, .inr (15, (fs0.set 52 (.int (f_v0_7 (p0).toNatClampNeg))))), (v0_7, .inl (c_v0_7, 2010, .inl f_v0_7))]) [0, 1] (by decide) rfl
  have hK9 := hK.sub (tys' := [(c_v0_7, .int)]) [0] rfl
  exact W.vret hx hb hr (fun t ht hW => ⟨⟨(), rfl, trivial, (zB_mk (by rw [ht]; exact hP9) (va_K.moved hW.alike hK9) hD9)⟩, hS.F ht⟩) hS.2.2 dX13_wrongName_30
