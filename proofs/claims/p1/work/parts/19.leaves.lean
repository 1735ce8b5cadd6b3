theorem iw_X13_fault_X13 : ∀ w ∈ wsX130, w ∈ wsX13_fault := fun w h => List.mem_cons_of_mem _ (List.mem_append_right _ h)
set_option maxHeartbeats 4000000 in
set_option maxRecDepth 100000 in

theorem c_X13_fault_r0 (l : Launch) (dC : Nat → ClassId) (dI : Nat → Nat → Nat) (sz : Nat) (h0 : Nat) (fs0 : List Value) (p0 : Int32) (p1 : Int32) (v0_11 : Int32) (hl0 : fs0.length = 196) (hf0_11 : fs0[11]? = some (.int v0_11)) (hc_0 : v0_11 = 0) : Met l yX13_fault wsX13_fault ({ frames := 0, cells := 0, slots := 0, locals := 0 }) (zPc dC dI sz [.ref h0, .int p0, .int p1] [(h0, .inr (15, fs0))] []) (va_Qv (fun _ : Unit => True) (zB dC dI (fun _ => []) (fun _ : Unit => [(h0, .inr (15, ((fs0.set 11 (.int p0)).set 12 (.int p1))))]) (va_A [(h0, .inr (15, fs0))] sz)) (va_A [(h0, .inr (15, fs0))] sz)) 0 0 (va_A [(h0, .inr (15, fs0))] sz) := by
  refine Met.ofW (cc := cX13_fault) (maxL := 3) (ret := none) (by decide) rfl ?_
  intro p e s m args below meth c s₁ B hml hv
  obtain ⟨rfl, hsz, hP, hK, hD0⟩ := hv
  have hx := B.exec
  have hb := B.bytes
  have hr := B.returns
  have hts := atoms_spec (ws := wsX13_fault) B.pre
  have hown : s.vm.findClass RX13 = some m.cls := findClass_of_methodNamed B.named
  have hlocks := B.notSynchronized
  subst hsz
  have hD := hD0.self (sz := s.heap.size)
  generalize hAe : va_A [(h0, .inr (15, fs0))] s.heap.size = A at hD ⊢
  have hA : ∀ q : Nat, s.heap.size ≤ q → A q := fun q h => by rw [← hAe]; exact Or.inr h
  have hS : va_S A s.heap s.heap [] := va_S.rf
  have hP : va_P (dC, dI) vwCl [(h0, .inr (15, fs0))] s.heap := hP
  have hl := lv_entry ([.ref h0, .int p0, .int p1]) (n := 3) (Nat.le_of_ble_eq_true rfl)
  rw [lg_entry_eq]
  generalize (lg_sl ([.ref h0, .int p0, .int p1]) ++ List.replicate (3 - (lg_sl ([.ref h0, .int p0, .int p1])).length) Slot.unset).toArray = ls at hl ⊢
  have hl : lv_has ls 3 [(0, .ref h0), (1, .int p0), (2, .int p1)] := hl
  refine lv_aload_n hx hb dX13_fault_0 rfl (lv_at hl 0 rfl) ?_
  refine va_get (D := (dC, dI)) (ci := 15) (v := .int v0_11) (C := RX13) (T := TX13) (N := 196) hx hb hts iw_X13_fault_X13 hown hK hP 0 rfl rfl 11 (by decide) (hts (.fieldLink RX13 392 "LiquidTongueModel" "bad" "I") (by decide +kernel)) (fun _ h9 => h9) hf0_11 dX13_fault_1 ?_
  refine lv_if_eq (tgt := 8) hx hb dX13_fault_4 (by decide) (fun c_1 => ?_) (fun c_1 => absurd hc_0 c_1)
  refine lv_aload_n hx hb dX13_fault_8 rfl (lv_at hl 0 rfl) ?_
  refine lv_iload_n hx hb dX13_fault_9 rfl (lv_at hl 1 rfl) ?_
  refine va_put (D := (dC, dI)) (ci := 15) (v := .int p0) (ty := .int) (C := RX13) (T := TX13) (N := 196) hx hb hts iw_X13_fault_X13 tyX13 tyX13_ok nmX13 hown hK hP hD hS 0 rfl rfl 11 (by decide) (hts (.fieldLink RX13 392 "LiquidTongueModel" "bad" "I") (by decide +kernel)) (fun _ h9 => h9) rfl (by decide +kernel) rfl rfl (zs_lt hl0 (by decide)) dX13_fault_10 (fun H locs hP hD hS => ?_)
  have hP : va_P (dC, dI) vwCl [(h0, .inr (15, (fs0.set 11 (.int p0))))] H := hP
  have hD : va_D A [(h0, .inr (15, (fs0.set 11 (.int p0))))] := hD
  refine lv_aload_n hx hb dX13_fault_13 rfl (lv_at hl 0 rfl) ?_
  refine lv_iload_n hx hb dX13_fault_14 rfl (lv_at hl 2 rfl) ?_
  refine va_put (D := (dC, dI)) (ci := 15) (v := .int p1) (ty := .int) (C := RX13) (T := TX13) (N := 196) hx hb hts iw_X13_fault_X13 tyX13 tyX13_ok nmX13 hown hK hP hD hS 0 rfl rfl 12 (by decide) (hts (.fieldLink RX13 395 "LiquidTongueModel" "badAt" "I") (by decide +kernel)) (fun _ h9 => h9) rfl (by decide +kernel) rfl rfl (zs_lt (zs_len hl0) (by decide)) dX13_fault_15 (fun H locs hP hD hS => ?_)
  have hP : va_P (dC, dI) vwCl [(h0, .inr (15, ((fs0.set 11 (.int p0)).set 12 (.int p1))))] H := hP
  have hD : va_D A [(h0, .inr (15, ((fs0.set 11 (.int p0)).set 12 (.int p1))))] := hD
  have hP9 := hP.sub (ws' := [(h0, .inr (15, ((fs0.set 11 (.int p0)).set 12 (.int p1))))]) [0] rfl
  have hD9 := hD.sub (ws' := [(h0, .inr (15, ((fs0.set 11 (.int p0)).set 12 (.int p1))))]) [0] (by decide) rfl
  have hK9 := hK.sub (tys' := []) [] rfl
  exact W.vret hx hb hr (fun t ht hW => ⟨⟨(), rfl, trivial, (zB_mk (by rw [ht]; exact hP9) (va_K.moved hW.alike hK9) hD9)⟩, hS.F ht⟩) hS.2.2 dX13_fault_18
theorem iw_X13_word_X13 : ∀ w ∈ wsX130, w ∈ wsX13_word := fun w h => List.mem_cons_of_mem _ (List.mem_append_right _ h)
set_option maxHeartbeats 4000000 in
set_option maxRecDepth 100000 in

theorem c_X13_word_r0 (l : Launch) (dC : Nat → ClassId) (dI : Nat → Nat → Nat) (sz : Nat) (h0 : Nat) (fs0 : List Value) (p0 : Int32) (p1 : Int32) (p2 : Int32) (v0_6 : Nat) (v0_9 : Int32) (c_v0_6 : ClassId) (f_v0_6 : Nat → Int32) (v0_7 : Nat) (c_v0_7 : ClassId) (f_v0_7 : Nat → Int32) (v0_8 : Nat) (c_v0_8 : ClassId) (f_v0_8 : Nat → Int32) (hl0 : fs0.length = 196) (hf0_6 : fs0[6]? = some (.ref v0_6)) (hf0_9 : fs0[9]? = some (.int v0_9)) (hf0_7 : fs0[7]? = some (.ref v0_7)) (hf0_8 : fs0[8]? = some (.ref v0_8)) (hi_0 : vp_in v0_9 2010) (hi_1 : vp_in v0_9 2010) (hi_2 : vp_in v0_9 2010) : Met l yX13_word wsX13_word ({ frames := 0, cells := 0, slots := 0, locals := 0 }) (zPc dC dI sz [.ref h0, .int p0, .int p1, .int p2] [(h0, .inr (15, fs0)), (v0_6, .inl (c_v0_6, 2010, .inl f_v0_6)), (v0_7, .inl (c_v0_7, 2010, .inl f_v0_7)), (v0_8, .inl (c_v0_8, 2010, .inl f_v0_8))] [(c_v0_6, .int), (c_v0_7, .int), (c_v0_8, .int)]) (va_Qv (fun _ : Unit => True) (zB dC dI (fun _ => [(c_v0_6, .int), (c_v0_7, .int), (c_v0_8, .int)]) (fun _ : Unit => [(h0, .inr (15, (fs0.set 9 (.int (v0_9 + 1))))), (v0_6, .inl (c_v0_6, 2010, .inl (upd f_v0_6 (v0_9).toNatClampNeg p0))), (v0_7, .inl (c_v0_7, 2010, .inl (upd f_v0_7 (v0_9).toNatClampNeg p1))), (v0_8, .inl (c_v0_8, 2010, .inl (upd f_v0_8 (v0_9).toNatClampNeg p2)))]) (va_A [(h0, .inr (15, fs0)), (v0_6, .inl (c_v0_6, 2010, .inl f_v0_6)), (v0_7, .inl (c_v0_7, 2010, .inl f_v0_7)), (v0_8, .inl (c_v0_8, 2010, .inl f_v0_8))] sz)) (va_A [(h0, .inr (15, fs0)), (v0_6, .inl (c_v0_6, 2010, .inl f_v0_6)), (v0_7, .inl (c_v0_7, 2010, .inl f_v0_7)), (v0_8, .inl (c_v0_8, 2010, .inl f_v0_8))] sz)) 0 0 (va_A [(h0, .inr (15, fs0)), (v0_6, .inl (c_v0_6, 2010, .inl f_v0_6)), (v0_7, .inl (c_v0_7, 2010, .inl f_v0_7)), (v0_8, .inl (c_v0_8, 2010, .inl f_v0_8))] sz) := by
  refine Met.ofW (cc := cX13_word) (maxL := 4) (ret := none) (by decide) rfl ?_
  intro p e s m args below meth c s₁ B hml hv
  obtain ⟨rfl, hsz, hP, hK, hD0⟩ := hv
  have hx := B.exec
  have hb := B.bytes
  have hr := B.returns
  have hts := atoms_spec (ws := wsX13_word) B.pre
  have hown : s.vm.findClass RX13 = some m.cls := findClass_of_methodNamed B.named
  have hlocks := B.notSynchronized
  subst hsz
  have hD := hD0.self (sz := s.heap.size)
  generalize hAe : va_A [(h0, .inr (15, fs0)), (v0_6, .inl (c_v0_6, 2010, .inl f_v0_6)), (v0_7, .inl (c_v0_7, 2010, .inl f_v0_7)), (v0_8, .inl (c_v0_8, 2010, .inl f_v0_8))] s.heap.size = A at hD ⊢
  have hA : ∀ q : Nat, s.heap.size ≤ q → A q := fun q h => by rw [← hAe]; exact Or.inr h
  have hS : va_S A s.heap s.heap [] := va_S.rf
  have hP : va_P (dC, dI) vwCl [(h0, .inr (15, fs0)), (v0_6, .inl (c_v0_6, 2010, .inl f_v0_6)), (v0_7, .inl (c_v0_7, 2010, .inl f_v0_7)), (v0_8, .inl (c_v0_8, 2010, .inl f_v0_8))] s.heap := hP
  have hl := lv_entry ([.ref h0, .int p0, .int p1, .int p2]) (n := 4) (Nat.le_of_ble_eq_true rfl)
  rw [lg_entry_eq]
  generalize (lg_sl ([.ref h0, .int p0, .int p1, .int p2]) ++ List.replicate (4 - (lg_sl ([.ref h0, .int p0, .int p1, .int p2])).length) Slot.unset).toArray = ls at hl ⊢
  have hl : lv_has ls 4 [(0, .ref h0), (1, .int p0), (2, .int p1), (3, .int p2)] := hl
  refine lv_aload_n hx hb dX13_word_0 rfl (lv_at hl 0 rfl) ?_
  refine va_get (D := (dC, dI)) (ci := 15) (v := .ref v0_6) (C := RX13) (T := TX13) (N := 196) hx hb hts iw_X13_word_X13 hown hK hP 0 rfl rfl 6 (by decide) (hts (.fieldLink RX13 19 "LiquidTongueModel" "wKind" "[I") (by decide +kernel)) (fun _ h9 => h9) hf0_6 dX13_word_1 ?_
  refine lv_aload_n hx hb dX13_word_4 rfl (lv_at hl 0 rfl) ?_
  refine va_get (D := (dC, dI)) (ci := 15) (v := .int v0_9) (C := RX13) (T := TX13) (N := 196) hx hb hts iw_X13_word_X13 hown hK hP 0 rfl rfl 9 (by decide) (hts (.fieldLink RX13 398 "LiquidTongueModel" "words" "I") (by decide +kernel)) (fun _ h9 => h9) hf0_9 dX13_word_5 ?_
  refine lv_iload_n hx hb dX13_word_8 rfl (lv_at hl 1 rfl) ?_
  refine va_iast hx hb hK hP hD hS 1 0 rfl rfl hi_0 dX13_word_9 (fun H locs hP hD hS => ?_)
  have hP : va_P (dC, dI) vwCl [(h0, .inr (15, fs0)), (v0_6, .inl (c_v0_6, 2010, .inl (upd f_v0_6 (v0_9).toNatClampNeg p0))), (v0_7, .inl (c_v0_7, 2010, .inl f_v0_7)), (v0_8, .inl (c_v0_8, 2010, .inl f_v0_8))] H := hP
  have hD : va_D A [(h0, .inr (15, fs0)), (v0_6, .inl (c_v0_6, 2010, .inl (upd f_v0_6 (v0_9).toNatClampNeg p0))), (v0_7, .inl (c_v0_7, 2010, .inl f_v0_7)), (v0_8, .inl (c_v0_8, 2010, .inl f_v0_8))] := hD
  refine lv_aload_n hx hb dX13_word_10 rfl (lv_at hl 0 rfl) ?_
  refine va_get (D := (dC, dI)) (ci := 15) (v := .ref v0_7) (C := RX13) (T := TX13) (N := 196) hx hb hts iw_X13_word_X13 hown hK hP 0 rfl rfl 7 (by decide) (hts (.fieldLink RX13 23 "LiquidTongueModel" "wAt" "[I") (by decide +kernel)) (fun _ h9 => h9) hf0_7 dX13_word_11 ?_
  refine lv_aload_n hx hb dX13_word_14 rfl (lv_at hl 0 rfl) ?_
  refine va_get (D := (dC, dI)) (ci := 15) (v := .int v0_9) (C := RX13) (T := TX13) (N := 196) hx hb hts iw_X13_word_X13 hown hK hP 0 rfl rfl 9 (by decide) (hts (.fieldLink RX13 398 "LiquidTongueModel" "words" "I") (by decide +kernel)) (fun _ h9 => h9) hf0_9 dX13_word_15 ?_
  refine lv_iload_n hx hb dX13_word_18 rfl (lv_at hl 2 rfl) ?_
  refine va_iast hx hb hK hP hD hS 2 1 rfl rfl hi_1 dX13_word_19 (fun H locs hP hD hS => ?_)
  have hP : va_P (dC, dI) vwCl [(h0, .inr (15, fs0)), (v0_6, .inl (c_v0_6, 2010, .inl (upd f_v0_6 (v0_9).toNatClampNeg p0))), (v0_7, .inl (c_v0_7, 2010, .inl (upd f_v0_7 (v0_9).toNatClampNeg p1))), (v0_8, .inl (c_v0_8, 2010, .inl f_v0_8))] H := hP
  have hD : va_D A [(h0, .inr (15, fs0)), (v0_6, .inl (c_v0_6, 2010, .inl (upd f_v0_6 (v0_9).toNatClampNeg p0))), (v0_7, .inl (c_v0_7, 2010, .inl (upd f_v0_7 (v0_9).toNatClampNeg p1))), (v0_8, .inl (c_v0_8, 2010, .inl f_v0_8))] := hD
  refine lv_aload_n hx hb dX13_word_20 rfl (lv_at hl 0 rfl) ?_
  refine va_get (D := (dC, dI)) (ci := 15) (v := .ref v0_8) (C := RX13) (T := TX13) (N := 196) hx hb hts iw_X13_word_X13 hown hK hP 0 rfl rfl 8 (by decide) (hts (.fieldLink RX13 26 "LiquidTongueModel" "wEnd" "[I") (by decide +kernel)) (fun _ h9 => h9) hf0_8 dX13_word_21 ?_
  refine lv_aload_n hx hb dX13_word_24 rfl (lv_at hl 0 rfl) ?_
  refine va_get (D := (dC, dI)) (ci := 15) (v := .int v0_9) (C := RX13) (T := TX13) (N := 196) hx hb hts iw_X13_word_X13 hown hK hP 0 rfl rfl 9 (by decide) (hts (.fieldLink RX13 398 "LiquidTongueModel" "words" "I") (by decide +kernel)) (fun _ h9 => h9) hf0_9 dX13_word_25 ?_
  refine lv_iload_n hx hb dX13_word_28 rfl (lv_at hl 3 rfl) ?_
  refine va_iast hx hb hK hP hD hS 3 2 rfl rfl hi_2 dX13_word_29 (fun H locs hP hD hS => ?_)
  have hP : va_P (dC, dI) vwCl [(h0, .inr (15, fs0)), (v0_6, .inl (c_v0_6, 2010, .inl (upd f_v0_6 (v0_9).toNatClampNeg p0))), (v0_7, .inl (c_v0_7, 2010, .inl (upd f_v0_7 (v0_9).toNatClampNeg p1))), (v0_8, .inl (c_v0_8, 2010, .inl (upd f_v0_8 (v0_9).toNatClampNeg p2)))] H := hP
  have hD : va_D A [(h0, .inr (15, fs0)), (v0_6, .inl (c_v0_6, 2010, .inl (upd f_v0_6 (v0_9).toNatClampNeg p0))), (v0_7, .inl (c_v0_7, 2010, .inl (upd f_v0_7 (v0_9).toNatClampNeg p1))), (v0_8, .inl (c_v0_8, 2010, .inl (upd f_v0_8 (v0_9).toNatClampNeg p2)))] := hD
  refine lv_aload_n hx hb dX13_word_30 rfl (lv_at hl 0 rfl) ?_
  refine lv_dup hx hb dX13_word_31 rfl ?_
  refine va_get (D := (dC, dI)) (ci := 15) (v := .int v0_9) (C := RX13) (T := TX13) (N := 196) hx hb hts iw_X13_word_X13 hown hK hP 0 rfl rfl 9 (by decide) (hts (.fieldLink RX13 398 "LiquidTongueModel" "words" "I") (by decide +kernel)) (fun _ h9 => h9) hf0_9 dX13_word_32 ?_
  refine lv_iconst (v := 1) hx hb dX13_word_35 (by decide) ?_
  refine lv_iadd hx hb dX13_word_36 ?_
  refine va_put (D := (dC, dI)) (ci := 15) (v := .int (v0_9 + 1)) (ty := .int) (C := RX13) (T := TX13) (N := 196) hx hb hts iw_X13_word_X13 tyX13 tyX13_ok nmX13 hown hK hP hD hS 0 rfl rfl 9 (by decide) (hts (.fieldLink RX13 398 "LiquidTongueModel" "words" "I") (by decide +kernel)) (fun _ h9 => h9) rfl (by decide +kernel) rfl rfl (zs_lt hl0 (by decide)) dX13_word_37 (fun H locs hP hD hS => ?_)
  have hP : va_P (dC, dI) vwCl [(h0, .inr (15, (fs0.set 9 (.int (v0_9 + 1))))), (v0_6, .inl (c_v0_6, 2010, .inl (upd f_v0_6 (v0_9).toNatClampNeg p0))), (v0_7, .inl (c_v0_7, 2010, .inl (upd f_v0_7 (v0_9).toNatClampNeg p1))), (v0_8, .inl (c_v0_8, 2010, .inl (upd f_v0_8 (v0_9).toNatClampNeg p2)))] H := hP
  have hD : va_D A [(h0, .inr (15, (fs0.set 9 (.int (v0_9 + 1))))), (v0_6, .inl (c_v0_6, 2010, .inl (upd f_v0_6 (v0_9).toNatClampNeg p0))), (v0_7, .inl (c_v0_7, 2010, .inl (upd f_v0_7 (v0_9).toNatClampNeg p1))), (v0_8, .inl (c_v0_8, 2010, .inl (upd f_v0_8 (v0_9).toNatClampNeg p2)))] := hD
  have hP9 := hP.sub (ws' := [(h0, .inr (15, (fs0.set 9 (.int (v0_9 + 1))))), (v0_6, .inl (c_v0_6, 2010, .inl (upd f_v0_6 (v0_9).toNatClampNeg p0))), (v0_7, .inl (c_v0_7, 2010, .inl (upd f_v0_7 (v0_9).toNatClampNeg p1))), (v0_8, .inl (c_v0_8, 2010, .inl (upd f_v0_8 (v0_9).toNatClampNeg p2)))]) [0, 1, 2, 3] rfl
  have hD9 := hD.sub (ws' := [(h0, .inr (15, (fs0.set 9 (.int (v0_9 + 1))))), (v0_6, .inl (c_v0_6, 2010, .inl (upd f_v0_6 (v0_9).toNatClampNeg p0))), (v0_7, .inl (c_v0_7, 2010, .inl (upd f_v0_7 (v0_9).toNatClampNeg p1))), (v0_8, .inl (c_v0_8, 2010, .inl (upd f_v0_8 (v0_9).toNatClampNeg p2)))]) [0, 1, 2, 3] (by decide) rfl
  have hK9 := hK.sub (tys' := [(c_v0_6, .int), (c_v0_7, .int), (c_v0_8, .int)]) [0, 1, 2] rfl
  exact W.vret hx hb hr (fun t ht hW => ⟨⟨(), rfl, trivial, (zB_mk (by rw [ht]; exact hP9) (va_K.moved hW.alike hK9) hD9)⟩, hS.F ht⟩) hS.2.2 dX13_word_40
theorem iw_X13_node_X13 : ∀ w ∈ wsX130, w ∈ wsX13_node := fun w h => List.mem_cons_of_mem _ (List.mem_append_right _ h)
set_option maxHeartbeats 4000000 in
set_option maxRecDepth 100000 in

theorem c_X13_node_r0 (l : Launch) (dC : Nat → ClassId) (dI : Nat → Nat → Nat) (sz : Nat) (h0 : Nat) (fs0 : List Value) (p0 : Int32) (p1 : Int32) (v0_13 : Nat) (v0_20 : Int32) (c_v0_13 : ClassId) (f_v0_13 : Nat → Int32) (v0_14 : Nat) (c_v0_14 : ClassId) (f_v0_14 : Nat → Int32) (v0_15 : Nat) (c_v0_15 : ClassId) (f_v0_15 : Nat → Int32) (hl0 : fs0.length = 196) (hf0_13 : fs0[13]? = some (.ref v0_13)) (hf0_20 : fs0[20]? = some (.int v0_20)) (hf0_14 : fs0[14]? = some (.ref v0_14)) (hf0_15 : fs0[15]? = some (.ref v0_15)) (hi_0 : vp_in v0_20 2100) (hi_1 : vp_in v0_20 2100) (hi_2 : vp_in v0_20 2100) : Met l yX13_node wsX13_node ({ frames := 0, cells := 0, slots := 0, locals := 0 }) (zPc dC dI sz [.ref h0, .int p0, .int p1] [(h0, .inr (15, fs0)), (v0_13, .inl (c_v0_13, 2100, .inl f_v0_13)), (v0_14, .inl (c_v0_14, 2100, .inl f_v0_14)), (v0_15, .inl (c_v0_15, 2100, .inl f_v0_15))] [(c_v0_13, .int), (c_v0_14, .int), (c_v0_15, .int)]) (va_Qi (fun (r : Int32) (_ : Unit) => r = ((v0_20 + 1) - 1)) (zB dC dI (fun _ => [(c_v0_13, .int), (c_v0_14, .int), (c_v0_15, .int)]) (fun _ : Unit => [(h0, .inr (15, (fs0.set 20 (.int (v0_20 + 1))))), (v0_13, .inl (c_v0_13, 2100, .inl (upd f_v0_13 (v0_20).toNatClampNeg p0))), (v0_14, .inl (c_v0_14, 2100, .inl (upd f_v0_14 (v0_20).toNatClampNeg p1))), (v0_15, .inl (c_v0_15, 2100, .inl (upd f_v0_15 (v0_20).toNatClampNeg p1)))]) (va_A [(h0, .inr (15, fs0)), (v0_13, .inl (c_v0_13, 2100, .inl f_v0_13)), (v0_14, .inl (c_v0_14, 2100, .inl f_v0_14)), (v0_15, .inl (c_v0_15, 2100, .inl f_v0_15))] sz)) (va_A [(h0, .inr (15, fs0)), (v0_13, .inl (c_v0_13, 2100, .inl f_v0_13)), (v0_14, .inl (c_v0_14, 2100, .inl f_v0_14)), (v0_15, .inl (c_v0_15, 2100, .inl f_v0_15))] sz)) 0 0 (va_A [(h0, .inr (15, fs0)), (v0_13, .inl (c_v0_13, 2100, .inl f_v0_13)), (v0_14, .inl (c_v0_14, 2100, .inl f_v0_14)), (v0_15, .inl (c_v0_15, 2100, .inl f_v0_15))] sz) := by
  refine Met.ofW (cc := cX13_node) (maxL := 3) (ret := (some .int)) (by decide) rfl ?_
  intro p e s m args below meth c s₁ B hml hv
  obtain ⟨rfl, hsz, hP, hK, hD0⟩ := hv
  have hx := B.exec
  have hb := B.bytes
  have hr := B.returns
  have hts := atoms_spec (ws := wsX13_node) B.pre
  have hown : s.vm.findClass RX13 = some m.cls := findClass_of_methodNamed B.named
  have hlocks := B.notSynchronized
  subst hsz
  have hD := hD0.self (sz := s.heap.size)
  generalize hAe : va_A [(h0, .inr (15, fs0)), (v0_13, .inl (c_v0_13, 2100, .inl f_v0_13)), (v0_14, .inl (c_v0_14, 2100, .inl f_v0_14)), (v0_15, .inl (c_v0_15, 2100, .inl f_v0_15))] s.heap.size = A at hD ⊢
  have hA : ∀ q : Nat, s.heap.size ≤ q → A q := fun q h => by rw [← hAe]; exact Or.inr h
  have hS : va_S A s.heap s.heap [] := va_S.rf
  have hP : va_P (dC, dI) vwCl [(h0, .inr (15, fs0)), (v0_13, .inl (c_v0_13, 2100, .inl f_v0_13)), (v0_14, .inl (c_v0_14, 2100, .inl f_v0_14)), (v0_15, .inl (c_v0_15, 2100, .inl f_v0_15))] s.heap := hP
  have hl := lv_entry ([.ref h0, .int p0, .int p1]) (n := 3) (Nat.le_of_ble_eq_true rfl)
  rw [lg_entry_eq]
  generalize (lg_sl ([.ref h0, .int p0, .int p1]) ++ List.replicate (3 - (lg_sl ([.ref h0, .int p0, .int p1])).length) Slot.unset).toArray = ls at hl ⊢
  have hl : lv_has ls 3 [(0, .ref h0), (1, .int p0), (2, .int p1)] := hl
  refine lv_aload_n hx hb dX13_node_0 rfl (lv_at hl 0 rfl) ?_
  refine va_get (D := (dC, dI)) (ci := 15) (v := .ref v0_13) (C := RX13) (T := TX13) (N := 196) hx hb hts iw_X13_node_X13 hown hK hP 0 rfl rfl 13 (by decide) (hts (.fieldLink RX13 29 "LiquidTongueModel" "kind" "[I") (by decide +kernel)) (fun _ h9 => h9) hf0_13 dX13_node_1 ?_
  refine lv_aload_n hx hb dX13_node_4 rfl (lv_at hl 0 rfl) ?_
  refine va_get (D := (dC, dI)) (ci := 15) (v := .int v0_20) (C := RX13) (T := TX13) (N := 196) hx hb hts iw_X13_node_X13 hown hK hP 0 rfl rfl 20 (by decide) (hts (.fieldLink RX13 436 "LiquidTongueModel" "nodes" "I") (by decide +kernel)) (fun _ h9 => h9) hf0_20 dX13_node_5 ?_
  refine lv_iload_n hx hb dX13_node_8 rfl (lv_at hl 1 rfl) ?_
  refine va_iast hx hb hK hP hD hS 1 0 rfl rfl hi_0 dX13_node_9 (fun H locs hP hD hS => ?_)
  have hP : va_P (dC, dI) vwCl [(h0, .inr (15, fs0)), (v0_13, .inl (c_v0_13, 2100, .inl (upd f_v0_13 (v0_20).toNatClampNeg p0))), (v0_14, .inl (c_v0_14, 2100, .inl f_v0_14)), (v0_15, .inl (c_v0_15, 2100, .inl f_v0_15))] H := hP
  have hD : va_D A [(h0, .inr (15, fs0)), (v0_13, .inl (c_v0_13, 2100, .inl (upd f_v0_13 (v0_20).toNatClampNeg p0))), (v0_14, .inl (c_v0_14, 2100, .inl f_v0_14)), (v0_15, .inl (c_v0_15, 2100, .inl f_v0_15))] := hD
  refine lv_aload_n hx hb dX13_node_10 rfl (lv_at hl 0 rfl) ?_
  refine va_get (D := (dC, dI)) (ci := 15) (v := .ref v0_14) (C := RX13) (T := TX13) (N := 196) hx hb hts iw_X13_node_X13 hown hK hP 0 rfl rfl 14 (by decide) (hts (.fieldLink RX13 32 "LiquidTongueModel" "at" "[I") (by decide +kernel)) (fun _ h9 => h9) hf0_14 dX13_node_11 ?_
  refine lv_aload_n hx hb dX13_node_14 rfl (lv_at hl 0 rfl) ?_
  refine va_get (D := (dC, dI)) (ci := 15) (v := .int v0_20) (C := RX13) (T := TX13) (N := 196) hx hb hts iw_X13_node_X13 hown hK hP 0 rfl rfl 20 (by decide) (hts (.fieldLink RX13 436 "LiquidTongueModel" "nodes" "I") (by decide +kernel)) (fun _ h9 => h9) hf0_20 dX13_node_15 ?_
  refine lv_iload_n hx hb dX13_node_18 rfl (lv_at hl 2 rfl) ?_
  refine va_iast hx hb hK hP hD hS 2 1 rfl rfl hi_1 dX13_node_19 (fun H locs hP hD hS => ?_)
  have hP : va_P (dC, dI) vwCl [(h0, .inr (15, fs0)), (v0_13, .inl (c_v0_13, 2100, .inl (upd f_v0_13 (v0_20).toNatClampNeg p0))), (v0_14, .inl (c_v0_14, 2100, .inl (upd f_v0_14 (v0_20).toNatClampNeg p1))), (v0_15, .inl (c_v0_15, 2100, .inl f_v0_15))] H := hP
  have hD : va_D A [(h0, .inr (15, fs0)), (v0_13, .inl (c_v0_13, 2100, .inl (upd f_v0_13 (v0_20).toNatClampNeg p0))), (v0_14, .inl (c_v0_14, 2100, .inl (upd f_v0_14 (v0_20).toNatClampNeg p1))), (v0_15, .inl (c_v0_15, 2100, .inl f_v0_15))] := hD
  refine lv_aload_n hx hb dX13_node_20 rfl (lv_at hl 0 rfl) ?_
  refine va_get (D := (dC, dI)) (ci := 15) (v := .ref v0_15) (C := RX13) (T := TX13) (N := 196) hx hb hts iw_X13_node_X13 hown hK hP 0 rfl rfl 15 (by decide) (hts (.fieldLink RX13 35 "LiquidTongueModel" "sign" "[I") (by decide +kernel)) (fun _ h9 => h9) hf0_15 dX13_node_21 ?_
  refine lv_aload_n hx hb dX13_node_24 rfl (lv_at hl 0 rfl) ?_
  refine va_get (D := (dC, dI)) (ci := 15) (v := .int v0_20) (C := RX13) (T := TX13) (N := 196) hx hb hts iw_X13_node_X13 hown hK hP 0 rfl rfl 20 (by decide) (hts (.fieldLink RX13 436 "LiquidTongueModel" "nodes" "I") (by decide +kernel)) (fun _ h9 => h9) hf0_20 dX13_node_25 ?_
  refine lv_iload_n hx hb dX13_node_28 rfl (lv_at hl 2 rfl) ?_
  refine va_iast hx hb hK hP hD hS 3 2 rfl rfl hi_2 dX13_node_29 (fun H locs hP hD hS => ?_)
  have hP : va_P (dC, dI) vwCl [(h0, .inr (15, fs0)), (v0_13, .inl (c_v0_13, 2100, .inl (upd f_v0_13 (v0_20).toNatClampNeg p0))), (v0_14, .inl (c_v0_14, 2100, .inl (upd f_v0_14 (v0_20).toNatClampNeg p1))), (v0_15, .inl (c_v0_15, 2100, .inl (upd f_v0_15 (v0_20).toNatClampNeg p1)))] H := hP
  have hD : va_D A [(h0, .inr (15, fs0)), (v0_13, .inl (c_v0_13, 2100, .inl (upd f_v0_13 (v0_20).toNatClampNeg p0))), (v0_14, .inl (c_v0_14, 2100, .inl (upd f_v0_14 (v0_20).toNatClampNeg p1))), (v0_15, .inl (c_v0_15, 2100, .inl (upd f_v0_15 (v0_20).toNatClampNeg p1)))] := hD
  refine lv_aload_n hx hb dX13_node_30 rfl (lv_at hl 0 rfl) ?_
  refine lv_dup hx hb dX13_node_31 rfl ?_
  refine va_get (D := (dC, dI)) (ci := 15) (v := .int v0_20) (C := RX13) (T := TX13) (N := 196) hx hb hts iw_X13_node_X13 hown hK hP 0 rfl rfl 20 (by decide) (hts (.fieldLink RX13 436 "LiquidTongueModel" "nodes" "I") (by decide +kernel)) (fun _ h9 => h9) hf0_20 dX13_node_32 ?_
  refine lv_iconst (v := 1) hx hb dX13_node_35 (by decide) ?_
  refine lv_iadd hx hb dX13_node_36 ?_
  refine va_put (D := (dC, dI)) (ci := 15) (v := .int (v0_20 + 1)) (ty := .int) (C := RX13) (T := TX13) (N := 196) hx hb hts iw_X13_node_X13 tyX13 tyX13_ok nmX13 hown hK hP hD hS 0 rfl rfl 20 (by decide) (hts (.fieldLink RX13 436 "LiquidTongueModel" "nodes" "I") (by decide +kernel)) (fun _ h9 => h9) rfl (by decide +kernel) rfl rfl (zs_lt hl0 (by decide)) dX13_node_37 (fun H locs hP hD hS => ?_)
  have hP : va_P (dC, dI) vwCl [(h0, .inr (15, (fs0.set 20 (.int (v0_20 + 1))))), (v0_13, .inl (c_v0_13, 2100, .inl (upd f_v0_13 (v0_20).toNatClampNeg p0))), (v0_14, .inl (c_v0_14, 2100, .inl (upd f_v0_14 (v0_20).toNatClampNeg p1))), (v0_15, .inl (c_v0_15, 2100, .inl (upd f_v0_15 (v0_20).toNatClampNeg p1)))] H := hP
  have hD : va_D A [(h0, .inr (15, (fs0.set 20 (.int (v0_20 + 1))))), (v0_13, .inl (c_v0_13, 2100, .inl (upd f_v0_13 (v0_20).toNatClampNeg p0))), (v0_14, .inl (c_v0_14, 2100, .inl (upd f_v0_14 (v0_20).toNatClampNeg p1))), (v0_15, .inl (c_v0_15, 2100, .inl (upd f_v0_15 (v0_20).toNatClampNeg p1)))] := hD
  refine lv_aload_n hx hb dX13_node_40 rfl (lv_at hl 0 rfl) ?_
  refine va_get (D := (dC, dI)) (ci := 15) (v := .int (v0_20 + 1)) (C := RX13) (T := TX13) (N := 196) hx hb hts iw_X13_node_X13 hown hK hP 0 rfl rfl 20 (by decide) (hts (.fieldLink RX13 436 "LiquidTongueModel" "nodes" "I") (by decide +kernel)) (fun _ h9 => h9) (zs_eq (zs_lt hl0 (by decide))) dX13_node_41 ?_
  refine lv_iconst (v := 1) hx hb dX13_node_44 (by decide) ?_
  refine lv_isub hx hb dX13_node_45 ?_
  have hP9 := hP.sub (ws' := [(h0, .inr (15, (fs0.set 20 (.int (v0_20 + 1))))), (v0_13, .inl (c_v0_13, 2100, .inl (upd f_v0_13 (v0_20).toNatClampNeg p0))), (v0_14, .inl (c_v0_14, 2100, .inl (upd f_v0_14 (v0_20).toNatClampNeg p1))), (v0_15, .inl (c_v0_15, 2100, .inl (upd f_v0_15 (v0_20).toNatClampNeg p1)))]) [0, 1, 2, 3] rfl
  have hD9 := hD.sub (ws' := [(h0, .inr (15, (fs0.set 20 (.int (v0_20 + 1))))), (v0_13, .inl (c_v0_13, 2100, .inl (upd f_v0_13 (v0_20).toNatClampNeg p0))), (v0_14, .inl (c_v0_14, 2100, .inl (upd f_v0_14 (v0_20).toNatClampNeg p1))), (v0_15, .inl (c_v0_15, 2100, .inl (upd f_v0_15 (v0_20).toNatClampNeg p1)))]) [0, 1, 2, 3] (by decide) rfl
  have hK9 := hK.sub (tys' := [(c_v0_13, .int), (c_v0_14, .int), (c_v0_15, .int)]) [0, 1, 2] rfl
  exact W.iret (v := ((v0_20 + 1) - 1)) hx hb hr (fun t ht hW => ⟨⟨((v0_20 + 1) - 1), (), rfl, rfl, (zB_mk (by rw [ht]; exact hP9) (va_K.moved hW.alike hK9) hD9)⟩, hS.F ht⟩) hS.2.2 dX13_node_46
