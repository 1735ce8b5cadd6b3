theorem iw_X12_fault_X12 : ∀ w ∈ wsX120, w ∈ wsX12_fault := fun w h => List.mem_cons_of_mem _ (List.mem_append_right _ h)
set_option maxHeartbeats 4000000 in
set_option maxRecDepth 100000 in

theorem c_X12_fault_r0 (l : Launch) (dC : Nat → ClassId) (dI : Nat → Nat → Nat) (sz : Nat) (h0 : Nat) (fs0 : List Value) (p0 : Int32) (p1 : Int32) (hl0 : fs0.length = 13) : Met l yX12_fault wsX12_fault ({ frames := 0, cells := 0, slots := 0, locals := 0 }) (zPc dC dI sz [.ref h0, .int p0, .int p1] [(h0, .inr (14, fs0))] []) (va_Qi (fun (r : Int32) (_ : Unit) => r = p0) (zB dC dI (fun _ => []) (fun _ : Unit => [(h0, .inr (14, (fs0.set 5 (.int p1))))]) (va_A [(h0, .inr (14, fs0))] sz)) (va_A [(h0, .inr (14, fs0))] sz)) 0 0 (va_A [(h0, .inr (14, fs0))] sz) := by
  refine Met.ofW (cc := cX12_fault) (maxL := 3) (ret := (some .int)) (by decide) rfl ?_
  intro p e s m args below meth c s₁ B hml hv
  obtain ⟨rfl, hsz, hP, hK, hD0⟩ := hv
  have hx := B.exec
  have hb := B.bytes
  have hr := B.returns
  have hts := atoms_spec (ws := wsX12_fault) B.pre
  have hown : s.vm.findClass RX12 = some m.cls := findClass_of_methodNamed B.named
  have hlocks := B.notSynchronized
  subst hsz
  have hD := hD0.self (sz := s.heap.size)
  generalize hAe : va_A [(h0, .inr (14, fs0))] s.heap.size = A at hD ⊢
  have hA : ∀ q : Nat, s.heap.size ≤ q → A q := fun q h => by rw [← hAe]; exact Or.inr h
  have hS : va_S A s.heap s.heap [] := va_S.rf
  have hP : va_P (dC, dI) vwCl [(h0, .inr (14, fs0))] s.heap := hP
  have hl := lv_entry ([.ref h0, .int p0, .int p1]) (n := 3) (Nat.le_of_ble_eq_true rfl)
  rw [lg_entry_eq]
  generalize (lg_sl ([.ref h0, .int p0, .int p1]) ++ List.replicate (3 - (lg_sl ([.ref h0, .int p0, .int p1])).length) Slot.unset).toArray = ls at hl ⊢
  have hl : lv_has ls 3 [(0, .ref h0), (1, .int p0), (2, .int p1)] := hl
  refine lv_aload_n hx hb dX12_fault_0 rfl (lv_at hl 0 rfl) ?_
  refine lv_iload_n hx hb dX12_fault_1 rfl (lv_at hl 2 rfl) ?_
  refine va_put (D := (dC, dI)) (ci := 14) (v := .int p1) (ty := .int) (C := RX12) (T := TX12) (N := 13) hx hb hts iw_X12_fault_X12 tyX12 tyX12_ok nmX12 hown hK hP hD hS 0 rfl rfl 5 (by decide) (hts (.fieldLink RX12 13 "LiquidTongue" "place" "I") (by decide +kernel)) (fun _ h9 => h9) rfl (by decide +kernel) rfl rfl (zs_lt hl0 (by decide)) dX12_fault_2 (fun H locs hP hD hS => ?_)
  have hP : va_P (dC, dI) vwCl [(h0, .inr (14, (fs0.set 5 (.int p1))))] H := hP
  have hD : va_D A [(h0, .inr (14, (fs0.set 5 (.int p1))))] := hD
  refine lv_iload_n hx hb dX12_fault_5 rfl (lv_at hl 1 rfl) ?_
  have hP9 := hP.sub (ws' := [(h0, .inr (14, (fs0.set 5 (.int p1))))]) [0] rfl
  have hD9 := hD.sub (ws' := [(h0, .inr (14, (fs0.set 5 (.int p1))))]) [0] (by decide) rfl
  have hK9 := hK.sub (tys' := []) [] rfl
  exact W.iret (v := p0) hx hb hr (fun t ht hW => ⟨⟨p0, (), rfl, rfl, (zB_mk (by rw [ht]; exact hP9) (va_K.moved hW.alike hK9) hD9)⟩, hS.F ht⟩) hS.2.2 dX12_fault_6
theorem iw_X3_forget_X3 : ∀ w ∈ wsX30, w ∈ wsX3_forget := fun w h => List.mem_cons_of_mem _ (List.mem_append_right _ h)
set_option maxHeartbeats 4000000 in
set_option maxRecDepth 100000 in

theorem c_X3_forget_r0 (l : Launch) (dC : Nat → ClassId) (dI : Nat → Nat → Nat) (sz : Nat) (h0 : Nat) (fs0 : List Value) (hl0 : fs0.length = 18) : Met l yX3_forget wsX3_forget ({ frames := 0, cells := 0, slots := 0, locals := 0 }) (zPc dC dI sz [.ref h0] [(h0, .inr (5, fs0))] []) (va_Qv (fun _ : Unit => True) (zB dC dI (fun _ => []) (fun _ : Unit => [(h0, .inr (5, ((fs0.set 0 (.null)).set 16 (.long 0))))]) (va_A [(h0, .inr (5, fs0))] sz)) (va_A [(h0, .inr (5, fs0))] sz)) 0 0 (va_A [(h0, .inr (5, fs0))] sz) := by
  refine Met.ofW (cc := cX3_forget) (maxL := 1) (ret := none) (by decide) rfl ?_
  intro p e s m args below meth c s₁ B hml hv
  obtain ⟨rfl, hsz, hP, hK, hD0⟩ := hv
  have hx := B.exec
  have hb := B.bytes
  have hr := B.returns
  have hts := atoms_spec (ws := wsX3_forget) B.pre
  have hown : s.vm.findClass RX3 = some m.cls := findClass_of_methodNamed B.named
  have hlocks := B.notSynchronized
  subst hsz
  have hD := hD0.self (sz := s.heap.size)
  generalize hAe : va_A [(h0, .inr (5, fs0))] s.heap.size = A at hD ⊢
  have hA : ∀ q : Nat, s.heap.size ≤ q → A q := fun q h => by rw [← hAe]; exact Or.inr h
  have hS : va_S A s.heap s.heap [] := va_S.rf
  have hP : va_P (dC, dI) vwCl [(h0, .inr (5, fs0))] s.heap := hP
  have hl := lv_entry ([.ref h0]) (n := 1) (Nat.le_of_ble_eq_true rfl)
  rw [lg_entry_eq]
  generalize (lg_sl ([.ref h0]) ++ List.replicate (1 - (lg_sl ([.ref h0])).length) Slot.unset).toArray = ls at hl ⊢
  have hl : lv_has ls 1 [(0, .ref h0)] := hl
  refine lv_aload_n hx hb dX3_forget_0 rfl (lv_at hl 0 rfl) ?_
  refine lv_null hx hb dX3_forget_1 ?_
  refine va_put (D := (dC, dI)) (ci := 5) (v := .null) (ty := .object "LiquidTongue$Parser") (C := RX3) (T := TX3) (N := 18) hx hb hts iw_X3_forget_X3 tyX3 tyX3_ok nmX3 hown hK hP hD hS 0 rfl rfl 0 (by decide) (hts (.fieldLink RX3 36 "LiquidTongue$Machine" "program" "LLiquidTongue$Parser;") (by decide +kernel)) (fun _ h9 => h9) rfl (by decide +kernel) rfl rfl (zs_lt hl0 (by decide)) dX3_forget_2 (fun H locs hP hD hS => ?_)
  have hP : va_P (dC, dI) vwCl [(h0, .inr (5, (fs0.set 0 (.null))))] H := hP
  have hD : va_D A [(h0, .inr (5, (fs0.set 0 (.null))))] := hD
  refine lv_aload_n hx hb dX3_forget_5 rfl (lv_at hl 0 rfl) ?_
  refine lv_lconst (v := 0) hx hb dX3_forget_6 (by decide) ?_
  refine va_put (D := (dC, dI)) (ci := 5) (v := .long 0) (ty := .long) (C := RX3) (T := TX3) (N := 18) hx hb hts iw_X3_forget_X3 tyX3 tyX3_ok nmX3 hown hK hP hD hS 0 rfl rfl 16 (by decide) (hts (.fieldLink RX3 40 "LiquidTongue$Machine" "gave" "J") (by decide +kernel)) (fun _ h9 => h9) rfl (by decide +kernel) rfl rfl (zs_lt (zs_len hl0) (by decide)) dX3_forget_7 (fun H locs hP hD hS => ?_)
  have hP : va_P (dC, dI) vwCl [(h0, .inr (5, ((fs0.set 0 (.null)).set 16 (.long 0))))] H := hP
  have hD : va_D A [(h0, .inr (5, ((fs0.set 0 (.null)).set 16 (.long 0))))] := hD
  have hP9 := hP.sub (ws' := [(h0, .inr (5, ((fs0.set 0 (.null)).set 16 (.long 0))))]) [0] rfl
  have hD9 := hD.sub (ws' := [(h0, .inr (5, ((fs0.set 0 (.null)).set 16 (.long 0))))]) [0] (by decide) rfl
  have hK9 := hK.sub (tys' := []) [] rfl
  exact W.vret hx hb hr (fun t ht hW => ⟨⟨(), rfl, trivial, (zB_mk (by rw [ht]; exact hP9) (va_K.moved hW.alike hK9) hD9)⟩, hS.F ht⟩) hS.2.2 dX3_forget_10
theorem iw_X5_init_X5 : ∀ w ∈ wsX50, w ∈ wsX5_init := fun w h => List.mem_cons_of_mem _ (List.mem_append_right _ h)
set_option maxHeartbeats 4000000 in
set_option maxRecDepth 100000 in

theorem c_X5_init_r0 (l : Launch) (dC : Nat → ClassId) (dI : Nat → Nat → Nat) (sz : Nat) (h0 : Nat) (fs0 : List Value) (p0 : Int32) (p1 : Int32) (p2 : Int32) (hl0 : fs0.length = 21) : Met l yX5_init wsX5_init ({ frames := 1, cells := 0, slots := 0, locals := 12 }) (zPc dC dI sz [.ref h0, .int p0, .int p1, .int p2] [(h0, .inr (7, fs0))] []) (va_Qv (fun _ : Unit => True) (zB dC dI (fun _ => []) (fun _ : Unit => [(h0, .inr (7, ((((fs0.set 0 (.int p0)).set 1 (.int p1)).set 2 (.int p2)).set 3 (.int p1))))]) (va_A [(h0, .inr (7, fs0))] sz)) (va_A [(h0, .inr (7, fs0))] sz)) 0 0 (va_A [(h0, .inr (7, fs0))] sz) := by
  refine Met.ofW (cc := cX5_init) (maxL := 4) (ret := none) (by decide) rfl ?_
  intro p e s m args below meth c s₁ B hml hv
  obtain ⟨rfl, hsz, hP, hK, hD0⟩ := hv
  have hx := B.exec
  have hb := B.bytes
  have hr := B.returns
  have hts := atoms_spec (ws := wsX5_init) B.pre
  have hown : s.vm.findClass RX5 = some m.cls := findClass_of_methodNamed B.named
  have hlocks := B.notSynchronized
  have hin : meth.name = "<init>" := (name_of_methodNamed B.named B.method).1
  subst hsz
  have hD := hD0.self (sz := s.heap.size)
  generalize hAe : va_A [(h0, .inr (7, fs0))] s.heap.size = A at hD ⊢
  have hA : ∀ q : Nat, s.heap.size ≤ q → A q := fun q h => by rw [← hAe]; exact Or.inr h
  have hS : va_S A s.heap s.heap [] := va_S.rf
  have hP : va_P (dC, dI) vwCl [(h0, .inr (7, fs0))] s.heap := hP
  have hl := lv_entry ([.ref h0, .int p0, .int p1, .int p2]) (n := 4) (Nat.le_of_ble_eq_true rfl)
  rw [lg_entry_eq]
  generalize (lg_sl ([.ref h0, .int p0, .int p1, .int p2]) ++ List.replicate (4 - (lg_sl ([.ref h0, .int p0, .int p1, .int p2])).length) Slot.unset).toArray = ls at hl ⊢
  have hl : lv_has ls 4 [(0, .ref h0), (1, .int p0), (2, .int p1), (3, .int p2)] := hl
  refine lv_aload_n hx hb dX5_init_0 rfl (lv_at hl 0 rfl) ?_
  refine W.objInit hx hb hown (hts (.methodLink RX5 1 objectInit) (by decide +kernel)) (hts (.instanceMethod objectInit) (by decide +kernel)) (hts (.code objectInit ⟨#[0xb1]⟩ 1 none) (by decide +kernel)) rfl (by rw [hml]; exact hl.1) rfl dX5_init_1 (Nat.le_of_ble_eq_true rfl) (Nat.le_of_ble_eq_true rfl) ?_
  refine W.eq (g2 := F0 m 4 ls []) rfl ?_
  refine lv_aload_n hx hb dX5_init_4 rfl (lv_at hl 0 rfl) ?_
  refine lv_iload_n hx hb dX5_init_5 rfl (lv_at hl 1 rfl) ?_
  refine va_put (D := (dC, dI)) (ci := 7) (v := .int p0) (ty := .int) (C := RX5) (T := TX5) (N := 21) hx hb hts iw_X5_init_X5 tyX5 tyX5_ok nmX5 hown hK hP hD hS 0 rfl rfl 0 (by decide) (hts (.fieldLink RX5 7 "LiquidTongue$Node" "kind" "I") (by decide +kernel)) (fun _ h9 => h9) rfl (by decide +kernel) rfl rfl (zs_lt hl0 (by decide)) dX5_init_6 (fun H locs hP hD hS => ?_)
  have hP : va_P (dC, dI) vwCl [(h0, .inr (7, (fs0.set 0 (.int p0))))] H := hP
  have hD : va_D A [(h0, .inr (7, (fs0.set 0 (.int p0))))] := hD
  refine lv_aload_n hx hb dX5_init_9 rfl (lv_at hl 0 rfl) ?_
  refine lv_iload_n hx hb dX5_init_10 rfl (lv_at hl 2 rfl) ?_
  refine va_put (D := (dC, dI)) (ci := 7) (v := .int p1) (ty := .int) (C := RX5) (T := TX5) (N := 21) hx hb hts iw_X5_init_X5 tyX5 tyX5_ok nmX5 hown hK hP hD hS 0 rfl rfl 1 (by decide) (hts (.fieldLink RX5 13 "LiquidTongue$Node" "place" "I") (by decide +kernel)) (fun _ h9 => h9) rfl (by decide +kernel) rfl rfl (zs_lt (zs_len hl0) (by decide)) dX5_init_11 (fun H locs hP hD hS => ?_)
  have hP : va_P (dC, dI) vwCl [(h0, .inr (7, ((fs0.set 0 (.int p0)).set 1 (.int p1))))] H := hP
  have hD : va_D A [(h0, .inr (7, ((fs0.set 0 (.int p0)).set 1 (.int p1))))] := hD
  refine lv_aload_n hx hb dX5_init_14 rfl (lv_at hl 0 rfl) ?_
  refine lv_iload_n hx hb dX5_init_15 rfl (lv_at hl 3 rfl) ?_
  refine va_putF (D := (dC, dI)) (ci := 7) (v := .int p2) (ty := .int) (C := RX5) (T := TX5) (N := 21) hx hb hts iw_X5_init_X5 tyX5 tyX5_ok nmX5 hown hK hP hD hS 0 rfl rfl 2 (by decide) (hts (.fieldLink RX5 16 "LiquidTongue$Node" "counted" "I") (by decide +kernel)) (fun _ h9 => h9) rfl hin rfl (by decide +kernel) rfl rfl (zs_lt (zs_len (zs_len hl0)) (by decide)) dX5_init_16 (fun H locs hP hD hS => ?_)
  have hP : va_P (dC, dI) vwCl [(h0, .inr (7, (((fs0.set 0 (.int p0)).set 1 (.int p1)).set 2 (.int p2))))] H := hP
  have hD : va_D A [(h0, .inr (7, (((fs0.set 0 (.int p0)).set 1 (.int p1)).set 2 (.int p2))))] := hD
  refine lv_aload_n hx hb dX5_init_19 rfl (lv_at hl 0 rfl) ?_
  refine lv_iload_n hx hb dX5_init_20 rfl (lv_at hl 2 rfl) ?_
  refine va_put (D := (dC, dI)) (ci := 7) (v := .int p1) (ty := .int) (C := RX5) (T := TX5) (N := 21) hx hb hts iw_X5_init_X5 tyX5 tyX5_ok nmX5 hown hK hP hD hS 0 rfl rfl 3 (by decide) (hts (.fieldLink RX5 19 "LiquidTongue$Node" "mark" "I") (by decide +kernel)) (fun _ h9 => h9) rfl (by decide +kernel) rfl rfl (zs_lt (zs_len (zs_len (zs_len hl0))) (by decide)) dX5_init_21 (fun H locs hP hD hS => ?_)
  have hP : va_P (dC, dI) vwCl [(h0, .inr (7, ((((fs0.set 0 (.int p0)).set 1 (.int p1)).set 2 (.int p2)).set 3 (.int p1))))] H := hP
  have hD : va_D A [(h0, .inr (7, ((((fs0.set 0 (.int p0)).set 1 (.int p1)).set 2 (.int p2)).set 3 (.int p1))))] := hD
  have hP9 := hP.sub (ws' := [(h0, .inr (7, ((((fs0.set 0 (.int p0)).set 1 (.int p1)).set 2 (.int p2)).set 3 (.int p1))))]) [0] rfl
  have hD9 := hD.sub (ws' := [(h0, .inr (7, ((((fs0.set 0 (.int p0)).set 1 (.int p1)).set 2 (.int p2)).set 3 (.int p1))))]) [0] (by decide) rfl
  have hK9 := hK.sub (tys' := []) [] rfl
  exact W.vret hx hb hr (fun t ht hW => ⟨⟨(), rfl, trivial, (zB_mk (by rw [ht]; exact hP9) (va_K.moved hW.alike hK9) hD9)⟩, hS.F ht⟩) hS.2.2 dX5_init_24
set_option maxHeartbeats 4000000 in
set_option maxRecDepth 100000 in

theorem c_X7_beginsArgument_r4 (l : Launch) (dC : Nat → ClassId) (dI : Nat → Nat → Nat) (sz : Nat) (p0 : Int32) (hc_0 : ¬ p0 = 2) (hc_1 : ¬ p0 = 1) (hc_2 : ¬ p0 = 40) (hc_3 : ¬ p0 = 223) (hc_4 : ¬ p0 = 205) : Met l yX7_beginsArgument wsX7_beginsArgument ({ frames := 0, cells := 0, slots := 0, locals := 0 }) (zPc dC dI sz [.int p0] [] []) (va_Qi (fun (r : Int32) (_ : Unit) => r = 0) (zB dC dI (fun _ => []) (fun _ : Unit => []) (va_A [] sz)) (va_A [] sz)) 0 0 (va_A [] sz) := by
  refine Met.ofW (cc := cX7_beginsArgument) (maxL := 1) (ret := (some .boolean)) (by decide) rfl ?_
  intro p e s m args below meth c s₁ B hml hv
  obtain ⟨rfl, hsz, hP, hK, hD0⟩ := hv
  have hx := B.exec
  have hb := B.bytes
  have hr := B.returns
  have hts := atoms_spec (ws := wsX7_beginsArgument) B.pre
  have hown : s.vm.findClass RX7 = some m.cls := findClass_of_methodNamed B.named
  have hlocks := B.notSynchronized
  subst hsz
  have hD := hD0.self (sz := s.heap.size)
  generalize hAe : va_A [] s.heap.size = A at hD ⊢
  have hA : ∀ q : Nat, s.heap.size ≤ q → A q := fun q h => by rw [← hAe]; exact Or.inr h
  have hS : va_S A s.heap s.heap [] := va_S.rf
  have hP : va_P (dC, dI) vwCl [] s.heap := hP
  have hl := lv_entry ([.int p0]) (n := 1) (Nat.le_of_ble_eq_true rfl)
  rw [lg_entry_eq]
  generalize (lg_sl ([.int p0]) ++ List.replicate (1 - (lg_sl ([.int p0])).length) Slot.unset).toArray = ls at hl ⊢
  have hl : lv_has ls 1 [(0, .int p0)] := hl
  refine lv_iload_n hx hb dX7_beginsArgument_0 rfl (lv_at hl 0 rfl) ?_
  refine lv_iconst (v := 2) hx hb dX7_beginsArgument_1 (by decide) ?_
  refine lv_icmp_eq (tgt := 30) hx hb dX7_beginsArgument_2 (by decide) (fun c_1 => absurd c_1 hc_0) (fun c_1 => ?_)
  refine lv_iload_n hx hb dX7_beginsArgument_5 rfl (lv_at hl 0 rfl) ?_
  refine lv_iconst (v := 1) hx hb dX7_beginsArgument_6 (by decide) ?_
  refine lv_icmp_eq (tgt := 30) hx hb dX7_beginsArgument_7 (by decide) (fun c_2 => absurd c_2 hc_1) (fun c_2 => ?_)
  refine lv_iload_n hx hb dX7_beginsArgument_10 rfl (lv_at hl 0 rfl) ?_
  refine lv_bipush (v := 40) hx hb dX7_beginsArgument_11 (by decide) ?_
  refine lv_icmp_eq (tgt := 30) hx hb dX7_beginsArgument_13 (by decide) (fun c_3 => absurd c_3 hc_2) (fun c_3 => ?_)
  refine lv_iload_n hx hb dX7_beginsArgument_16 rfl (lv_at hl 0 rfl) ?_
  refine lv_sipush (v := 223) hx hb dX7_beginsArgument_17 (by decide) ?_
  refine lv_icmp_eq (tgt := 30) hx hb dX7_beginsArgument_20 (by decide) (fun c_4 => absurd c_4 hc_3) (fun c_4 => ?_)
  refine lv_iload_n hx hb dX7_beginsArgument_23 rfl (lv_at hl 0 rfl) ?_
  refine lv_sipush (v := 205) hx hb dX7_beginsArgument_24 (by decide) ?_
  refine lv_icmp_ne (tgt := 34) hx hb dX7_beginsArgument_27 (by decide) (fun c_5 => ?_) (fun c_5 => absurd c_5 hc_4)
  refine lv_iconst (v := 0) hx hb dX7_beginsArgument_34 (by decide) ?_
  have hP9 := hP.sub (ws' := []) [] rfl
  have hD9 := hD.sub (ws' := []) [] (by decide) rfl
  have hK9 := hK.sub (tys' := []) [] rfl
  exact W.zret (v := 0) hx hb hr (by first | rfl | decide) (fun t ht hW => ⟨⟨0, (), rfl, rfl, (zB_mk (by rw [ht]; exact hP9) (va_K.moved hW.alike hK9) hD9)⟩, hS.F ht⟩) hS.2.2 dX7_beginsArgument_35
theorem iw_X7_here_X7 : ∀ w ∈ wsX70, w ∈ wsX7_here := fun w h => List.mem_cons_of_mem _ (List.mem_append_left _ (List.mem_append_right _ h))
theorem iw_X7_here_X11 : ∀ w ∈ wsX110, w ∈ wsX7_here := fun w h => List.mem_cons_of_mem _ (List.mem_append_right _ h)
set_option maxHeartbeats 4000000 in
set_option maxRecDepth 100000 in

theorem c_X7_here_r0 (l : Launch) (dC : Nat → ClassId) (dI : Nat → Nat → Nat) (sz : Nat) (h0 : Nat) (fs0 : List Value) (v0_0 : Nat) (fs1 : List Value) (v1_2 : Nat) (v0_11 : Int32) (n_v1_2 : Nat) (c_v1_2 : ClassId) (f_v1_2 : Nat → Int32) (hl0 : fs0.length = 18) (hf0_0 : fs0[0]? = some (.ref v0_0)) (hl1 : fs1.length = 6) (hf1_2 : fs1[2]? = some (.ref v1_2)) (hf0_11 : fs0[11]? = some (.int v0_11)) (hi_0 : vp_in v0_11 n_v1_2) : Met l yX7_here wsX7_here ({ frames := 0, cells := 0, slots := 0, locals := 0 }) (zPc dC dI sz [.ref h0] [(h0, .inr (9, fs0)), (v0_0, .inr (13, fs1)), (v1_2, .inl (c_v1_2, n_v1_2, .inl f_v1_2))] [(c_v1_2, .int)]) (va_Qi (fun (r : Int32) (_ : Unit) => r = (f_v1_2 (v0_11).toNatClampNeg)) (zB dC dI (fun _ => [(c_v1_2, .int)]) (fun _ : Unit => [(h0, .inr (9, fs0)), (v0_0, .inr (13, fs1)), (v1_2, .inl (c_v1_2, n_v1_2, .inl f_v1_2))]) (va_A [(h0, .inr (9, fs0)), (v0_0, .inr (13, fs1)), (v1_2, .inl (c_v1_2, n_v1_2, .inl f_v1_2))] sz)) (va_A [(h0, .inr (9, fs0)), (v0_0, .inr (13, fs1)), (v1_2, .inl (c_v1_2, n_v1_2, .inl f_v1_2))] sz)) 0 0 (va_A [(h0, .inr (9, fs0)), (v0_0, .inr (13, fs1)), (v1_2, .inl (c_v1_2, n_v1_2, .inl f_v1_2))] sz) := by
  refine Met.ofW (cc := cX7_here) (maxL := 1) (ret := (some .int)) (by decide) rfl ?_
  intro p e s m args below meth c s₁ B hml hv
  obtain ⟨rfl, hsz, hP, hK, hD0⟩ := hv
  have hx := B.exec
  have hb := B.bytes
  have hr := B.returns
  have hts := atoms_spec (ws := wsX7_here) B.pre
  have hown : s.vm.findClass RX7 = some m.cls := findClass_of_methodNamed B.named
  have hlocks := B.notSynchronized
  subst hsz
  have hD := hD0.self (sz := s.heap.size)
  generalize hAe : va_A [(h0, .inr (9, fs0)), (v0_0, .inr (13, fs1)), (v1_2, .inl (c_v1_2, n_v1_2, .inl f_v1_2))] s.heap.size = A at hD ⊢
  have hA : ∀ q : Nat, s.heap.size ≤ q → A q := fun q h => by rw [← hAe]; exact Or.inr h
  have hS : va_S A s.heap s.heap [] := va_S.rf
  have hP : va_P (dC, dI) vwCl [(h0, .inr (9, fs0)), (v0_0, .inr (13, fs1)), (v1_2, .inl (c_v1_2, n_v1_2, .inl f_v1_2))] s.heap := hP
  have hl := lv_entry ([.ref h0]) (n := 1) (Nat.le_of_ble_eq_true rfl)
  rw [lg_entry_eq]
  generalize (lg_sl ([.ref h0]) ++ List.replicate (1 - (lg_sl ([.ref h0])).length) Slot.unset).toArray = ls at hl ⊢
  have hl : lv_has ls 1 [(0, .ref h0)] := hl
  refine lv_aload_n hx hb dX7_here_0 rfl (lv_at hl 0 rfl) ?_
  refine va_get (D := (dC, dI)) (ci := 9) (v := .ref v0_0) (C := RX7) (T := TX7) (N := 18) hx hb hts iw_X7_here_X7 hown hK hP 0 rfl rfl 0 (by decide) (hts (.fieldLink RX7 50 "LiquidTongue$Parser" "words" "LLiquidTongue$Words;") (by decide +kernel)) (fun _ h9 => h9) hf0_0 dX7_here_1 ?_
  refine va_get (D := (dC, dI)) (ci := 13) (v := .ref v1_2) (C := RX11) (T := TX11) (N := 6) hx hb hts iw_X7_here_X11 hown hK hP 1 rfl rfl 2 (by decide) (hts (.fieldLink RX7 89 "LiquidTongue$Words" "places" "[I") (by decide +kernel)) (fun _ h9 => h9) hf1_2 dX7_here_4 ?_
  refine lv_aload_n hx hb dX7_here_7 rfl (lv_at hl 0 rfl) ?_
  refine va_get (D := (dC, dI)) (ci := 9) (v := .int v0_11) (C := RX7) (T := TX7) (N := 18) hx hb hts iw_X7_here_X7 hown hK hP 0 rfl rfl 11 (by decide) (hts (.fieldLink RX7 86 "LiquidTongue$Parser" "at" "I") (by decide +kernel)) (fun _ h9 => h9) hf0_11 dX7_here_8 ?_
  refine va_iald hx hb hK hP 2 0 rfl rfl hi_0 dX7_here_11 ?_
  have hP9 := hP.sub (ws' := [(h0, .inr (9, fs0)), (v0_0, .inr (13, fs1)), (v1_2, .inl (c_v1_2, n_v1_2, .inl f_v1_2))]) [0, 1, 2] rfl
  have hD9 := hD.sub (ws' := [(h0, .inr (9, fs0)), (v0_0, .inr (13, fs1)), (v1_2, .inl (c_v1_2, n_v1_2, .inl f_v1_2))]) [0, 1, 2] (by decide) rfl
  have hK9 := hK.sub (tys' := [(c_v1_2, .int)]) [0] rfl
  exact W.iret (v := (f_v1_2 (v0_11).toNatClampNeg)) hx hb hr (fun t ht hW => ⟨⟨(f_v1_2 (v0_11).toNatClampNeg), (), rfl, rfl, (zB_mk (by rw [ht]; exact hP9) (va_K.moved hW.alike hK9) hD9)⟩, hS.F ht⟩) hS.2.2 dX7_here_12
theorem iw_X7_kind_X7 : ∀ w ∈ wsX70, w ∈ wsX7_kind := fun w h => List.mem_cons_of_mem _ (List.mem_append_left _ (List.mem_append_right _ h))
theorem iw_X7_kind_X11 : ∀ w ∈ wsX110, w ∈ wsX7_kind := fun w h => List.mem_cons_of_mem _ (List.mem_append_right _ h)
set_option maxHeartbeats 4000000 in
set_option maxRecDepth 100000 in

theorem c_X7_kind_r0 (l : Launch) (dC : Nat → ClassId) (dI : Nat → Nat → Nat) (sz : Nat) (h0 : Nat) (fs0 : List Value) (v0_15 : Int32) (v0_0 : Nat) (fs1 : List Value) (v1_1 : Nat) (v0_11 : Int32) (n_v1_1 : Nat) (c_v1_1 : ClassId) (f_v1_1 : Nat → Int32) (hl0 : fs0.length = 18) (hf0_15 : fs0[15]? = some (.int v0_15)) (hf0_0 : fs0[0]? = some (.ref v0_0)) (hl1 : fs1.length = 6) (hf1_1 : fs1[1]? = some (.ref v1_1)) (hf0_11 : fs0[11]? = some (.int v0_11)) (hi_0 : vp_in v0_11 n_v1_1) (hc_0 : v0_15 < 0) : Met l yX7_kind wsX7_kind ({ frames := 0, cells := 0, slots := 0, locals := 0 }) (zPc dC dI sz [.ref h0] [(h0, .inr (9, fs0)), (v0_0, .inr (13, fs1)), (v1_1, .inl (c_v1_1, n_v1_1, .inl f_v1_1))] [(c_v1_1, .int)]) (va_Qi (fun (r : Int32) (_ : Unit) => r = (f_v1_1 (v0_11).toNatClampNeg)) (zB dC dI (fun _ => [(c_v1_1, .int)]) (fun _ : Unit => [(h0, .inr (9, fs0)), (v0_0, .inr (13, fs1)), (v1_1, .inl (c_v1_1, n_v1_1, .inl f_v1_1))]) (va_A [(h0, .inr (9, fs0)), (v0_0, .inr (13, fs1)), (v1_1, .inl (c_v1_1, n_v1_1, .inl f_v1_1))] sz)) (va_A [(h0, .inr (9, fs0)), (v0_0, .inr (13, fs1)), (v1_1, .inl (c_v1_1, n_v1_1, .inl f_v1_1))] sz)) 0 0 (va_A [(h0, .inr (9, fs0)), (v0_0, .inr (13, fs1)), (v1_1, .inl (c_v1_1, n_v1_1, .inl f_v1_1))] sz) := by
  refine Met.ofW (cc := cX7_kind) (maxL := 1) (ret := (some .int)) (by decide) rfl ?_
  intro p e s m args below meth c s₁ B hml hv
  obtain ⟨rfl, hsz, hP, hK, hD0⟩ := hv
  have hx := B.exec
  have hb := B.bytes
  have hr := B.returns
  have hts := atoms_spec (ws := wsX7_kind) B.pre
  have hown : s.vm.findClass RX7 = some m.cls := findClass_of_methodNamed B.named
  have hlocks := B.notSynchronized
  subst hsz
  have hD := hD0.self (sz := s.heap.size)
  generalize hAe : va_A [(h0, .inr (9, fs0)), (v0_0, .inr (13, fs1)), (v1_1, .inl (c_v1_1, n_v1_1, .inl f_v1_1))] s.heap.size = A at hD ⊢
  have hA : ∀ q : Nat, s.heap.size ≤ q → A q := fun q h => by rw [← hAe]; exact Or.inr h
  have hS : va_S A s.heap s.heap [] := va_S.rf
  have hP : va_P (dC, dI) vwCl [(h0, .inr (9, fs0)), (v0_0, .inr (13, fs1)), (v1_1, .inl (c_v1_1, n_v1_1, .inl f_v1_1))] s.heap := hP
  have hl := lv_entry ([.ref h0]) (n := 1) (Nat.le_of_ble_eq_true rfl)
  rw [lg_entry_eq]
  generalize (lg_sl ([.ref h0]) ++ List.replicate (1 - (lg_sl ([.ref h0])).length) Slot.unset).toArray = ls at hl ⊢
  have hl : lv_has ls 1 [(0, .ref h0)] := hl
  refine lv_aload_n hx hb dX7_kind_0 rfl (lv_at hl 0 rfl) ?_
  refine va_get (D := (dC, dI)) (ci := 9) (v := .int v0_15) (C := RX7) (T := TX7) (N := 18) hx hb hts iw_X7_kind_X7 hown hK hP 0 rfl rfl 15 (by decide) (hts (.fieldLink RX7 40 "LiquidTongue$Parser" "fault" "I") (by decide +kernel)) (fun _ h9 => h9) hf0_15 dX7_kind_1 ?_
  refine lv_if_lt (tgt := 11) hx hb dX7_kind_4 (by decide) (fun c_1 => ?_) (fun c_1 => absurd hc_0 c_1)
  refine lv_aload_n hx hb dX7_kind_11 rfl (lv_at hl 0 rfl) ?_
  refine va_get (D := (dC, dI)) (ci := 9) (v := .ref v0_0) (C := RX7) (T := TX7) (N := 18) hx hb hts iw_X7_kind_X7 hown hK hP 0 rfl rfl 0 (by decide) (hts (.fieldLink RX7 50 "LiquidTongue$Parser" "words" "LLiquidTongue$Words;") (by decide +kernel)) (fun _ h9 => h9) hf0_0 dX7_kind_12 ?_
  refine va_get (D := (dC, dI)) (ci := 13) (v := .ref v1_1) (C := RX11) (T := TX11) (N := 6) hx hb hts iw_X7_kind_X11 hown hK hP 1 rfl rfl 1 (by decide) (hts (.fieldLink RX7 81 "LiquidTongue$Words" "kinds" "[I") (by decide +kernel)) (fun _ h9 => h9) hf1_1 dX7_kind_15 ?_
  refine lv_aload_n hx hb dX7_kind_18 rfl (lv_at hl 0 rfl) ?_
  refine va_get (D := (dC, dI)) (ci := 9) (v := .int v0_11) (C := RX7) (T := TX7) (N := 18) hx hb hts iw_X7_kind_X7 hown hK hP 0 rfl rfl 11 (by decide) (hts (.fieldLink RX7 86 "LiquidTongue$Parser" "at" "I") (by decide +kernel)) (fun _ h9 => h9) hf0_11 dX7_kind_19 ?_
  refine va_iald hx hb hK hP 2 0 rfl rfl hi_0 dX7_kind_22 ?_
  have hP9 := hP.sub (ws' := [(h0, .inr (9, fs0)), (v0_0, .inr (13, fs1)), (v1_1, .inl (c_v1_1, n_v1_1, .inl f_v1_1))]) [0, 1, 2] rfl
  have hD9 := hD.sub (ws' := [(h0, .inr (9, fs0)), (v0_0, .inr (13, fs1)), (v1_1, .inl (c_v1_1, n_v1_1, .inl f_v1_1))]) [0, 1, 2] (by decide) rfl
  have hK9 := hK.sub (tys' := [(c_v1_1, .int)]) [0] rfl
  exact W.iret (v := (f_v1_1 (v0_11).toNatClampNeg)) hx hb hr (fun t ht hW => ⟨⟨(f_v1_1 (v0_11).toNatClampNeg), (), rfl, rfl, (zB_mk (by rw [ht]; exact hP9) (va_K.moved hW.alike hK9) hD9)⟩, hS.F ht⟩) hS.2.2 dX7_kind_23
set_option maxHeartbeats 4000000 in
set_option maxRecDepth 100000 in

theorem c_X7_kind_r1 (l : Launch) (dC : Nat → ClassId) (dI : Nat → Nat → Nat) (sz : Nat) (h0 : Nat) (fs0 : List Value) (v0_15 : Int32) (hl0 : fs0.length = 18) (hf0_15 : fs0[15]? = some (.int v0_15)) (hc_0 : ¬ v0_15 < 0) : Met l yX7_kind wsX7_kind ({ frames := 0, cells := 0, slots := 0, locals := 0 }) (zPc dC dI sz [.ref h0] [(h0, .inr (9, fs0))] []) (va_Qi (fun (r : Int32) (_ : Unit) => r = 0) (zB dC dI (fun _ => []) (fun _ : Unit => [(h0, .inr (9, fs0))]) (va_A [(h0, .inr (9, fs0))] sz)) (va_A [(h0, .inr (9, fs0))] sz)) 0 0 (va_A [(h0, .inr (9, fs0))] sz) := by
  refine Met.ofW (cc := cX7_kind) (maxL := 1) (ret := (some .int)) (by decide) rfl ?_
  intro p e s m args below meth c s₁ B hml hv
  obtain ⟨rfl, hsz, hP, hK, hD0⟩ := hv
  have hx := B.exec
  have hb := B.bytes
  have hr := B.returns
  have hts := atoms_spec (ws := wsX7_kind) B.pre
  have hown : s.vm.findClass RX7 = some m.cls := findClass_of_methodNamed B.named
  have hlocks := B.notSynchronized
  subst hsz
  have hD := hD0.self (sz := s.heap.size)
  generalize hAe : va_A [(h0, .inr (9, fs0))] s.heap.size = A at hD ⊢
  have hA : ∀ q : Nat, s.heap.size ≤ q → A q := fun q h => by rw [← hAe]; exact Or.inr h
  have hS : va_S A s.heap s.heap [] := va_S.rf
  have hP : va_P (dC, dI) vwCl [(h0, .inr (9, fs0))] s.heap := hP
  have hl := lv_entry ([.ref h0]) (n := 1) (Nat.le_of_ble_eq_true rfl)
  rw [lg_entry_eq]
  generalize (lg_sl ([.ref h0]) ++ List.replicate (1 - (lg_sl ([.ref h0])).length) Slot.unset).toArray = ls at hl ⊢
  have hl : lv_has ls 1 [(0, .ref h0)] := hl
  refine lv_aload_n hx hb dX7_kind_0 rfl (lv_at hl 0 rfl) ?_
  refine va_get (D := (dC, dI)) (ci := 9) (v := .int v0_15) (C := RX7) (T := TX7) (N := 18) hx hb hts iw_X7_kind_X7 hown hK hP 0 rfl rfl 15 (by decide) (hts (.fieldLink RX7 40 "LiquidTongue$Parser" "fault" "I") (by decide +kernel)) (fun _ h9 => h9) hf0_15 dX7_kind_1 ?_
  refine lv_if_lt (tgt := 11) hx hb dX7_kind_4 (by decide) (fun c_1 => absurd c_1 hc_0) (fun c_1 => ?_)
  refine lv_iconst (v := 0) hx hb dX7_kind_7 (by decide) ?_
  refine lv_goto (tgt := 23) hx hb dX7_kind_8 (by decide) ?_
  have hP9 := hP.sub (ws' := [(h0, .inr (9, fs0))]) [0] rfl
  have hD9 := hD.sub (ws' := [(h0, .inr (9, fs0))]) [0] (by decide) rfl
  have hK9 := hK.sub (tys' := []) [] rfl
  exact W.iret (v := 0) hx hb hr (fun t ht hW => ⟨⟨0, (), rfl, rfl, (zB_mk (by rw [ht]; exact hP9) (va_K.moved hW.alike hK9) hD9)⟩, hS.F ht⟩) hS.2.2 dX7_kind_23
