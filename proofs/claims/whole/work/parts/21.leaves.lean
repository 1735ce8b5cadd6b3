/-! further leaf methods, a road each (wip/auto.py) -/
set_option maxHeartbeats 4000000 in
set_option maxRecDepth 100000 in
/-- X10_basic, a road -/
theorem c_X10_basic_r0 (l : Launch) (dC : Nat → ClassId) (dI : Nat → Nat → Nat) (sz : Nat) (p0 : Int32) (hc_0 : ¬ p0 = 202) (hc_1 : ¬ p0 = 200) (hc_2 : ¬ p0 = 213) : Met l yX10_basic wsX10_basic ({ frames := 0, cells := 0, slots := 0, locals := 0 }) (zPc dC dI sz [.int p0] [] []) (va_Qi (fun (r : Int32) (_ : Unit) => r = 0) (zB dC dI (fun _ => []) (fun _ : Unit => []) (va_A [] sz)) (va_A [] sz)) 0 0 (va_A [] sz) := by
  refine Met.ofW (cc := cX10_basic) (maxL := 1) (ret := (some .int)) (by decide) rfl ?_
  intro p e s m args below meth c s₁ B hml hv
  obtain ⟨rfl, hsz, hP, hK, hD0⟩ := hv
  have hx := B.exec
  have hb := B.bytes
  have hr := B.returns
  have hts := atoms_spec (ws := wsX10_basic) B.pre
  have hown : s.vm.findClass RX10 = some m.cls := findClass_of_methodNamed B.named
  have hlocks := B.notSynchronized
  subst hsz
  have hD := hD0.self (sz := s.heap.size)
  generalize hAe : va_A [] s.heap.size = A at hD ⊢
  have hA : ∀ q : Nat, s.heap.size ≤ q → A q := fun q h => by rw [← hAe]; exact Or.inr h
  have hS : va_S A s.heap s.heap [] := va_S.rf
  have hP : va_P (dC, dI) vwCl [] s.heap := hP
  have hl := lv_entry ([.int p0]) (n := 1) (Nat.le_of_ble_eq_true rfl)
  rw [lg_entry_eq]
  generalize (lg_sl ([.int p0]) ++ List.replicate (1 - (lg_sl ([.int p0])).length) Slot.unset).toArray = ls at hl ⊢
  have hl : lv_has ls 1 [(0, .int p0)] := hl
  refine lv_iload_n hx hb dX10_basic_0 rfl (lv_at hl 0 rfl) ?_
  refine lv_sipush (v := 202) hx hb dX10_basic_1 (by decide) ?_
  refine lv_icmp_ne (tgt := 11) hx hb dX10_basic_4 (by decide) (fun c_1 => ?_) (fun c_1 => absurd c_1 hc_0)
  refine lv_iload_n hx hb dX10_basic_11 rfl (lv_at hl 0 rfl) ?_
  refine lv_sipush (v := 200) hx hb dX10_basic_12 (by decide) ?_
  refine lv_icmp_ne (tgt := 22) hx hb dX10_basic_15 (by decide) (fun c_2 => ?_) (fun c_2 => absurd c_2 hc_1)
  refine lv_iload_n hx hb dX10_basic_22 rfl (lv_at hl 0 rfl) ?_
  refine lv_sipush (v := 213) hx hb dX10_basic_23 (by decide) ?_
  refine lv_icmp_ne (tgt := 33) hx hb dX10_basic_26 (by decide) (fun c_3 => ?_) (fun c_3 => absurd c_3 hc_2)
  refine lv_iconst (v := 0) hx hb dX10_basic_33 (by decide) ?_
  have hP9 := hP.sub (ws' := []) [] rfl
  have hD9 := hD.sub (ws' := []) [] (by decide) rfl
  have hK9 := hK.sub (tys' := []) [] rfl
  exact W.iret (v := 0) hx hb hr (fun t ht hW => ⟨⟨0, (), rfl, rfl, (zB_mk (by rw [ht]; exact hP9) (va_K.moved hW.alike hK9) hD9)⟩, hS.F ht⟩) hS.2.2 dX10_basic_34
set_option maxHeartbeats 4000000 in
set_option maxRecDepth 100000 in
/-- X10_basic, a road -/
theorem c_X10_basic_r1 (l : Launch) (dC : Nat → ClassId) (dI : Nat → Nat → Nat) (sz : Nat) (p0 : Int32) (hc_0 : ¬ p0 = 202) (hc_1 : ¬ p0 = 200) (hc_2 : p0 = 213) : Met l yX10_basic wsX10_basic ({ frames := 0, cells := 0, slots := 0, locals := 0 }) (zPc dC dI sz [.int p0] [] []) (va_Qi (fun (r : Int32) (_ : Unit) => r = 3) (zB dC dI (fun _ => []) (fun _ : Unit => []) (va_A [] sz)) (va_A [] sz)) 0 0 (va_A [] sz) := by
  refine Met.ofW (cc := cX10_basic) (maxL := 1) (ret := (some .int)) (by decide) rfl ?_
  intro p e s m args below meth c s₁ B hml hv
  obtain ⟨rfl, hsz, hP, hK, hD0⟩ := hv
  have hx := B.exec
  have hb := B.bytes
  have hr := B.returns
  have hts := atoms_spec (ws := wsX10_basic) B.pre
  have hown : s.vm.findClass RX10 = some m.cls := findClass_of_methodNamed B.named
  have hlocks := B.notSynchronized
  subst hsz
  have hD := hD0.self (sz := s.heap.size)
  generalize hAe : va_A [] s.heap.size = A at hD ⊢
  have hA : ∀ q : Nat, s.heap.size ≤ q → A q := fun q h => by rw [← hAe]; exact Or.inr h
  have hS : va_S A s.heap s.heap [] := va_S.rf
  have hP : va_P (dC, dI) vwCl [] s.heap := hP
  have hl := lv_entry ([.int p0]) (n := 1) (Nat.le_of_ble_eq_true rfl)
  rw [lg_entry_eq]
  generalize (lg_sl ([.int p0]) ++ List.replicate (1 - (lg_sl ([.int p0])).length) Slot.unset).toArray = ls at hl ⊢
  have hl : lv_has ls 1 [(0, .int p0)] := hl
  refine lv_iload_n hx hb dX10_basic_0 rfl (lv_at hl 0 rfl) ?_
  refine lv_sipush (v := 202) hx hb dX10_basic_1 (by decide) ?_
  refine lv_icmp_ne (tgt := 11) hx hb dX10_basic_4 (by decide) (fun c_1 => ?_) (fun c_1 => absurd c_1 hc_0)
  refine lv_iload_n hx hb dX10_basic_11 rfl (lv_at hl 0 rfl) ?_
  refine lv_sipush (v := 200) hx hb dX10_basic_12 (by decide) ?_
  refine lv_icmp_ne (tgt := 22) hx hb dX10_basic_15 (by decide) (fun c_2 => ?_) (fun c_2 => absurd c_2 hc_1)
  refine lv_iload_n hx hb dX10_basic_22 rfl (lv_at hl 0 rfl) ?_
  refine lv_sipush (v := 213) hx hb dX10_basic_23 (by decide) ?_
  refine lv_icmp_ne (tgt := 33) hx hb dX10_basic_26 (by decide) (fun c_3 => absurd hc_2 c_3) (fun c_3 => ?_)
  refine lv_iconst (v := 3) hx hb dX10_basic_29 (by decide) ?_
  refine lv_goto (tgt := 34) hx hb dX10_basic_30 (by decide) ?_
  have hP9 := hP.sub (ws' := []) [] rfl
  have hD9 := hD.sub (ws' := []) [] (by decide) rfl
  have hK9 := hK.sub (tys' := []) [] rfl
  exact W.iret (v := 3) hx hb hr (fun t ht hW => ⟨⟨3, (), rfl, rfl, (zB_mk (by rw [ht]; exact hP9) (va_K.moved hW.alike hK9) hD9)⟩, hS.F ht⟩) hS.2.2 dX10_basic_34
set_option maxHeartbeats 4000000 in
set_option maxRecDepth 100000 in
/-- X10_basic, a road -/
theorem c_X10_basic_r2 (l : Launch) (dC : Nat → ClassId) (dI : Nat → Nat → Nat) (sz : Nat) (p0 : Int32) (hc_0 : ¬ p0 = 202) (hc_1 : p0 = 200) : Met l yX10_basic wsX10_basic ({ frames := 0, cells := 0, slots := 0, locals := 0 }) (zPc dC dI sz [.int p0] [] []) (va_Qi (fun (r : Int32) (_ : Unit) => r = 2) (zB dC dI (fun _ => []) (fun _ : Unit => []) (va_A [] sz)) (va_A [] sz)) 0 0 (va_A [] sz) := by
  refine Met.ofW (cc := cX10_basic) (maxL := 1) (ret := (some .int)) (by decide) rfl ?_
  intro p e s m args below meth c s₁ B hml hv
  obtain ⟨rfl, hsz, hP, hK, hD0⟩ := hv
  have hx := B.exec
  have hb := B.bytes
  have hr := B.returns
  have hts := atoms_spec (ws := wsX10_basic) B.pre
  have hown : s.vm.findClass RX10 = some m.cls := findClass_of_methodNamed B.named
  have hlocks := B.notSynchronized
  subst hsz
  have hD := hD0.self (sz := s.heap.size)
  generalize hAe : va_A [] s.heap.size = A at hD ⊢
  have hA : ∀ q : Nat, s.heap.size ≤ q → A q := fun q h => by rw [← hAe]; exact Or.inr h
  have hS : va_S A s.heap s.heap [] := va_S.rf
  have hP : va_P (dC, dI) vwCl [] s.heap := hP
  have hl := lv_entry ([.int p0]) (n := 1) (Nat.le_of_ble_eq_true rfl)
  rw [lg_entry_eq]
  generalize (lg_sl ([.int p0]) ++ List.replicate (1 - (lg_sl ([.int p0])).length) Slot.unset).toArray = ls at hl ⊢
  have hl : lv_has ls 1 [(0, .int p0)] := hl
  refine lv_iload_n hx hb dX10_basic_0 rfl (lv_at hl 0 rfl) ?_
  refine lv_sipush (v := 202) hx hb dX10_basic_1 (by decide) ?_
  refine lv_icmp_ne (tgt := 11) hx hb dX10_basic_4 (by decide) (fun c_1 => ?_) (fun c_1 => absurd c_1 hc_0)
  refine lv_iload_n hx hb dX10_basic_11 rfl (lv_at hl 0 rfl) ?_
  refine lv_sipush (v := 200) hx hb dX10_basic_12 (by decide) ?_
  refine lv_icmp_ne (tgt := 22) hx hb dX10_basic_15 (by decide) (fun c_2 => absurd hc_1 c_2) (fun c_2 => ?_)
  refine lv_iconst (v := 2) hx hb dX10_basic_18 (by decide) ?_
  refine lv_goto (tgt := 34) hx hb dX10_basic_19 (by decide) ?_
  have hP9 := hP.sub (ws' := []) [] rfl
  have hD9 := hD.sub (ws' := []) [] (by decide) rfl
  have hK9 := hK.sub (tys' := []) [] rfl
  exact W.iret (v := 2) hx hb hr (fun t ht hW => ⟨⟨2, (), rfl, rfl, (zB_mk (by rw [ht]; exact hP9) (va_K.moved hW.alike hK9) hD9)⟩, hS.F ht⟩) hS.2.2 dX10_basic_34
set_option maxHeartbeats 4000000 in
set_option maxRecDepth 100000 in
/-- X10_basic, a road -/
theorem c_X10_basic_r3 (l : Launch) (dC : Nat → ClassId) (dI : Nat → Nat → Nat) (sz : Nat) (p0 : Int32) (hc_0 : p0 = 202) : Met l yX10_basic wsX10_basic ({ frames := 0, cells := 0, slots := 0, locals := 0 }) (zPc dC dI sz [.int p0] [] []) (va_Qi (fun (r : Int32) (_ : Unit) => r = 1) (zB dC dI (fun _ => []) (fun _ : Unit => []) (va_A [] sz)) (va_A [] sz)) 0 0 (va_A [] sz) := by
  refine Met.ofW (cc := cX10_basic) (maxL := 1) (ret := (some .int)) (by decide) rfl ?_
  intro p e s m args below meth c s₁ B hml hv
  obtain ⟨rfl, hsz, hP, hK, hD0⟩ := hv
  have hx := B.exec
  have hb := B.bytes
  have hr := B.returns
  have hts := atoms_spec (ws := wsX10_basic) B.pre
  have hown : s.vm.findClass RX10 = some m.cls := findClass_of_methodNamed B.named
  have hlocks := B.notSynchronized
  subst hsz
  have hD := hD0.self (sz := s.heap.size)
  generalize hAe : va_A [] s.heap.size = A at hD ⊢
  have hA : ∀ q : Nat, s.heap.size ≤ q → A q := fun q h => by rw [← hAe]; exact Or.inr h
  have hS : va_S A s.heap s.heap [] := va_S.rf
  have hP : va_P (dC, dI) vwCl [] s.heap := hP
  have hl := lv_entry ([.int p0]) (n := 1) (Nat.le_of_ble_eq_true rfl)
  rw [lg_entry_eq]
  generalize (lg_sl ([.int p0]) ++ List.replicate (1 - (lg_sl ([.int p0])).length) Slot.unset).toArray = ls at hl ⊢
  have hl : lv_has ls 1 [(0, .int p0)] := hl
  refine lv_iload_n hx hb dX10_basic_0 rfl (lv_at hl 0 rfl) ?_
  refine lv_sipush (v := 202) hx hb dX10_basic_1 (by decide) ?_
  refine lv_icmp_ne (tgt := 11) hx hb dX10_basic_4 (by decide) (fun c_1 => absurd hc_0 c_1) (fun c_1 => ?_)
  refine lv_iconst (v := 1) hx hb dX10_basic_7 (by decide) ?_
  refine lv_goto (tgt := 34) hx hb dX10_basic_8 (by decide) ?_
  have hP9 := hP.sub (ws' := []) [] rfl
  have hD9 := hD.sub (ws' := []) [] (by decide) rfl
  have hK9 := hK.sub (tys' := []) [] rfl
  exact W.iret (v := 1) hx hb hr (fun t ht hW => ⟨⟨1, (), rfl, rfl, (zB_mk (by rw [ht]; exact hP9) (va_K.moved hW.alike hK9) hD9)⟩, hS.F ht⟩) hS.2.2 dX10_basic_34
theorem iw_X10_make_X10 : ∀ w ∈ wsX100, w ∈ wsX10_make := fun w h => List.mem_cons_of_mem _ (List.mem_append_right _ h)
set_option maxHeartbeats 4000000 in
set_option maxRecDepth 100000 in
/-- X10_make, a road -/
theorem c_X10_make_r0 (l : Launch) (dC : Nat → ClassId) (dI : Nat → Nat → Nat) (sz : Nat) (h0 : Nat) (fs0 : List Value) (p0 : Int32) (v0_6 : Int32) (v0_0 : Nat) (n_v0_0 : Nat) (c_v0_0 : ClassId) (f_v0_0 : Nat → Int32) (v0_3 : Nat) (n_v0_3 : Nat) (c_v0_3 : ClassId) (f_v0_3 : Nat → Int32) (hl0 : fs0.length = 10) (hf0_6 : fs0[6]? = some (.int v0_6)) (hf0_0 : fs0[0]? = some (.ref v0_0)) (hf0_3 : fs0[3]? = some (.ref v0_3)) (hi_0 : vp_in v0_6 n_v0_0) (hi_1 : vp_in v0_6 n_v0_3) (hc_0 : ¬ v0_6 = (Int32.ofNat n_v0_0)) : Met l yX10_make wsX10_make ({ frames := 0, cells := 0, slots := 0, locals := 0 }) (zPc dC dI sz [.ref h0, .int p0] [(h0, .inr (12, fs0)), (v0_0, .inl (c_v0_0, n_v0_0, .inl f_v0_0)), (v0_3, .inl (c_v0_3, n_v0_3, .inl f_v0_3))] [(c_v0_0, .int), (c_v0_3, .int)]) (va_Qi (fun (r : Int32) (_ : Unit) => r = ((v0_6 + 1) - 1)) (zB dC dI (fun _ => [(c_v0_0, .int), (c_v0_3, .int)]) (fun _ : Unit => [(h0, .inr (12, (fs0.set 6 (.int (v0_6 + 1))))), (v0_0, .inl (c_v0_0, n_v0_0, .inl (upd f_v0_0 (v0_6).toNatClampNeg p0))), (v0_3, .inl (c_v0_3, n_v0_3, .inl (upd f_v0_3 (v0_6).toNatClampNeg v0_6)))]) (va_A [(h0, .inr (12, fs0)), (v0_0, .inl (c_v0_0, n_v0_0, .inl f_v0_0)), (v0_3, .inl (c_v0_3, n_v0_3, .inl f_v0_3))] sz)) (va_A [(h0, .inr (12, fs0)), (v0_0, .inl (c_v0_0, n_v0_0, .inl f_v0_0)), (v0_3, .inl (c_v0_3, n_v0_3, .inl f_v0_3))] sz)) 0 0 (va_A [(h0, .inr (12, fs0)), (v0_0, .inl (c_v0_0, n_v0_0, .inl f_v0_0)), (v0_3, .inl (c_v0_3, n_v0_3, .inl f_v0_3))] sz) := by
  refine Met.ofW (cc := cX10_make) (maxL := 2) (ret := (some .int)) (by decide) rfl ?_
  intro p e s m args below meth c s₁ B hml hv
  obtain ⟨rfl, hsz, hP, hK, hD0⟩ := hv
  have hx := B.exec
  have hb := B.bytes
  have hr := B.returns
  have hts := atoms_spec (ws := wsX10_make) B.pre
  have hown : s.vm.findClass RX10 = some m.cls := findClass_of_methodNamed B.named
  have hlocks := B.notSynchronized
  subst hsz
  have hD := hD0.self (sz := s.heap.size)
  generalize hAe : va_A [(h0, .inr (12, fs0)), (v0_0, .inl (c_v0_0, n_v0_0, .inl f_v0_0)), (v0_3, .inl (c_v0_3, n_v0_3, .inl f_v0_3))] s.heap.size = A at hD ⊢
  have hA : ∀ q : Nat, s.heap.size ≤ q → A q := fun q h => by rw [← hAe]; exact Or.inr h
  have hS : va_S A s.heap s.heap [] := va_S.rf
  have hP : va_P (dC, dI) vwCl [(h0, .inr (12, fs0)), (v0_0, .inl (c_v0_0, n_v0_0, .inl f_v0_0)), (v0_3, .inl (c_v0_3, n_v0_3, .inl f_v0_3))] s.heap := hP
  have hl := lv_entry ([.ref h0, .int p0]) (n := 2) (Nat.le_of_ble_eq_true rfl)
  rw [lg_entry_eq]
  generalize (lg_sl ([.ref h0, .int p0]) ++ List.replicate (2 - (lg_sl ([.ref h0, .int p0])).length) Slot.unset).toArray = ls at hl ⊢
  have hl : lv_has ls 2 [(0, .ref h0), (1, .int p0)] := hl
  refine lv_aload_n hx hb dX10_make_0 rfl (lv_at hl 0 rfl) ?_
  refine va_get (D := (dC, dI)) (ci := 12) (v := .int v0_6) (C := RX10) (T := TX10) (N := 10) hx hb hts iw_X10_make_X10 hown hK hP 0 rfl rfl 6 (by decide) (hts (.fieldLink RX10 86 "LiquidTongue$Typer" "count" "I") (by decide +kernel)) (fun _ h9 => h9) hf0_6 dX10_make_1 ?_
  refine lv_aload_n hx hb dX10_make_4 rfl (lv_at hl 0 rfl) ?_
  refine va_get (D := (dC, dI)) (ci := 12) (v := .ref v0_0) (C := RX10) (T := TX10) (N := 10) hx hb hts iw_X10_make_X10 hown hK hP 0 rfl rfl 0 (by decide) (hts (.fieldLink RX10 18 "LiquidTongue$Typer" "kinds" "[I") (by decide +kernel)) (fun _ h9 => h9) hf0_0 dX10_make_5 ?_
  refine va_alen (v := Int32.ofNat n_v0_0) hx hb hK hP 1 0 rfl rfl rfl dX10_make_8 ?_
  refine lv_icmp_ne (tgt := 14) hx hb dX10_make_9 (by decide) (fun c_1 => ?_) (fun c_1 => absurd c_1 hc_0)
  refine lv_aload_n hx hb dX10_make_14 rfl (lv_at hl 0 rfl) ?_
  refine va_get (D := (dC, dI)) (ci := 12) (v := .ref v0_0) (C := RX10) (T := TX10) (N := 10) hx hb hts iw_X10_make_X10 hown hK hP 0 rfl rfl 0 (by decide) (hts (.fieldLink RX10 18 "LiquidTongue$Typer" "kinds" "[I") (by decide +kernel)) (fun _ h9 => h9) hf0_0 dX10_make_15 ?_
  refine lv_aload_n hx hb dX10_make_18 rfl (lv_at hl 0 rfl) ?_
  refine va_get (D := (dC, dI)) (ci := 12) (v := .int v0_6) (C := RX10) (T := TX10) (N := 10) hx hb hts iw_X10_make_X10 hown hK hP 0 rfl rfl 6 (by decide) (hts (.fieldLink RX10 86 "LiquidTongue$Typer" "count" "I") (by decide +kernel)) (fun _ h9 => h9) hf0_6 dX10_make_19 ?_
  refine lv_iload_n hx hb dX10_make_22 rfl (lv_at hl 1 rfl) ?_
  refine va_iast hx hb hK hP hD hS 1 0 rfl rfl hi_0 dX10_make_23 (fun H locs hP hD hS => ?_)
  have hP : va_P (dC, dI) vwCl [(h0, .inr (12, fs0)), (v0_0, .inl (c_v0_0, n_v0_0, .inl (upd f_v0_0 (v0_6).toNatClampNeg p0))), (v0_3, .inl (c_v0_3, n_v0_3, .inl f_v0_3))] H := hP
  have hD : va_D A [(h0, .inr (12, fs0)), (v0_0, .inl (c_v0_0, n_v0_0, .inl (upd f_v0_0 (v0_6).toNatClampNeg p0))), (v0_3, .inl (c_v0_3, n_v0_3, .inl f_v0_3))] := hD
  refine lv_aload_n hx hb dX10_make_24 rfl (lv_at hl 0 rfl) ?_
  refine va_get (D := (dC, dI)) (ci := 12) (v := .ref v0_3) (C := RX10) (T := TX10) (N := 10) hx hb hts iw_X10_make_X10 hown hK hP 0 rfl rfl 3 (by decide) (hts (.fieldLink RX10 28 "LiquidTongue$Typer" "same" "[I") (by decide +kernel)) (fun _ h9 => h9) hf0_3 dX10_make_25 ?_
  refine lv_aload_n hx hb dX10_make_28 rfl (lv_at hl 0 rfl) ?_
  refine va_get (D := (dC, dI)) (ci := 12) (v := .int v0_6) (C := RX10) (T := TX10) (N := 10) hx hb hts iw_X10_make_X10 hown hK hP 0 rfl rfl 6 (by decide) (hts (.fieldLink RX10 86 "LiquidTongue$Typer" "count" "I") (by decide +kernel)) (fun _ h9 => h9) hf0_6 dX10_make_29 ?_
  refine lv_aload_n hx hb dX10_make_32 rfl (lv_at hl 0 rfl) ?_
  refine va_get (D := (dC, dI)) (ci := 12) (v := .int v0_6) (C := RX10) (T := TX10) (N := 10) hx hb hts iw_X10_make_X10 hown hK hP 0 rfl rfl 6 (by decide) (hts (.fieldLink RX10 86 "LiquidTongue$Typer" "count" "I") (by decide +kernel)) (fun _ h9 => h9) hf0_6 dX10_make_33 ?_
  refine va_iast hx hb hK hP hD hS 2 1 rfl rfl hi_1 dX10_make_36 (fun H locs hP hD hS => ?_)
  have hP : va_P (dC, dI) vwCl [(h0, .inr (12, fs0)), (v0_0, .inl (c_v0_0, n_v0_0, .inl (upd f_v0_0 (v0_6).toNatClampNeg p0))), (v0_3, .inl (c_v0_3, n_v0_3, .inl (upd f_v0_3 (v0_6).toNatClampNeg v0_6)))] H := hP
  have hD : va_D A [(h0, .inr (12, fs0)), (v0_0, .inl (c_v0_0, n_v0_0, .inl (upd f_v0_0 (v0_6).toNatClampNeg p0))), (v0_3, .inl (c_v0_3, n_v0_3, .inl (upd f_v0_3 (v0_6).toNatClampNeg v0_6)))] := hD
  refine lv_aload_n hx hb dX10_make_37 rfl (lv_at hl 0 rfl) ?_
  refine lv_dup hx hb dX10_make_38 rfl ?_
  refine va_get (D := (dC, dI)) (ci := 12) (v := .int v0_6) (C := RX10) (T := TX10) (N := 10) hx hb hts iw_X10_make_X10 hown hK hP 0 rfl rfl 6 (by decide) (hts (.fieldLink RX10 86 "LiquidTongue$Typer" "count" "I") (by decide +kernel)) (fun _ h9 => h9) hf0_6 dX10_make_39 ?_
  refine lv_iconst (v := 1) hx hb dX10_make_42 (by decide) ?_
  refine lv_iadd hx hb dX10_make_43 ?_
  refine va_put (D := (dC, dI)) (ci := 12) (v := .int (v0_6 + 1)) (ty := .int) (C := RX10) (T := TX10) (N := 10) hx hb hts iw_X10_make_X10 tyX10 tyX10_ok nmX10 hown hK hP hD hS 0 rfl rfl 6 (by decide) (hts (.fieldLink RX10 86 "LiquidTongue$Typer" "count" "I") (by decide +kernel)) (fun _ h9 => h9) rfl (by decide +kernel) rfl rfl (zs_lt hl0 (by decide)) dX10_make_44 (fun H locs hP hD hS => ?_)
  have hP : va_P (dC, dI) vwCl [(h0, .inr (12, (fs0.set 6 (.int (v0_6 + 1))))), (v0_0, .inl (c_v0_0, n_v0_0, .inl (upd f_v0_0 (v0_6).toNatClampNeg p0))), (v0_3, .inl (c_v0_3, n_v0_3, .inl (upd f_v0_3 (v0_6).toNatClampNeg v0_6)))] H := hP
  have hD : va_D A [(h0, .inr (12, (fs0.set 6 (.int (v0_6 + 1))))), (v0_0, .inl (c_v0_0, n_v0_0, .inl (upd f_v0_0 (v0_6).toNatClampNeg p0))), (v0_3, .inl (c_v0_3, n_v0_3, .inl (upd f_v0_3 (v0_6).toNatClampNeg v0_6)))] := hD
  refine lv_aload_n hx hb dX10_make_47 rfl (lv_at hl 0 rfl) ?_
  refine va_get (D := (dC, dI)) (ci := 12) (v := .int (v0_6 + 1)) (C := RX10) (T := TX10) (N := 10) hx hb hts iw_X10_make_X10 hown hK hP 0 rfl rfl 6 (by decide) (hts (.fieldLink RX10 86 "LiquidTongue$Typer" "count" "I") (by decide +kernel)) (fun _ h9 => h9) (zs_eq (zs_lt hl0 (by decide))) dX10_make_48 ?_
  refine lv_iconst (v := 1) hx hb dX10_make_51 (by decide) ?_
  refine lv_isub hx hb dX10_make_52 ?_
  have hP9 := hP.sub (ws' := [(h0, .inr (12, (fs0.set 6 (.int (v0_6 + 1))))), (v0_0, .inl (c_v0_0, n_v0_0, .inl (upd f_v0_0 (v0_6).toNatClampNeg p0))), (v0_3, .inl (c_v0_3, n_v0_3, .inl (upd f_v0_3 (v0_6).toNatClampNeg v0_6)))]) [0, 1, 2] rfl
  have hD9 := hD.sub (ws' := [(h0, .inr (12, (fs0.set 6 (.int (v0_6 + 1))))), (v0_0, .inl (c_v0_0, n_v0_0, .inl (upd f_v0_0 (v0_6).toNatClampNeg p0))), (v0_3, .inl (c_v0_3, n_v0_3, .inl (upd f_v0_3 (v0_6).toNatClampNeg v0_6)))]) [0, 1, 2] (by decide) rfl
  have hK9 := hK.sub (tys' := [(c_v0_0, .int), (c_v0_3, .int)]) [0, 1] rfl
  exact W.iret (v := ((v0_6 + 1) - 1)) hx hb hr (fun t ht hW => ⟨⟨((v0_6 + 1) - 1), (), rfl, rfl, (zB_mk (by rw [ht]; exact hP9) (va_K.moved hW.alike hK9) hD9)⟩, hS.F ht⟩) hS.2.2 dX10_make_53
set_option maxHeartbeats 4000000 in
set_option maxRecDepth 100000 in
/-- X10_make, a road -/
theorem c_X10_make_r1 (l : Launch) (dC : Nat → ClassId) (dI : Nat → Nat → Nat) (sz : Nat) (h0 : Nat) (fs0 : List Value) (p0 : Int32) (v0_6 : Int32) (v0_0 : Nat) (n_v0_0 : Nat) (c_v0_0 : ClassId) (f_v0_0 : Nat → Int32) (hl0 : fs0.length = 10) (hf0_6 : fs0[6]? = some (.int v0_6)) (hf0_0 : fs0[0]? = some (.ref v0_0)) (hc_0 : v0_6 = (Int32.ofNat n_v0_0)) : Met l yX10_make wsX10_make ({ frames := 0, cells := 0, slots := 0, locals := 0 }) (zPc dC dI sz [.ref h0, .int p0] [(h0, .inr (12, fs0)), (v0_0, .inl (c_v0_0, n_v0_0, .inl f_v0_0))] [(c_v0_0, .int)]) (va_Qi (fun (r : Int32) (_ : Unit) => r = 0) (zB dC dI (fun _ => [(c_v0_0, .int)]) (fun _ : Unit => [(h0, .inr (12, fs0)), (v0_0, .inl (c_v0_0, n_v0_0, .inl f_v0_0))]) (va_A [(h0, .inr (12, fs0)), (v0_0, .inl (c_v0_0, n_v0_0, .inl f_v0_0))] sz)) (va_A [(h0, .inr (12, fs0)), (v0_0, .inl (c_v0_0, n_v0_0, .inl f_v0_0))] sz)) 0 0 (va_A [(h0, .inr (12, fs0)), (v0_0, .inl (c_v0_0, n_v0_0, .inl f_v0_0))] sz) := by
  refine Met.ofW (cc := cX10_make) (maxL := 2) (ret := (some .int)) (by decide) rfl ?_
  intro p e s m args below meth c s₁ B hml hv
  obtain ⟨rfl, hsz, hP, hK, hD0⟩ := hv
  have hx := B.exec
  have hb := B.bytes
  have hr := B.returns
  have hts := atoms_spec (ws := wsX10_make) B.pre
  have hown : s.vm.findClass RX10 = some m.cls := findClass_of_methodNamed B.named
  have hlocks := B.notSynchronized
  subst hsz
  have hD := hD0.self (sz := s.heap.size)
  generalize hAe : va_A [(h0, .inr (12, fs0)), (v0_0, .inl (c_v0_0, n_v0_0, .inl f_v0_0))] s.heap.size = A at hD ⊢
  have hA : ∀ q : Nat, s.heap.size ≤ q → A q := fun q h => by rw [← hAe]; exact Or.inr h
  have hS : va_S A s.heap s.heap [] := va_S.rf
  have hP : va_P (dC, dI) vwCl [(h0, .inr (12, fs0)), (v0_0, .inl (c_v0_0, n_v0_0, .inl f_v0_0))] s.heap := hP
  have hl := lv_entry ([.ref h0, .int p0]) (n := 2) (Nat.le_of_ble_eq_true rfl)
  rw [lg_entry_eq]
  generalize (lg_sl ([.ref h0, .int p0]) ++ List.replicate (2 - (lg_sl ([.ref h0, .int p0])).length) Slot.unset).toArray = ls at hl ⊢
  have hl : lv_has ls 2 [(0, .ref h0), (1, .int p0)] := hl
  refine lv_aload_n hx hb dX10_make_0 rfl (lv_at hl 0 rfl) ?_
  refine va_get (D := (dC, dI)) (ci := 12) (v := .int v0_6) (C := RX10) (T := TX10) (N := 10) hx hb hts iw_X10_make_X10 hown hK hP 0 rfl rfl 6 (by decide) (hts (.fieldLink RX10 86 "LiquidTongue$Typer" "count" "I") (by decide +kernel)) (fun _ h9 => h9) hf0_6 dX10_make_1 ?_
  refine lv_aload_n hx hb dX10_make_4 rfl (lv_at hl 0 rfl) ?_
  refine va_get (D := (dC, dI)) (ci := 12) (v := .ref v0_0) (C := RX10) (T := TX10) (N := 10) hx hb hts iw_X10_make_X10 hown hK hP 0 rfl rfl 0 (by decide) (hts (.fieldLink RX10 18 "LiquidTongue$Typer" "kinds" "[I") (by decide +kernel)) (fun _ h9 => h9) hf0_0 dX10_make_5 ?_
  refine va_alen (v := Int32.ofNat n_v0_0) hx hb hK hP 1 0 rfl rfl rfl dX10_make_8 ?_
  refine lv_icmp_ne (tgt := 14) hx hb dX10_make_9 (by decide) (fun c_1 => absurd hc_0 c_1) (fun c_1 => ?_)
  refine lv_iconst (v := 0) hx hb dX10_make_12 (by decide) ?_
  have hP9 := hP.sub (ws' := [(h0, .inr (12, fs0)), (v0_0, .inl (c_v0_0, n_v0_0, .inl f_v0_0))]) [0, 1] rfl
  have hD9 := hD.sub (ws' := [(h0, .inr (12, fs0)), (v0_0, .inl (c_v0_0, n_v0_0, .inl f_v0_0))]) [0, 1] (by decide) rfl
  have hK9 := hK.sub (tys' := [(c_v0_0, .int)]) [0] rfl
  exact W.iret (v := 0) hx hb hr (fun t ht hW => ⟨⟨0, (), rfl, rfl, (zB_mk (by rw [ht]; exact hP9) (va_K.moved hW.alike hK9) hD9)⟩, hS.F ht⟩) hS.2.2 dX10_make_13
set_option maxHeartbeats 4000000 in
set_option maxRecDepth 100000 in
/-- X11_isDigit, a road -/
theorem c_X11_isDigit_r0 (l : Launch) (dC : Nat → ClassId) (dI : Nat → Nat → Nat) (sz : Nat) (p0 : Int32) (hc_0 : p0 < 48) : Met l yX11_isDigit wsX11_isDigit ({ frames := 0, cells := 0, slots := 0, locals := 0 }) (zPc dC dI sz [.int p0] [] []) (va_Qi (fun (r : Int32) (_ : Unit) => r = 0) (zB dC dI (fun _ => []) (fun _ : Unit => []) (va_A [] sz)) (va_A [] sz)) 0 0 (va_A [] sz) := by
  refine Met.ofW (cc := cX11_isDigit) (maxL := 1) (ret := (some .boolean)) (by decide) rfl ?_
  intro p e s m args below meth c s₁ B hml hv
  obtain ⟨rfl, hsz, hP, hK, hD0⟩ := hv
  have hx := B.exec
  have hb := B.bytes
  have hr := B.returns
  have hts := atoms_spec (ws := wsX11_isDigit) B.pre
  have hown : s.vm.findClass RX11 = some m.cls := findClass_of_methodNamed B.named
  have hlocks := B.notSynchronized
  subst hsz
  have hD := hD0.self (sz := s.heap.size)
  generalize hAe : va_A [] s.heap.size = A at hD ⊢
  have hA : ∀ q : Nat, s.heap.size ≤ q → A q := fun q h => by rw [← hAe]; exact Or.inr h
  have hS : va_S A s.heap s.heap [] := va_S.rf
  have hP : va_P (dC, dI) vwCl [] s.heap := hP
  have hl := lv_entry ([.int p0]) (n := 1) (Nat.le_of_ble_eq_true rfl)
  rw [lg_entry_eq]
  generalize (lg_sl ([.int p0]) ++ List.replicate (1 - (lg_sl ([.int p0])).length) Slot.unset).toArray = ls at hl ⊢
  have hl : lv_has ls 1 [(0, .int p0)] := hl
  refine lv_iload_n hx hb dX11_isDigit_0 rfl (lv_at hl 0 rfl) ?_
  refine lv_bipush (v := 48) hx hb dX11_isDigit_1 (by decide) ?_
  refine lv_icmp_lt (tgt := 16) hx hb dX11_isDigit_3 (by decide) (fun c_1 => ?_) (fun c_1 => absurd hc_0 c_1)
  refine lv_iconst (v := 0) hx hb dX11_isDigit_16 (by decide) ?_
  have hP9 := hP.sub (ws' := []) [] rfl
  have hD9 := hD.sub (ws' := []) [] (by decide) rfl
  have hK9 := hK.sub (tys' := []) [] rfl
  exact W.zret (v := 0) hx hb hr (by first | rfl | decide) (fun t ht hW => ⟨⟨0, (), rfl, rfl, (zB_mk (by rw [ht]; exact hP9) (va_K.moved hW.alike hK9) hD9)⟩, hS.F ht⟩) hS.2.2 dX11_isDigit_17
set_option maxHeartbeats 4000000 in
set_option maxRecDepth 100000 in
/-- X11_isDigit, a road -/
theorem c_X11_isDigit_r1 (l : Launch) (dC : Nat → ClassId) (dI : Nat → Nat → Nat) (sz : Nat) (p0 : Int32) (hc_0 : ¬ p0 < 48) (hc_1 : 57 < p0) : Met l yX11_isDigit wsX11_isDigit ({ frames := 0, cells := 0, slots := 0, locals := 0 }) (zPc dC dI sz [.int p0] [] []) (va_Qi (fun (r : Int32) (_ : Unit) => r = 0) (zB dC dI (fun _ => []) (fun _ : Unit => []) (va_A [] sz)) (va_A [] sz)) 0 0 (va_A [] sz) := by
  refine Met.ofW (cc := cX11_isDigit) (maxL := 1) (ret := (some .boolean)) (by decide) rfl ?_
  intro p e s m args below meth c s₁ B hml hv
  obtain ⟨rfl, hsz, hP, hK, hD0⟩ := hv
  have hx := B.exec
  have hb := B.bytes
  have hr := B.returns
  have hts := atoms_spec (ws := wsX11_isDigit) B.pre
  have hown : s.vm.findClass RX11 = some m.cls := findClass_of_methodNamed B.named
  have hlocks := B.notSynchronized
  subst hsz
  have hD := hD0.self (sz := s.heap.size)
  generalize hAe : va_A [] s.heap.size = A at hD ⊢
  have hA : ∀ q : Nat, s.heap.size ≤ q → A q := fun q h => by rw [← hAe]; exact Or.inr h
  have hS : va_S A s.heap s.heap [] := va_S.rf
  have hP : va_P (dC, dI) vwCl [] s.heap := hP
  have hl := lv_entry ([.int p0]) (n := 1) (Nat.le_of_ble_eq_true rfl)
  rw [lg_entry_eq]
  generalize (lg_sl ([.int p0]) ++ List.replicate (1 - (lg_sl ([.int p0])).length) Slot.unset).toArray = ls at hl ⊢
  have hl : lv_has ls 1 [(0, .int p0)] := hl
  refine lv_iload_n hx hb dX11_isDigit_0 rfl (lv_at hl 0 rfl) ?_
  refine lv_bipush (v := 48) hx hb dX11_isDigit_1 (by decide) ?_
  refine lv_icmp_lt (tgt := 16) hx hb dX11_isDigit_3 (by decide) (fun c_1 => absurd c_1 hc_0) (fun c_1 => ?_)
  refine lv_iload_n hx hb dX11_isDigit_6 rfl (lv_at hl 0 rfl) ?_
  refine lv_bipush (v := 57) hx hb dX11_isDigit_7 (by decide) ?_
  refine lv_icmp_gt (tgt := 16) hx hb dX11_isDigit_9 (by decide) (fun c_2 => ?_) (fun c_2 => absurd hc_1 c_2)
  refine lv_iconst (v := 0) hx hb dX11_isDigit_16 (by decide) ?_
  have hP9 := hP.sub (ws' := []) [] rfl
  have hD9 := hD.sub (ws' := []) [] (by decide) rfl
  have hK9 := hK.sub (tys' := []) [] rfl
  exact W.zret (v := 0) hx hb hr (by first | rfl | decide) (fun t ht hW => ⟨⟨0, (), rfl, rfl, (zB_mk (by rw [ht]; exact hP9) (va_K.moved hW.alike hK9) hD9)⟩, hS.F ht⟩) hS.2.2 dX11_isDigit_17
set_option maxHeartbeats 4000000 in
set_option maxRecDepth 100000 in
/-- X11_isDigit, a road -/
theorem c_X11_isDigit_r2 (l : Launch) (dC : Nat → ClassId) (dI : Nat → Nat → Nat) (sz : Nat) (p0 : Int32) (hc_0 : ¬ p0 < 48) (hc_1 : ¬ 57 < p0) : Met l yX11_isDigit wsX11_isDigit ({ frames := 0, cells := 0, slots := 0, locals := 0 }) (zPc dC dI sz [.int p0] [] []) (va_Qi (fun (r : Int32) (_ : Unit) => r = 1) (zB dC dI (fun _ => []) (fun _ : Unit => []) (va_A [] sz)) (va_A [] sz)) 0 0 (va_A [] sz) := by
  refine Met.ofW (cc := cX11_isDigit) (maxL := 1) (ret := (some .boolean)) (by decide) rfl ?_
  intro p e s m args below meth c s₁ B hml hv
  obtain ⟨rfl, hsz, hP, hK, hD0⟩ := hv
  have hx := B.exec
  have hb := B.bytes
  have hr := B.returns
  have hts := atoms_spec (ws := wsX11_isDigit) B.pre
  have hown : s.vm.findClass RX11 = some m.cls := findClass_of_methodNamed B.named
  have hlocks := B.notSynchronized
  subst hsz
  have hD := hD0.self (sz := s.heap.size)
  generalize hAe : va_A [] s.heap.size = A at hD ⊢
  have hA : ∀ q : Nat, s.heap.size ≤ q → A q := fun q h => by rw [← hAe]; exact Or.inr h
  have hS : va_S A s.heap s.heap [] := va_S.rf
  have hP : va_P (dC, dI) vwCl [] s.heap := hP
  have hl := lv_entry ([.int p0]) (n := 1) (Nat.le_of_ble_eq_true rfl)
  rw [lg_entry_eq]
  generalize (lg_sl ([.int p0]) ++ List.replicate (1 - (lg_sl ([.int p0])).length) Slot.unset).toArray = ls at hl ⊢
  have hl : lv_has ls 1 [(0, .int p0)] := hl
  refine lv_iload_n hx hb dX11_isDigit_0 rfl (lv_at hl 0 rfl) ?_
  refine lv_bipush (v := 48) hx hb dX11_isDigit_1 (by decide) ?_
  refine lv_icmp_lt (tgt := 16) hx hb dX11_isDigit_3 (by decide) (fun c_1 => absurd c_1 hc_0) (fun c_1 => ?_)
  refine lv_iload_n hx hb dX11_isDigit_6 rfl (lv_at hl 0 rfl) ?_
  refine lv_bipush (v := 57) hx hb dX11_isDigit_7 (by decide) ?_
  refine lv_icmp_gt (tgt := 16) hx hb dX11_isDigit_9 (by decide) (fun c_2 => absurd c_2 hc_1) (fun c_2 => ?_)
  refine lv_iconst (v := 1) hx hb dX11_isDigit_12 (by decide) ?_
  refine lv_goto (tgt := 17) hx hb dX11_isDigit_13 (by decide) ?_
  have hP9 := hP.sub (ws' := []) [] rfl
  have hD9 := hD.sub (ws' := []) [] (by decide) rfl
  have hK9 := hK.sub (tys' := []) [] rfl
  exact W.zret (v := 1) hx hb hr (by first | rfl | decide) (fun t ht hW => ⟨⟨1, (), rfl, rfl, (zB_mk (by rw [ht]; exact hP9) (va_K.moved hW.alike hK9) hD9)⟩, hS.F ht⟩) hS.2.2 dX11_isDigit_17
set_option maxHeartbeats 4000000 in
set_option maxRecDepth 100000 in
/-- X11_isLetter, a road -/
theorem c_X11_isLetter_r0 (l : Launch) (dC : Nat → ClassId) (dI : Nat → Nat → Nat) (sz : Nat) (p0 : Int32) (hc_0 : p0 < 97) : Met l yX11_isLetter wsX11_isLetter ({ frames := 0, cells := 0, slots := 0, locals := 0 }) (zPc dC dI sz [.int p0] [] []) (va_Qi (fun (r : Int32) (_ : Unit) => r = 0) (zB dC dI (fun _ => []) (fun _ : Unit => []) (va_A [] sz)) (va_A [] sz)) 0 0 (va_A [] sz) := by
  refine Met.ofW (cc := cX11_isLetter) (maxL := 1) (ret := (some .boolean)) (by decide) rfl ?_
  intro p e s m args below meth c s₁ B hml hv
  obtain ⟨rfl, hsz, hP, hK, hD0⟩ := hv
  have hx := B.exec
  have hb := B.bytes
  have hr := B.returns
  have hts := atoms_spec (ws := wsX11_isLetter) B.pre
  have hown : s.vm.findClass RX11 = some m.cls := findClass_of_methodNamed B.named
  have hlocks := B.notSynchronized
  subst hsz
  have hD := hD0.self (sz := s.heap.size)
  generalize hAe : va_A [] s.heap.size = A at hD ⊢
  have hA : ∀ q : Nat, s.heap.size ≤ q → A q := fun q h => by rw [← hAe]; exact Or.inr h
  have hS : va_S A s.heap s.heap [] := va_S.rf
  have hP : va_P (dC, dI) vwCl [] s.heap := hP
  have hl := lv_entry ([.int p0]) (n := 1) (Nat.le_of_ble_eq_true rfl)
  rw [lg_entry_eq]
  generalize (lg_sl ([.int p0]) ++ List.replicate (1 - (lg_sl ([.int p0])).length) Slot.unset).toArray = ls at hl ⊢
  have hl : lv_has ls 1 [(0, .int p0)] := hl
  refine lv_iload_n hx hb dX11_isLetter_0 rfl (lv_at hl 0 rfl) ?_
  refine lv_bipush (v := 97) hx hb dX11_isLetter_1 (by decide) ?_
  refine lv_icmp_lt (tgt := 16) hx hb dX11_isLetter_3 (by decide) (fun c_1 => ?_) (fun c_1 => absurd hc_0 c_1)
  refine lv_iconst (v := 0) hx hb dX11_isLetter_16 (by decide) ?_
  have hP9 := hP.sub (ws' := []) [] rfl
  have hD9 := hD.sub (ws' := []) [] (by decide) rfl
  have hK9 := hK.sub (tys' := []) [] rfl
  exact W.zret (v := 0) hx hb hr (by first | rfl | decide) (fun t ht hW => ⟨⟨0, (), rfl, rfl, (zB_mk (by rw [ht]; exact hP9) (va_K.moved hW.alike hK9) hD9)⟩, hS.F ht⟩) hS.2.2 dX11_isLetter_17
set_option maxHeartbeats 4000000 in
set_option maxRecDepth 100000 in
/-- X11_isLetter, a road -/
theorem c_X11_isLetter_r1 (l : Launch) (dC : Nat → ClassId) (dI : Nat → Nat → Nat) (sz : Nat) (p0 : Int32) (hc_0 : ¬ p0 < 97) (hc_1 : 122 < p0) : Met l yX11_isLetter wsX11_isLetter ({ frames := 0, cells := 0, slots := 0, locals := 0 }) (zPc dC dI sz [.int p0] [] []) (va_Qi (fun (r : Int32) (_ : Unit) => r = 0) (zB dC dI (fun _ => []) (fun _ : Unit => []) (va_A [] sz)) (va_A [] sz)) 0 0 (va_A [] sz) := by
  refine Met.ofW (cc := cX11_isLetter) (maxL := 1) (ret := (some .boolean)) (by decide) rfl ?_
  intro p e s m args below meth c s₁ B hml hv
  obtain ⟨rfl, hsz, hP, hK, hD0⟩ := hv
  have hx := B.exec
  have hb := B.bytes
  have hr := B.returns
  have hts := atoms_spec (ws := wsX11_isLetter) B.pre
  have hown : s.vm.findClass RX11 = some m.cls := findClass_of_methodNamed B.named
  have hlocks := B.notSynchronized
  subst hsz
  have hD := hD0.self (sz := s.heap.size)
  generalize hAe : va_A [] s.heap.size = A at hD ⊢
  have hA : ∀ q : Nat, s.heap.size ≤ q → A q := fun q h => by rw [← hAe]; exact Or.inr h
  have hS : va_S A s.heap s.heap [] := va_S.rf
  have hP : va_P (dC, dI) vwCl [] s.heap := hP
  have hl := lv_entry ([.int p0]) (n := 1) (Nat.le_of_ble_eq_true rfl)
  rw [lg_entry_eq]
  generalize (lg_sl ([.int p0]) ++ List.replicate (1 - (lg_sl ([.int p0])).length) Slot.unset).toArray = ls at hl ⊢
  have hl : lv_has ls 1 [(0, .int p0)] := hl
  refine lv_iload_n hx hb dX11_isLetter_0 rfl (lv_at hl 0 rfl) ?_
  refine lv_bipush (v := 97) hx hb dX11_isLetter_1 (by decide) ?_
  refine lv_icmp_lt (tgt := 16) hx hb dX11_isLetter_3 (by decide) (fun c_1 => absurd c_1 hc_0) (fun c_1 => ?_)
  refine lv_iload_n hx hb dX11_isLetter_6 rfl (lv_at hl 0 rfl) ?_
  refine lv_bipush (v := 122) hx hb dX11_isLetter_7 (by decide) ?_
  refine lv_icmp_gt (tgt := 16) hx hb dX11_isLetter_9 (by decide) (fun c_2 => ?_) (fun c_2 => absurd hc_1 c_2)
  refine lv_iconst (v := 0) hx hb dX11_isLetter_16 (by decide) ?_
  have hP9 := hP.sub (ws' := []) [] rfl
  have hD9 := hD.sub (ws' := []) [] (by decide) rfl
  have hK9 := hK.sub (tys' := []) [] rfl
  exact W.zret (v := 0) hx hb hr (by first | rfl | decide) (fun t ht hW => ⟨⟨0, (), rfl, rfl, (zB_mk (by rw [ht]; exact hP9) (va_K.moved hW.alike hK9) hD9)⟩, hS.F ht⟩) hS.2.2 dX11_isLetter_17
set_option maxHeartbeats 4000000 in
set_option maxRecDepth 100000 in
/-- X11_isLetter, a road -/
theorem c_X11_isLetter_r2 (l : Launch) (dC : Nat → ClassId) (dI : Nat → Nat → Nat) (sz : Nat) (p0 : Int32) (hc_0 : ¬ p0 < 97) (hc_1 : ¬ 122 < p0) : Met l yX11_isLetter wsX11_isLetter ({ frames := 0, cells := 0, slots := 0, locals := 0 }) (zPc dC dI sz [.int p0] [] []) (va_Qi (fun (r : Int32) (_ : Unit) => r = 1) (zB dC dI (fun _ => []) (fun _ : Unit => []) (va_A [] sz)) (va_A [] sz)) 0 0 (va_A [] sz) := by
  refine Met.ofW (cc := cX11_isLetter) (maxL := 1) (ret := (some .boolean)) (by decide) rfl ?_
  intro p e s m args below meth c s₁ B hml hv
  obtain ⟨rfl, hsz, hP, hK, hD0⟩ := hv
  have hx := B.exec
  have hb := B.bytes
  have hr := B.returns
  have hts := atoms_spec (ws := wsX11_isLetter) B.pre
  have hown : s.vm.findClass RX11 = some m.cls := findClass_of_methodNamed B.named
  have hlocks := B.notSynchronized
  subst hsz
  have hD := hD0.self (sz := s.heap.size)
  generalize hAe : va_A [] s.heap.size = A at hD ⊢
  have hA : ∀ q : Nat, s.heap.size ≤ q → A q := fun q h => by rw [← hAe]; exact Or.inr h
  have hS : va_S A s.heap s.heap [] := va_S.rf
  have hP : va_P (dC, dI) vwCl [] s.heap := hP
  have hl := lv_entry ([.int p0]) (n := 1) (Nat.le_of_ble_eq_true rfl)
  rw [lg_entry_eq]
  generalize (lg_sl ([.int p0]) ++ List.replicate (1 - (lg_sl ([.int p0])).length) Slot.unset).toArray = ls at hl ⊢
  have hl : lv_has ls 1 [(0, .int p0)] := hl
  refine lv_iload_n hx hb dX11_isLetter_0 rfl (lv_at hl 0 rfl) ?_
  refine lv_bipush (v := 97) hx hb dX11_isLetter_1 (by decide) ?_
  refine lv_icmp_lt (tgt := 16) hx hb dX11_isLetter_3 (by decide) (fun c_1 => absurd c_1 hc_0) (fun c_1 => ?_)
  refine lv_iload_n hx hb dX11_isLetter_6 rfl (lv_at hl 0 rfl) ?_
  refine lv_bipush (v := 122) hx hb dX11_isLetter_7 (by decide) ?_
  refine lv_icmp_gt (tgt := 16) hx hb dX11_isLetter_9 (by decide) (fun c_2 => absurd c_2 hc_1) (fun c_2 => ?_)
  refine lv_iconst (v := 1) hx hb dX11_isLetter_12 (by decide) ?_
  refine lv_goto (tgt := 17) hx hb dX11_isLetter_13 (by decide) ?_
  have hP9 := hP.sub (ws' := []) [] rfl
  have hD9 := hD.sub (ws' := []) [] (by decide) rfl
  have hK9 := hK.sub (tys' := []) [] rfl
  exact W.zret (v := 1) hx hb hr (by first | rfl | decide) (fun t ht hW => ⟨⟨1, (), rfl, rfl, (zB_mk (by rw [ht]; exact hP9) (va_K.moved hW.alike hK9) hD9)⟩, hS.F ht⟩) hS.2.2 dX11_isLetter_17
theorem iw_X12_fault_X12 : ∀ w ∈ wsX120, w ∈ wsX12_fault := fun w h => List.mem_cons_of_mem _ (List.mem_append_right _ h)
set_option maxHeartbeats 4000000 in
set_option maxRecDepth 100000 in
/-- X12_fault, a road -/
theorem c_X12_fault_r0 (l : Launch) (dC : Nat → ClassId) (dI : Nat → Nat → Nat) (sz : Nat) (h0 : Nat) (fs0 : List Value) (p0 : Int32) (p1 : Int32) (hl0 : fs0.length = 13) : Met l yX12_fault wsX12_fault ({ frames := 0, cells := 0, slots := 0, locals := 0 }) (zPc dC dI sz [.ref h0, .int p0, .int p1] [(h0, .inr (14, fs0))] []) (va_Qi (fun (r : Int32) (_ : Unit) => r = p0) (zB dC dI (fun _ => []) (fun _ : Unit => [(h0, .inr (14, (fs0.set 5 (.int p1))))]) (va_A [(h0, .inr (14, fs0))] sz)) (va_A [(h0, .inr (14, fs0))] sz)) 0 0 (va_A [(h0, .inr (14, fs0))] sz) := by
  refine Met.ofW (cc := cX12_fault) (maxL := 3) (ret := (some .int)) (by decide) rfl ?_
  intro p e s m args below meth c s₁ B hml hv
  obtain ⟨rfl, hsz, hP, hK, hD0⟩ := hv
  have hx := B.exec
  have hb := B.bytes
  have hr := B.returns
  have hts := atoms_spec (ws := wsX12_fault) B.pre
  have hown : s.vm.findClass RX12 = some m.cls := findClass_of_methodNamed B.named
  have hlocks := B.notSynchronized
  subst hsz
  have hD := hD0.self (sz := s.heap.size)
  generalize hAe : va_A [(h0, .inr (14, fs0))] s.heap.size = A at hD ⊢
  have hA : ∀ q : Nat, s.heap.size ≤ q → A q := fun q h => by rw [← hAe]; exact Or.inr h
  have hS : va_S A s.heap s.heap [] := va_S.rf
  have hP : va_P (dC, dI) vwCl [(h0, .inr (14, fs0))] s.heap := hP
  have hl := lv_entry ([.ref h0, .int p0, .int p1]) (n := 3) (Nat.le_of_ble_eq_true rfl)
  rw [lg_entry_eq]
  generalize (lg_sl ([.ref h0, .int p0, .int p1]) ++ List.replicate (3 - (lg_sl ([.ref h0, .int p0, .int p1])).length) Slot.unset).toArray = ls at hl ⊢
  have hl : lv_has ls 3 [(0, .ref h0), (1, .int p0), (2, .int p1)] := hl
  refine lv_aload_n hx hb dX12_fault_0 rfl (lv_at hl 0 rfl) ?_
  refine lv_iload_n hx hb dX12_fault_1 rfl (lv_at hl 2 rfl) ?_
  refine va_put (D := (dC, dI)) (ci := 14) (v := .int p1) (ty := .int) (C := RX12) (T := TX12) (N := 13) hx hb hts iw_X12_fault_X12 tyX12 tyX12_ok nmX12 hown hK hP hD hS 0 rfl rfl 5 (by decide) (hts (.fieldLink RX12 13 "LiquidTongue" "place" "I") (by decide +kernel)) (fun _ h9 => h9) rfl (by decide +kernel) rfl rfl (zs_lt hl0 (by decide)) dX12_fault_2 (fun H locs hP hD hS => ?_)
  have hP : va_P (dC, dI) vwCl [(h0, .inr (14, (fs0.set 5 (.int p1))))] H := hP
  have hD : va_D A [(h0, .inr (14, (fs0.set 5 (.int p1))))] := hD
  refine lv_iload_n hx hb dX12_fault_5 rfl (lv_at hl 1 rfl) ?_
  have hP9 := hP.sub (ws' := [(h0, .inr (14, (fs0.set 5 (.int p1))))]) [0] rfl
  have hD9 := hD.sub (ws' := [(h0, .inr (14, (fs0.set 5 (.int p1))))]) [0] (by decide) rfl
  have hK9 := hK.sub (tys' := []) [] rfl
  exact W.iret (v := p0) hx hb hr (fun t ht hW => ⟨⟨p0, (), rfl, rfl, (zB_mk (by rw [ht]; exact hP9) (va_K.moved hW.alike hK9) hD9)⟩, hS.F ht⟩) hS.2.2 dX12_fault_6
theorem iw_X13_bounded_X13 : ∀ w ∈ wsX130, w ∈ wsX13_bounded := fun w h => List.mem_cons_of_mem _ (List.mem_append_right _ h)
set_option maxHeartbeats 4000000 in
set_option maxRecDepth 100000 in
/-- X13_bounded, a road -/
theorem c_X13_bounded_r0 (l : Launch) (dC : Nat → ClassId) (dI : Nat → Nat → Nat) (sz : Nat) (h0 : Nat) (fs0 : List Value) (p0 : Int64) (v0_191 : Int32) (hl0 : fs0.length = 196) (hf0_191 : fs0[191]? = some (.int v0_191)) (hc_0 : 0 < (lg_cmp p0 1099511627776)) (hc_1 : ¬ v0_191 = 0) : Met l yX13_bounded wsX13_bounded ({ frames := 0, cells := 0, slots := 0, locals := 0 }) (zPc dC dI sz [.ref h0, .long p0] [(h0, .inr (15, fs0))] []) (va_Ql (fun (r : Int64) (_ : Unit) => r = p0) (zB dC dI (fun _ => []) (fun _ : Unit => [(h0, .inr (15, fs0))]) (va_A [(h0, .inr (15, fs0))] sz)) (va_A [(h0, .inr (15, fs0))] sz)) 0 0 (va_A [(h0, .inr (15, fs0))] sz) := by
  refine Met.ofW (cc := cX13_bounded) (maxL := 3) (ret := (some .long)) (by decide) rfl ?_
  intro p e s m args below meth c s₁ B hml hv
  obtain ⟨rfl, hsz, hP, hK, hD0⟩ := hv
  have hx := B.exec
  have hb := B.bytes
  have hr := B.returns
  have hts := atoms_spec (ws := wsX13_bounded) B.pre
  have hown : s.vm.findClass RX13 = some m.cls := findClass_of_methodNamed B.named
  have hlocks := B.notSynchronized
  subst hsz
  have hD := hD0.self (sz := s.heap.size)
  generalize hAe : va_A [(h0, .inr (15, fs0))] s.heap.size = A at hD ⊢
  have hA : ∀ q : Nat, s.heap.size ≤ q → A q := fun q h => by rw [← hAe]; exact Or.inr h
  have hS : va_S A s.heap s.heap [] := va_S.rf
  have hP : va_P (dC, dI) vwCl [(h0, .inr (15, fs0))] s.heap := hP
  have hl := lv_entry ([.ref h0, .long p0]) (n := 3) (Nat.le_of_ble_eq_true rfl)
  rw [lg_entry_eq]
  generalize (lg_sl ([.ref h0, .long p0]) ++ List.replicate (3 - (lg_sl ([.ref h0, .long p0])).length) Slot.unset).toArray = ls at hl ⊢
  have hl : lv_has ls 3 [(0, .ref h0), (1, .long p0)] := hl
  refine lv_lload_n hx hb dX13_bounded_0 rfl (lv_at hl 1 rfl) ?_
  refine lv_ldc2 (v := 1099511627776) hx hb hown (hts (.constantLong RX13 1027 (1099511627776)) (by decide +kernel)) dX13_bounded_1 ?_
  refine W.lcmp hx hb dX13_bounded_4 ?_
  refine lv_if_gt (tgt := 16) hx hb dX13_bounded_5 (by decide) (fun c_1 => ?_) (fun c_1 => absurd hc_0 c_1)
  refine lv_aload_n hx hb dX13_bounded_16 rfl (lv_at hl 0 rfl) ?_
  refine va_get (D := (dC, dI)) (ci := 15) (v := .int v0_191) (C := RX13) (T := TX13) (N := 196) hx hb hts iw_X13_bounded_X13 hown hK hP 0 rfl rfl 191 (by decide) (hts (.fieldLink RX13 1031 "LiquidTongueModel" "ends" "I") (by decide +kernel)) (fun _ h9 => h9) hf0_191 dX13_bounded_17 ?_
  refine lv_if_ne (tgt := 28) hx hb dX13_bounded_20 (by decide) (fun c_2 => ?_) (fun c_2 => absurd c_2 hc_1)
  refine lv_lload_n hx hb dX13_bounded_28 rfl (lv_at hl 1 rfl) ?_
  have hP9 := hP.sub (ws' := [(h0, .inr (15, fs0))]) [0] rfl
  have hD9 := hD.sub (ws' := [(h0, .inr (15, fs0))]) [0] (by decide) rfl
  have hK9 := hK.sub (tys' := []) [] rfl
  exact W.lret (v := p0) hx hb hr (fun t ht hW => ⟨⟨p0, (), rfl, rfl, (zB_mk (by rw [ht]; exact hP9) (va_K.moved hW.alike hK9) hD9)⟩, hS.F ht⟩) hS.2.2 dX13_bounded_29
set_option maxHeartbeats 4000000 in
set_option maxRecDepth 100000 in
/-- X13_bounded, a road -/
theorem c_X13_bounded_r1 (l : Launch) (dC : Nat → ClassId) (dI : Nat → Nat → Nat) (sz : Nat) (h0 : Nat) (fs0 : List Value) (p0 : Int64) (v0_191 : Int32) (hl0 : fs0.length = 196) (hf0_191 : fs0[191]? = some (.int v0_191)) (hc_0 : 0 < (lg_cmp p0 1099511627776)) (hc_1 : v0_191 = 0) : Met l yX13_bounded wsX13_bounded ({ frames := 0, cells := 0, slots := 0, locals := 0 }) (zPc dC dI sz [.ref h0, .long p0] [(h0, .inr (15, fs0))] []) (va_Ql (fun (r : Int64) (_ : Unit) => r = p0) (zB dC dI (fun _ => []) (fun _ : Unit => [(h0, .inr (15, (fs0.set 191 (.int 2))))]) (va_A [(h0, .inr (15, fs0))] sz)) (va_A [(h0, .inr (15, fs0))] sz)) 0 0 (va_A [(h0, .inr (15, fs0))] sz) := by
  refine Met.ofW (cc := cX13_bounded) (maxL := 3) (ret := (some .long)) (by decide) rfl ?_
  intro p e s m args below meth c s₁ B hml hv
  obtain ⟨rfl, hsz, hP, hK, hD0⟩ := hv
  have hx := B.exec
  have hb := B.bytes
  have hr := B.returns
  have hts := atoms_spec (ws := wsX13_bounded) B.pre
  have hown : s.vm.findClass RX13 = some m.cls := findClass_of_methodNamed B.named
  have hlocks := B.notSynchronized
  subst hsz
  have hD := hD0.self (sz := s.heap.size)
  generalize hAe : va_A [(h0, .inr (15, fs0))] s.heap.size = A at hD ⊢
  have hA : ∀ q : Nat, s.heap.size ≤ q → A q := fun q h => by rw [← hAe]; exact Or.inr h
  have hS : va_S A s.heap s.heap [] := va_S.rf
  have hP : va_P (dC, dI) vwCl [(h0, .inr (15, fs0))] s.heap := hP
  have hl := lv_entry ([.ref h0, .long p0]) (n := 3) (Nat.le_of_ble_eq_true rfl)
  rw [lg_entry_eq]
  generalize (lg_sl ([.ref h0, .long p0]) ++ List.replicate (3 - (lg_sl ([.ref h0, .long p0])).length) Slot.unset).toArray = ls at hl ⊢
  have hl : lv_has ls 3 [(0, .ref h0), (1, .long p0)] := hl
  refine lv_lload_n hx hb dX13_bounded_0 rfl (lv_at hl 1 rfl) ?_
  refine lv_ldc2 (v := 1099511627776) hx hb hown (hts (.constantLong RX13 1027 (1099511627776)) (by decide +kernel)) dX13_bounded_1 ?_
  refine W.lcmp hx hb dX13_bounded_4 ?_
  refine lv_if_gt (tgt := 16) hx hb dX13_bounded_5 (by decide) (fun c_1 => ?_) (fun c_1 => absurd hc_0 c_1)
  refine lv_aload_n hx hb dX13_bounded_16 rfl (lv_at hl 0 rfl) ?_
  refine va_get (D := (dC, dI)) (ci := 15) (v := .int v0_191) (C := RX13) (T := TX13) (N := 196) hx hb hts iw_X13_bounded_X13 hown hK hP 0 rfl rfl 191 (by decide) (hts (.fieldLink RX13 1031 "LiquidTongueModel" "ends" "I") (by decide +kernel)) (fun _ h9 => h9) hf0_191 dX13_bounded_17 ?_
  refine lv_if_ne (tgt := 28) hx hb dX13_bounded_20 (by decide) (fun c_2 => absurd hc_1 c_2) (fun c_2 => ?_)
  refine lv_aload_n hx hb dX13_bounded_23 rfl (lv_at hl 0 rfl) ?_
  refine lv_iconst (v := 2) hx hb dX13_bounded_24 (by decide) ?_
  refine va_put (D := (dC, dI)) (ci := 15) (v := .int 2) (ty := .int) (C := RX13) (T := TX13) (N := 196) hx hb hts iw_X13_bounded_X13 tyX13 tyX13_ok nmX13 hown hK hP hD hS 0 rfl rfl 191 (by decide) (hts (.fieldLink RX13 1031 "LiquidTongueModel" "ends" "I") (by decide +kernel)) (fun _ h9 => h9) rfl (by decide +kernel) rfl rfl (zs_lt hl0 (by decide)) dX13_bounded_25 (fun H locs hP hD hS => ?_)
  have hP : va_P (dC, dI) vwCl [(h0, .inr (15, (fs0.set 191 (.int 2))))] H := hP
  have hD : va_D A [(h0, .inr (15, (fs0.set 191 (.int 2))))] := hD
  refine lv_lload_n hx hb dX13_bounded_28 rfl (lv_at hl 1 rfl) ?_
  have hP9 := hP.sub (ws' := [(h0, .inr (15, (fs0.set 191 (.int 2))))]) [0] rfl
  have hD9 := hD.sub (ws' := [(h0, .inr (15, (fs0.set 191 (.int 2))))]) [0] (by decide) rfl
  have hK9 := hK.sub (tys' := []) [] rfl
  exact W.lret (v := p0) hx hb hr (fun t ht hW => ⟨⟨p0, (), rfl, rfl, (zB_mk (by rw [ht]; exact hP9) (va_K.moved hW.alike hK9) hD9)⟩, hS.F ht⟩) hS.2.2 dX13_bounded_29
set_option maxHeartbeats 4000000 in
set_option maxRecDepth 100000 in
/-- X13_bounded, a road -/
theorem c_X13_bounded_r2 (l : Launch) (dC : Nat → ClassId) (dI : Nat → Nat → Nat) (sz : Nat) (h0 : Nat) (fs0 : List Value) (p0 : Int64) (hl0 : fs0.length = 196) (hc_0 : ¬ 0 < (lg_cmp p0 1099511627776)) (hc_1 : 0 ≤ (lg_cmp p0 (-1099511627776))) : Met l yX13_bounded wsX13_bounded ({ frames := 0, cells := 0, slots := 0, locals := 0 }) (zPc dC dI sz [.ref h0, .long p0] [(h0, .inr (15, fs0))] []) (va_Ql (fun (r : Int64) (_ : Unit) => r = p0) (zB dC dI (fun _ => []) (fun _ : Unit => [(h0, .inr (15, fs0))]) (va_A [(h0, .inr (15, fs0))] sz)) (va_A [(h0, .inr (15, fs0))] sz)) 0 0 (va_A [(h0, .inr (15, fs0))] sz) := by
  refine Met.ofW (cc := cX13_bounded) (maxL := 3) (ret := (some .long)) (by decide) rfl ?_
  intro p e s m args below meth c s₁ B hml hv
  obtain ⟨rfl, hsz, hP, hK, hD0⟩ := hv
  have hx := B.exec
  have hb := B.bytes
  have hr := B.returns
  have hts := atoms_spec (ws := wsX13_bounded) B.pre
  have hown : s.vm.findClass RX13 = some m.cls := findClass_of_methodNamed B.named
  have hlocks := B.notSynchronized
  subst hsz
  have hD := hD0.self (sz := s.heap.size)
  generalize hAe : va_A [(h0, .inr (15, fs0))] s.heap.size = A at hD ⊢
  have hA : ∀ q : Nat, s.heap.size ≤ q → A q := fun q h => by rw [← hAe]; exact Or.inr h
  have hS : va_S A s.heap s.heap [] := va_S.rf
  have hP : va_P (dC, dI) vwCl [(h0, .inr (15, fs0))] s.heap := hP
  have hl := lv_entry ([.ref h0, .long p0]) (n := 3) (Nat.le_of_ble_eq_true rfl)
  rw [lg_entry_eq]
  generalize (lg_sl ([.ref h0, .long p0]) ++ List.replicate (3 - (lg_sl ([.ref h0, .long p0])).length) Slot.unset).toArray = ls at hl ⊢
  have hl : lv_has ls 3 [(0, .ref h0), (1, .long p0)] := hl
  refine lv_lload_n hx hb dX13_bounded_0 rfl (lv_at hl 1 rfl) ?_
  refine lv_ldc2 (v := 1099511627776) hx hb hown (hts (.constantLong RX13 1027 (1099511627776)) (by decide +kernel)) dX13_bounded_1 ?_
  refine W.lcmp hx hb dX13_bounded_4 ?_
  refine lv_if_gt (tgt := 16) hx hb dX13_bounded_5 (by decide) (fun c_1 => absurd c_1 hc_0) (fun c_1 => ?_)
  refine lv_lload_n hx hb dX13_bounded_8 rfl (lv_at hl 1 rfl) ?_
  refine lv_ldc2 (v := -1099511627776) hx hb hown (hts (.constantLong RX13 1029 (-1099511627776)) (by decide +kernel)) dX13_bounded_9 ?_
  refine W.lcmp hx hb dX13_bounded_12 ?_
  refine lv_if_ge (tgt := 28) hx hb dX13_bounded_13 (by decide) (fun c_2 => ?_) (fun c_2 => absurd hc_1 c_2)
  refine lv_lload_n hx hb dX13_bounded_28 rfl (lv_at hl 1 rfl) ?_
  have hP9 := hP.sub (ws' := [(h0, .inr (15, fs0))]) [0] rfl
  have hD9 := hD.sub (ws' := [(h0, .inr (15, fs0))]) [0] (by decide) rfl
  have hK9 := hK.sub (tys' := []) [] rfl
  exact W.lret (v := p0) hx hb hr (fun t ht hW => ⟨⟨p0, (), rfl, rfl, (zB_mk (by rw [ht]; exact hP9) (va_K.moved hW.alike hK9) hD9)⟩, hS.F ht⟩) hS.2.2 dX13_bounded_29
set_option maxHeartbeats 4000000 in
set_option maxRecDepth 100000 in
/-- X13_bounded, a road -/
theorem c_X13_bounded_r3 (l : Launch) (dC : Nat → ClassId) (dI : Nat → Nat → Nat) (sz : Nat) (h0 : Nat) (fs0 : List Value) (p0 : Int64) (v0_191 : Int32) (hl0 : fs0.length = 196) (hf0_191 : fs0[191]? = some (.int v0_191)) (hc_0 : ¬ 0 < (lg_cmp p0 1099511627776)) (hc_1 : ¬ 0 ≤ (lg_cmp p0 (-1099511627776))) (hc_2 : ¬ v0_191 = 0) : Met l yX13_bounded wsX13_bounded ({ frames := 0, cells := 0, slots := 0, locals := 0 }) (zPc dC dI sz [.ref h0, .long p0] [(h0, .inr (15, fs0))] []) (va_Ql (fun (r : Int64) (_ : Unit) => r = p0) (zB dC dI (fun _ => []) (fun _ : Unit => [(h0, .inr (15, fs0))]) (va_A [(h0, .inr (15, fs0))] sz)) (va_A [(h0, .inr (15, fs0))] sz)) 0 0 (va_A [(h0, .inr (15, fs0))] sz) := by
  refine Met.ofW (cc := cX13_bounded) (maxL := 3) (ret := (some .long)) (by decide) rfl ?_
  intro p e s m args below meth c s₁ B hml hv
  obtain ⟨rfl, hsz, hP, hK, hD0⟩ := hv
  have hx := B.exec
  have hb := B.bytes
  have hr := B.returns
  have hts := atoms_spec (ws := wsX13_bounded) B.pre
  have hown : s.vm.findClass RX13 = some m.cls := findClass_of_methodNamed B.named
  have hlocks := B.notSynchronized
  subst hsz
  have hD := hD0.self (sz := s.heap.size)
  generalize hAe : va_A [(h0, .inr (15, fs0))] s.heap.size = A at hD ⊢
  have hA : ∀ q : Nat, s.heap.size ≤ q → A q := fun q h => by rw [← hAe]; exact Or.inr h
  have hS : va_S A s.heap s.heap [] := va_S.rf
  have hP : va_P (dC, dI) vwCl [(h0, .inr (15, fs0))] s.heap := hP
  have hl := lv_entry ([.ref h0, .long p0]) (n := 3) (Nat.le_of_ble_eq_true rfl)
  rw [lg_entry_eq]
  generalize (lg_sl ([.ref h0, .long p0]) ++ List.replicate (3 - (lg_sl ([.ref h0, .long p0])).length) Slot.unset).toArray = ls at hl ⊢
  have hl : lv_has ls 3 [(0, .ref h0), (1, .long p0)] := hl
  refine lv_lload_n hx hb dX13_bounded_0 rfl (lv_at hl 1 rfl) ?_
  refine lv_ldc2 (v := 1099511627776) hx hb hown (hts (.constantLong RX13 1027 (1099511627776)) (by decide +kernel)) dX13_bounded_1 ?_
  refine W.lcmp hx hb dX13_bounded_4 ?_
  refine lv_if_gt (tgt := 16) hx hb dX13_bounded_5 (by decide) (fun c_1 => absurd c_1 hc_0) (fun c_1 => ?_)
  refine lv_lload_n hx hb dX13_bounded_8 rfl (lv_at hl 1 rfl) ?_
  refine lv_ldc2 (v := -1099511627776) hx hb hown (hts (.constantLong RX13 1029 (-1099511627776)) (by decide +kernel)) dX13_bounded_9 ?_
  refine W.lcmp hx hb dX13_bounded_12 ?_
  refine lv_if_ge (tgt := 28) hx hb dX13_bounded_13 (by decide) (fun c_2 => absurd c_2 hc_1) (fun c_2 => ?_)
  refine lv_aload_n hx hb dX13_bounded_16 rfl (lv_at hl 0 rfl) ?_
  refine va_get (D := (dC, dI)) (ci := 15) (v := .int v0_191) (C := RX13) (T := TX13) (N := 196) hx hb hts iw_X13_bounded_X13 hown hK hP 0 rfl rfl 191 (by decide) (hts (.fieldLink RX13 1031 "LiquidTongueModel" "ends" "I") (by decide +kernel)) (fun _ h9 => h9) hf0_191 dX13_bounded_17 ?_
  refine lv_if_ne (tgt := 28) hx hb dX13_bounded_20 (by decide) (fun c_3 => ?_) (fun c_3 => absurd c_3 hc_2)
  refine lv_lload_n hx hb dX13_bounded_28 rfl (lv_at hl 1 rfl) ?_
  have hP9 := hP.sub (ws' := [(h0, .inr (15, fs0))]) [0] rfl
  have hD9 := hD.sub (ws' := [(h0, .inr (15, fs0))]) [0] (by decide) rfl
  have hK9 := hK.sub (tys' := []) [] rfl
  exact W.lret (v := p0) hx hb hr (fun t ht hW => ⟨⟨p0, (), rfl, rfl, (zB_mk (by rw [ht]; exact hP9) (va_K.moved hW.alike hK9) hD9)⟩, hS.F ht⟩) hS.2.2 dX13_bounded_29
set_option maxHeartbeats 4000000 in
set_option maxRecDepth 100000 in
/-- X13_bounded, a road -/
theorem c_X13_bounded_r4 (l : Launch) (dC : Nat → ClassId) (dI : Nat → Nat → Nat) (sz : Nat) (h0 : Nat) (fs0 : List Value) (p0 : Int64) (v0_191 : Int32) (hl0 : fs0.length = 196) (hf0_191 : fs0[191]? = some (.int v0_191)) (hc_0 : ¬ 0 < (lg_cmp p0 1099511627776)) (hc_1 : ¬ 0 ≤ (lg_cmp p0 (-1099511627776))) (hc_2 : v0_191 = 0) : Met l yX13_bounded wsX13_bounded ({ frames := 0, cells := 0, slots := 0, locals := 0 }) (zPc dC dI sz [.ref h0, .long p0] [(h0, .inr (15, fs0))] []) (va_Ql (fun (r : Int64) (_ : Unit) => r = p0) (zB dC dI (fun _ => []) (fun _ : Unit => [(h0, .inr (15, (fs0.set 191 (.int 2))))]) (va_A [(h0, .inr (15, fs0))] sz)) (va_A [(h0, .inr (15, fs0))] sz)) 0 0 (va_A [(h0, .inr (15, fs0))] sz) := by
  refine Met.ofW (cc := cX13_bounded) (maxL := 3) (ret := (some .long)) (by decide) rfl ?_
  intro p e s m args below meth c s₁ B hml hv
  obtain ⟨rfl, hsz, hP, hK, hD0⟩ := hv
  have hx := B.exec
  have hb := B.bytes
  have hr := B.returns
  have hts := atoms_spec (ws := wsX13_bounded) B.pre
  have hown : s.vm.findClass RX13 = some m.cls := findClass_of_methodNamed B.named
  have hlocks := B.notSynchronized
  subst hsz
  have hD := hD0.self (sz := s.heap.size)
  generalize hAe : va_A [(h0, .inr (15, fs0))] s.heap.size = A at hD ⊢
  have hA : ∀ q : Nat, s.heap.size ≤ q → A q := fun q h => by rw [← hAe]; exact Or.inr h
  have hS : va_S A s.heap s.heap [] := va_S.rf
  have hP : va_P (dC, dI) vwCl [(h0, .inr (15, fs0))] s.heap := hP
  have hl := lv_entry ([.ref h0, .long p0]) (n := 3) (Nat.le_of_ble_eq_true rfl)
  rw [lg_entry_eq]
  generalize (lg_sl ([.ref h0, .long p0]) ++ List.replicate (3 - (lg_sl ([.ref h0, .long p0])).length) Slot.unset).toArray = ls at hl ⊢
  have hl : lv_has ls 3 [(0, .ref h0), (1, .long p0)] := hl
  refine lv_lload_n hx hb dX13_bounded_0 rfl (lv_at hl 1 rfl) ?_
  refine lv_ldc2 (v := 1099511627776) hx hb hown (hts (.constantLong RX13 1027 (1099511627776)) (by decide +kernel)) dX13_bounded_1 ?_
  refine W.lcmp hx hb dX13_bounded_4 ?_
  refine lv_if_gt (tgt := 16) hx hb dX13_bounded_5 (by decide) (fun c_1 => absurd c_1 hc_0) (fun c_1 => ?_)
  refine lv_lload_n hx hb dX13_bounded_8 rfl (lv_at hl 1 rfl) ?_
  refine lv_ldc2 (v := -1099511627776) hx hb hown (hts (.constantLong RX13 1029 (-1099511627776)) (by decide +kernel)) dX13_bounded_9 ?_
  refine W.lcmp hx hb dX13_bounded_12 ?_
  refine lv_if_ge (tgt := 28) hx hb dX13_bounded_13 (by decide) (fun c_2 => absurd c_2 hc_1) (fun c_2 => ?_)
  refine lv_aload_n hx hb dX13_bounded_16 rfl (lv_at hl 0 rfl) ?_
  refine va_get (D := (dC, dI)) (ci := 15) (v := .int v0_191) (C := RX13) (T := TX13) (N := 196) hx hb hts iw_X13_bounded_X13 hown hK hP 0 rfl rfl 191 (by decide) (hts (.fieldLink RX13 1031 "LiquidTongueModel" "ends" "I") (by decide +kernel)) (fun _ h9 => h9) hf0_191 dX13_bounded_17 ?_
  refine lv_if_ne (tgt := 28) hx hb dX13_bounded_20 (by decide) (fun c_3 => absurd hc_2 c_3) (fun c_3 => ?_)
  refine lv_aload_n hx hb dX13_bounded_23 rfl (lv_at hl 0 rfl) ?_
  refine lv_iconst (v := 2) hx hb dX13_bounded_24 (by decide) ?_
  refine va_put (D := (dC, dI)) (ci := 15) (v := .int 2) (ty := .int) (C := RX13) (T := TX13) (N := 196) hx hb hts iw_X13_bounded_X13 tyX13 tyX13_ok nmX13 hown hK hP hD hS 0 rfl rfl 191 (by decide) (hts (.fieldLink RX13 1031 "LiquidTongueModel" "ends" "I") (by decide +kernel)) (fun _ h9 => h9) rfl (by decide +kernel) rfl rfl (zs_lt hl0 (by decide)) dX13_bounded_25 (fun H locs hP hD hS => ?_)
  have hP : va_P (dC, dI) vwCl [(h0, .inr (15, (fs0.set 191 (.int 2))))] H := hP
  have hD : va_D A [(h0, .inr (15, (fs0.set 191 (.int 2))))] := hD
  refine lv_lload_n hx hb dX13_bounded_28 rfl (lv_at hl 1 rfl) ?_
  have hP9 := hP.sub (ws' := [(h0, .inr (15, (fs0.set 191 (.int 2))))]) [0] rfl
  have hD9 := hD.sub (ws' := [(h0, .inr (15, (fs0.set 191 (.int 2))))]) [0] (by decide) rfl
  have hK9 := hK.sub (tys' := []) [] rfl
  exact W.lret (v := p0) hx hb hr (fun t ht hW => ⟨⟨p0, (), rfl, rfl, (zB_mk (by rw [ht]; exact hP9) (va_K.moved hW.alike hK9) hD9)⟩, hS.F ht⟩) hS.2.2 dX13_bounded_29
theorem iw_X13_columnOf_X13 : ∀ w ∈ wsX130, w ∈ wsX13_columnOf := fun w h => List.mem_cons_of_mem _ (List.mem_append_right _ h)
set_option maxHeartbeats 4000000 in
set_option maxRecDepth 100000 in
/-- X13_columnOf, a road -/
theorem c_X13_columnOf_r0 (l : Launch) (dC : Nat → ClassId) (dI : Nat → Nat → Nat) (sz : Nat) (h0 : Nat) (fs0 : List Value) (p0 : Int32) (v0_129 : Nat) (c_v0_129 : ClassId) (f_v0_129 : Nat → Int32) (v0_131 : Int32) (v0_130 : Nat) (c_v0_130 : ClassId) (f_v0_130 : Nat → Int32) (hl0 : fs0.length = 196) (hf0_129 : fs0[129]? = some (.ref v0_129)) (hf0_131 : fs0[131]? = some (.int v0_131)) (hf0_130 : fs0[130]? = some (.ref v0_130)) (hi_0 : vp_in p0 1501) (hi_1 : vp_in p0 1501) (hi_2 : vp_in v0_131 100) (hc_0 : (f_v0_129 (p0).toNatClampNeg) < 0) : Met l yX13_columnOf wsX13_columnOf ({ frames := 0, cells := 0, slots := 0, locals := 0 }) (zPc dC dI sz [.ref h0, .int p0] [(h0, .inr (15, fs0)), (v0_129, .inl (c_v0_129, 1501, .inl f_v0_129)), (v0_130, .inl (c_v0_130, 100, .inl f_v0_130))] [(c_v0_129, .int), (c_v0_130, .int)]) (va_Qi (fun (r : Int32) (_ : Unit) => r = ((v0_131 + 1) - 1)) (zB dC dI (fun _ => [(c_v0_129, .int), (c_v0_130, .int)]) (fun _ : Unit => [(h0, .inr (15, (fs0.set 131 (.int (v0_131 + 1))))), (v0_129, .inl (c_v0_129, 1501, .inl (upd f_v0_129 (p0).toNatClampNeg v0_131))), (v0_130, .inl (c_v0_130, 100, .inl (upd f_v0_130 (v0_131).toNatClampNeg p0)))]) (va_A [(h0, .inr (15, fs0)), (v0_129, .inl (c_v0_129, 1501, .inl f_v0_129)), (v0_130, .inl (c_v0_130, 100, .inl f_v0_130))] sz)) (va_A [(h0, .inr (15, fs0)), (v0_129, .inl (c_v0_129, 1501, .inl f_v0_129)), (v0_130, .inl (c_v0_130, 100, .inl f_v0_130))] sz)) 0 0 (va_A [(h0, .inr (15, fs0)), (v0_129, .inl (c_v0_129, 1501, .inl f_v0_129)), (v0_130, .inl (c_v0_130, 100, .inl f_v0_130))] sz) := by
  refine Met.ofW (cc := cX13_columnOf) (maxL := 2) (ret := (some .int)) (by decide) rfl ?_
  intro p e s m args below meth c s₁ B hml hv
  obtain ⟨rfl, hsz, hP, hK, hD0⟩ := hv
  have hx := B.exec
  have hb := B.bytes
  have hr := B.returns
  have hts := atoms_spec (ws := wsX13_columnOf) B.pre
  have hown : s.vm.findClass RX13 = some m.cls := findClass_of_methodNamed B.named
  have hlocks := B.notSynchronized
  subst hsz
  have hD := hD0.self (sz := s.heap.size)
  generalize hAe : va_A [(h0, .inr (15, fs0)), (v0_129, .inl (c_v0_129, 1501, .inl f_v0_129)), (v0_130, .inl (c_v0_130, 100, .inl f_v0_130))] s.heap.size = A at hD ⊢
  have hA : ∀ q : Nat, s.heap.size ≤ q → A q := fun q h => by rw [← hAe]; exact Or.inr h
  have hS : va_S A s.heap s.heap [] := va_S.rf
  have hP : va_P (dC, dI) vwCl [(h0, .inr (15, fs0)), (v0_129, .inl (c_v0_129, 1501, .inl f_v0_129)), (v0_130, .inl (c_v0_130, 100, .inl f_v0_130))] s.heap := hP
  have hl := lv_entry ([.ref h0, .int p0]) (n := 2) (Nat.le_of_ble_eq_true rfl)
  rw [lg_entry_eq]
  generalize (lg_sl ([.ref h0, .int p0]) ++ List.replicate (2 - (lg_sl ([.ref h0, .int p0])).length) Slot.unset).toArray = ls at hl ⊢
  have hl : lv_has ls 2 [(0, .ref h0), (1, .int p0)] := hl
  refine lv_aload_n hx hb dX13_columnOf_0 rfl (lv_at hl 0 rfl) ?_
  refine va_get (D := (dC, dI)) (ci := 15) (v := .ref v0_129) (C := RX13) (T := TX13) (N := 196) hx hb hts iw_X13_columnOf_X13 hown hK hP 0 rfl rfl 129 (by decide) (hts (.fieldLink RX13 285 "LiquidTongueModel" "column" "[I") (by decide +kernel)) (fun _ h9 => h9) hf0_129 dX13_columnOf_1 ?_
  refine lv_iload_n hx hb dX13_columnOf_4 rfl (lv_at hl 1 rfl) ?_
  refine va_iald hx hb hK hP 1 0 rfl rfl hi_0 dX13_columnOf_5 ?_
  refine lv_if_lt (tgt := 16) hx hb dX13_columnOf_6 (by decide) (fun c_1 => ?_) (fun c_1 => absurd hc_0 c_1)
  refine lv_aload_n hx hb dX13_columnOf_16 rfl (lv_at hl 0 rfl) ?_
  refine va_get (D := (dC, dI)) (ci := 15) (v := .ref v0_129) (C := RX13) (T := TX13) (N := 196) hx hb hts iw_X13_columnOf_X13 hown hK hP 0 rfl rfl 129 (by decide) (hts (.fieldLink RX13 285 "LiquidTongueModel" "column" "[I") (by decide +kernel)) (fun _ h9 => h9) hf0_129 dX13_columnOf_17 ?_
  refine lv_iload_n hx hb dX13_columnOf_20 rfl (lv_at hl 1 rfl) ?_
  refine lv_aload_n hx hb dX13_columnOf_21 rfl (lv_at hl 0 rfl) ?_
  refine va_get (D := (dC, dI)) (ci := 15) (v := .int v0_131) (C := RX13) (T := TX13) (N := 196) hx hb hts iw_X13_columnOf_X13 hown hK hP 0 rfl rfl 131 (by decide) (hts (.fieldLink RX13 862 "LiquidTongueModel" "columns" "I") (by decide +kernel)) (fun _ h9 => h9) hf0_131 dX13_columnOf_22 ?_
  refine va_iast hx hb hK hP hD hS 1 0 rfl rfl hi_1 dX13_columnOf_25 (fun H locs hP hD hS => ?_)
  have hP : va_P (dC, dI) vwCl [(h0, .inr (15, fs0)), (v0_129, .inl (c_v0_129, 1501, .inl (upd f_v0_129 (p0).toNatClampNeg v0_131))), (v0_130, .inl (c_v0_130, 100, .inl f_v0_130))] H := hP
  have hD : va_D A [(h0, .inr (15, fs0)), (v0_129, .inl (c_v0_129, 1501, .inl (upd f_v0_129 (p0).toNatClampNeg v0_131))), (v0_130, .inl (c_v0_130, 100, .inl f_v0_130))] := hD
  refine lv_aload_n hx hb dX13_columnOf_26 rfl (lv_at hl 0 rfl) ?_
  refine va_get (D := (dC, dI)) (ci := 15) (v := .ref v0_130) (C := RX13) (T := TX13) (N := 196) hx hb hts iw_X13_columnOf_X13 hown hK hP 0 rfl rfl 130 (by decide) (hts (.fieldLink RX13 288 "LiquidTongueModel" "used" "[I") (by decide +kernel)) (fun _ h9 => h9) hf0_130 dX13_columnOf_27 ?_
  refine lv_aload_n hx hb dX13_columnOf_30 rfl (lv_at hl 0 rfl) ?_
  refine va_get (D := (dC, dI)) (ci := 15) (v := .int v0_131) (C := RX13) (T := TX13) (N := 196) hx hb hts iw_X13_columnOf_X13 hown hK hP 0 rfl rfl 131 (by decide) (hts (.fieldLink RX13 862 "LiquidTongueModel" "columns" "I") (by decide +kernel)) (fun _ h9 => h9) hf0_131 dX13_columnOf_31 ?_
  refine lv_iload_n hx hb dX13_columnOf_34 rfl (lv_at hl 1 rfl) ?_
  refine va_iast hx hb hK hP hD hS 2 1 rfl rfl hi_2 dX13_columnOf_35 (fun H locs hP hD hS => ?_)
  have hP : va_P (dC, dI) vwCl [(h0, .inr (15, fs0)), (v0_129, .inl (c_v0_129, 1501, .inl (upd f_v0_129 (p0).toNatClampNeg v0_131))), (v0_130, .inl (c_v0_130, 100, .inl (upd f_v0_130 (v0_131).toNatClampNeg p0)))] H := hP
  have hD : va_D A [(h0, .inr (15, fs0)), (v0_129, .inl (c_v0_129, 1501, .inl (upd f_v0_129 (p0).toNatClampNeg v0_131))), (v0_130, .inl (c_v0_130, 100, .inl (upd f_v0_130 (v0_131).toNatClampNeg p0)))] := hD
  refine lv_aload_n hx hb dX13_columnOf_36 rfl (lv_at hl 0 rfl) ?_
  refine lv_dup hx hb dX13_columnOf_37 rfl ?_
  refine va_get (D := (dC, dI)) (ci := 15) (v := .int v0_131) (C := RX13) (T := TX13) (N := 196) hx hb hts iw_X13_columnOf_X13 hown hK hP 0 rfl rfl 131 (by decide) (hts (.fieldLink RX13 862 "LiquidTongueModel" "columns" "I") (by decide +kernel)) (fun _ h9 => h9) hf0_131 dX13_columnOf_38 ?_
  refine lv_iconst (v := 1) hx hb dX13_columnOf_41 (by decide) ?_
  refine lv_iadd hx hb dX13_columnOf_42 ?_
  refine va_put (D := (dC, dI)) (ci := 15) (v := .int (v0_131 + 1)) (ty := .int) (C := RX13) (T := TX13) (N := 196) hx hb hts iw_X13_columnOf_X13 tyX13 tyX13_ok nmX13 hown hK hP hD hS 0 rfl rfl 131 (by decide) (hts (.fieldLink RX13 862 "LiquidTongueModel" "columns" "I") (by decide +kernel)) (fun _ h9 => h9) rfl (by decide +kernel) rfl rfl (zs_lt hl0 (by decide)) dX13_columnOf_43 (fun H locs hP hD hS => ?_)
  have hP : va_P (dC, dI) vwCl [(h0, .inr (15, (fs0.set 131 (.int (v0_131 + 1))))), (v0_129, .inl (c_v0_129, 1501, .inl (upd f_v0_129 (p0).toNatClampNeg v0_131))), (v0_130, .inl (c_v0_130, 100, .inl (upd f_v0_130 (v0_131).toNatClampNeg p0)))] H := hP
  have hD : va_D A [(h0, .inr (15, (fs0.set 131 (.int (v0_131 + 1))))), (v0_129, .inl (c_v0_129, 1501, .inl (upd f_v0_129 (p0).toNatClampNeg v0_131))), (v0_130, .inl (c_v0_130, 100, .inl (upd f_v0_130 (v0_131).toNatClampNeg p0)))] := hD
  refine lv_aload_n hx hb dX13_columnOf_46 rfl (lv_at hl 0 rfl) ?_
  refine va_get (D := (dC, dI)) (ci := 15) (v := .int (v0_131 + 1)) (C := RX13) (T := TX13) (N := 196) hx hb hts iw_X13_columnOf_X13 hown hK hP 0 rfl rfl 131 (by decide) (hts (.fieldLink RX13 862 "LiquidTongueModel" "columns" "I") (by decide +kernel)) (fun _ h9 => h9) (zs_eq (zs_lt hl0 (by decide))) dX13_columnOf_47 ?_
  refine lv_iconst (v := 1) hx hb dX13_columnOf_50 (by decide) ?_
  refine lv_isub hx hb dX13_columnOf_51 ?_
  have hP9 := hP.sub (ws' := [(h0, .inr (15, (fs0.set 131 (.int (v0_131 + 1))))), (v0_129, .inl (c_v0_129, 1501, .inl (upd f_v0_129 (p0).toNatClampNeg v0_131))), (v0_130, .inl (c_v0_130, 100, .inl (upd f_v0_130 (v0_131).toNatClampNeg p0)))]) [0, 1, 2] rfl
  have hD9 := hD.sub (ws' := [(h0, .inr (15, (fs0.set 131 (.int (v0_131 + 1))))), (v0_129, .inl (c_v0_129, 1501, .inl (upd f_v0_129 (p0).toNatClampNeg v0_131))), (v0_130, .inl (c_v0_130, 100, .inl (upd f_v0_130 (v0_131).toNatClampNeg p0)))]) [0, 1, 2] (by decide) rfl
  have hK9 := hK.sub (tys' := [(c_v0_129, .int), (c_v0_130, .int)]) [0, 1] rfl
  exact W.iret (v := ((v0_131 + 1) - 1)) hx hb hr (fun t ht hW => ⟨⟨((v0_131 + 1) - 1), (), rfl, rfl, (zB_mk (by rw [ht]; exact hP9) (va_K.moved hW.alike hK9) hD9)⟩, hS.F ht⟩) hS.2.2 dX13_columnOf_52
set_option maxHeartbeats 4000000 in
set_option maxRecDepth 100000 in
/-- X13_columnOf, a road -/
theorem c_X13_columnOf_r1 (l : Launch) (dC : Nat → ClassId) (dI : Nat → Nat → Nat) (sz : Nat) (h0 : Nat) (fs0 : List Value) (p0 : Int32) (v0_129 : Nat) (c_v0_129 : ClassId) (f_v0_129 : Nat → Int32) (hl0 : fs0.length = 196) (hf0_129 : fs0[129]? = some (.ref v0_129)) (hi_0 : vp_in p0 1501) (hi_1 : vp_in p0 1501) (hc_0 : ¬ (f_v0_129 (p0).toNatClampNeg) < 0) : Met l yX13_columnOf wsX13_columnOf ({ frames := 0, cells := 0, slots := 0, locals := 0 }) (zPc dC dI sz [.ref h0, .int p0] [(h0, .inr (15, fs0)), (v0_129, .inl (c_v0_129, 1501, .inl f_v0_129))] [(c_v0_129, .int)]) (va_Qi (fun (r : Int32) (_ : Unit) => r = (f_v0_129 (p0).toNatClampNeg)) (zB dC dI (fun _ => [(c_v0_129, .int)]) (fun _ : Unit => [(h0, .inr (15, fs0)), (v0_129, .inl (c_v0_129, 1501, .inl f_v0_129))]) (va_A [(h0, .inr (15, fs0)), (v0_129, .inl (c_v0_129, 1501, .inl f_v0_129))] sz)) (va_A [(h0, .inr (15, fs0)), (v0_129, .inl (c_v0_129, 1501, .inl f_v0_129))] sz)) 0 0 (va_A [(h0, .inr (15, fs0)), (v0_129, .inl (c_v0_129, 1501, .inl f_v0_129))] sz) := by
  refine Met.ofW (cc := cX13_columnOf) (maxL := 2) (ret := (some .int)) (by decide) rfl ?_
  intro p e s m args below meth c s₁ B hml hv
  obtain ⟨rfl, hsz, hP, hK, hD0⟩ := hv
  have hx := B.exec
  have hb := B.bytes
  have hr := B.returns
  have hts := atoms_spec (ws := wsX13_columnOf) B.pre
  have hown : s.vm.findClass RX13 = some m.cls := findClass_of_methodNamed B.named
  have hlocks := B.notSynchronized
  subst hsz
  have hD := hD0.self (sz := s.heap.size)
  generalize hAe : va_A [(h0, .inr (15, fs0)), (v0_129, .inl (c_v0_129, 1501, .inl f_v0_129))] s.heap.size = A at hD ⊢
  have hA : ∀ q : Nat, s.heap.size ≤ q → A q := fun q h => by rw [← hAe]; exact Or.inr h
  have hS : va_S A s.heap s.heap [] := va_S.rf
  have hP : va_P (dC, dI) vwCl [(h0, .inr (15, fs0)), (v0_129, .inl (c_v0_129, 1501, .inl f_v0_129))] s.heap := hP
  have hl := lv_entry ([.ref h0, .int p0]) (n := 2) (Nat.le_of_ble_eq_true rfl)
  rw [lg_entry_eq]
  generalize (lg_sl ([.ref h0, .int p0]) ++ List.replicate (2 - (lg_sl ([.ref h0, .int p0])).length) Slot.unset).toArray = ls at hl ⊢
  have hl : lv_has ls 2 [(0, .ref h0), (1, .int p0)] := hl
  refine lv_aload_n hx hb dX13_columnOf_0 rfl (lv_at hl 0 rfl) ?_
  refine va_get (D := (dC, dI)) (ci := 15) (v := .ref v0_129) (C := RX13) (T := TX13) (N := 196) hx hb hts iw_X13_columnOf_X13 hown hK hP 0 rfl rfl 129 (by decide) (hts (.fieldLink RX13 285 "LiquidTongueModel" "column" "[I") (by decide +kernel)) (fun _ h9 => h9) hf0_129 dX13_columnOf_1 ?_
  refine lv_iload_n hx hb dX13_columnOf_4 rfl (lv_at hl 1 rfl) ?_
  refine va_iald hx hb hK hP 1 0 rfl rfl hi_0 dX13_columnOf_5 ?_
  refine lv_if_lt (tgt := 16) hx hb dX13_columnOf_6 (by decide) (fun c_1 => absurd c_1 hc_0) (fun c_1 => ?_)
  refine lv_aload_n hx hb dX13_columnOf_9 rfl (lv_at hl 0 rfl) ?_
  refine va_get (D := (dC, dI)) (ci := 15) (v := .ref v0_129) (C := RX13) (T := TX13) (N := 196) hx hb hts iw_X13_columnOf_X13 hown hK hP 0 rfl rfl 129 (by decide) (hts (.fieldLink RX13 285 "LiquidTongueModel" "column" "[I") (by decide +kernel)) (fun _ h9 => h9) hf0_129 dX13_columnOf_10 ?_
  refine lv_iload_n hx hb dX13_columnOf_13 rfl (lv_at hl 1 rfl) ?_
  refine va_iald hx hb hK hP 1 0 rfl rfl hi_1 dX13_columnOf_14 ?_
  have hP9 := hP.sub (ws' := [(h0, .inr (15, fs0)), (v0_129, .inl (c_v0_129, 1501, .inl f_v0_129))]) [0, 1] rfl
  have hD9 := hD.sub (ws' := [(h0, .inr (15, fs0)), (v0_129, .inl (c_v0_129, 1501, .inl f_v0_129))]) [0, 1] (by decide) rfl
  have hK9 := hK.sub (tys' := [(c_v0_129, .int)]) [0] rfl
  exact W.iret (v := (f_v0_129 (p0).toNatClampNeg)) hx hb hr (fun t ht hW => ⟨⟨(f_v0_129 (p0).toNatClampNeg), (), rfl, rfl, (zB_mk (by rw [ht]; exact hP9) (va_K.moved hW.alike hK9) hD9)⟩, hS.F ht⟩) hS.2.2 dX13_columnOf_15
set_option maxHeartbeats 4000000 in
set_option maxRecDepth 100000 in
/-- X13_downwards, a road -/
theorem c_X13_downwards_r0 (l : Launch) (dC : Nat → ClassId) (dI : Nat → Nat → Nat) (sz : Nat) (p0 : Int64) (p1 : Int64) (hn_0 : ¬ p1 = 0) (hn_1 : ¬ p1 = 0) (hc_0 : (lg_cmp (p0 - p0 / p1 * p1) 0) = 0) : Met l yX13_downwards wsX13_downwards ({ frames := 0, cells := 0, slots := 0, locals := 0 }) (zPc dC dI sz [.long p0, .long p1] [] []) (va_Ql (fun (r : Int64) (_ : Unit) => r = (p0 / p1)) (zB dC dI (fun _ => []) (fun _ : Unit => []) (va_A [] sz)) (va_A [] sz)) 0 0 (va_A [] sz) := by
  refine Met.ofW (cc := cX13_downwards) (maxL := 6) (ret := (some .long)) (by decide) rfl ?_
  intro p e s m args below meth c s₁ B hml hv
  obtain ⟨rfl, hsz, hP, hK, hD0⟩ := hv
  have hx := B.exec
  have hb := B.bytes
  have hr := B.returns
  have hts := atoms_spec (ws := wsX13_downwards) B.pre
  have hown : s.vm.findClass RX13 = some m.cls := findClass_of_methodNamed B.named
  have hlocks := B.notSynchronized
  subst hsz
  have hD := hD0.self (sz := s.heap.size)
  generalize hAe : va_A [] s.heap.size = A at hD ⊢
  have hA : ∀ q : Nat, s.heap.size ≤ q → A q := fun q h => by rw [← hAe]; exact Or.inr h
  have hS : va_S A s.heap s.heap [] := va_S.rf
  have hP : va_P (dC, dI) vwCl [] s.heap := hP
  have hl := lv_entry ([.long p0, .long p1]) (n := 6) (Nat.le_of_ble_eq_true rfl)
  rw [lg_entry_eq]
  generalize (lg_sl ([.long p0, .long p1]) ++ List.replicate (6 - (lg_sl ([.long p0, .long p1])).length) Slot.unset).toArray = ls at hl ⊢
  have hl : lv_has ls 6 [(0, .long p0), (2, .long p1)] := hl
  refine lv_lload_n hx hb dX13_downwards_0 rfl (lv_at hl 0 rfl) ?_
  refine lv_lload_n hx hb dX13_downwards_1 rfl (lv_at hl 1 rfl) ?_
  refine lv_ldiv hx hb dX13_downwards_2 hn_0 ?_
  refine lv_lstore (lv' := [(4, .long (p0 / p1)), (0, .long p0), (2, .long p1)]) hx hb dX13_downwards_3 hl (by decide) rfl (fun ls hl => ?_)
  refine lv_lload_n hx hb dX13_downwards_5 rfl (lv_at hl 1 rfl) ?_
  refine lv_lload_n hx hb dX13_downwards_6 rfl (lv_at hl 2 rfl) ?_
  refine lv_lrem hx hb dX13_downwards_7 hn_1 ?_
  refine lv_lconst (v := 0) hx hb dX13_downwards_8 (by decide) ?_
  refine W.lcmp hx hb dX13_downwards_9 ?_
  refine lv_if_eq (tgt := 45) hx hb dX13_downwards_10 (by decide) (fun c_1 => ?_) (fun c_1 => absurd hc_0 c_1)
  refine lv_lload hx hb dX13_downwards_45 (lv_at hl 0 rfl) ?_
  have hP9 := hP.sub (ws' := []) [] rfl
  have hD9 := hD.sub (ws' := []) [] (by decide) rfl
  have hK9 := hK.sub (tys' := []) [] rfl
  exact W.lret (v := (p0 / p1)) hx hb hr (fun t ht hW => ⟨⟨(p0 / p1), (), rfl, rfl, (zB_mk (by rw [ht]; exact hP9) (va_K.moved hW.alike hK9) hD9)⟩, hS.F ht⟩) hS.2.2 dX13_downwards_47
set_option maxHeartbeats 4000000 in
set_option maxRecDepth 100000 in
/-- X13_downwards, a road -/
theorem c_X13_downwards_r1 (l : Launch) (dC : Nat → ClassId) (dI : Nat → Nat → Nat) (sz : Nat) (p0 : Int64) (p1 : Int64) (hn_0 : ¬ p1 = 0) (hn_1 : ¬ p1 = 0) (hc_0 : ¬ (lg_cmp (p0 - p0 / p1 * p1) 0) = 0) (hc_1 : 0 ≤ (lg_cmp p0 0)) (hc_2 : 0 ≤ (lg_cmp p1 0)) : Met l yX13_downwards wsX13_downwards ({ frames := 0, cells := 0, slots := 0, locals := 0 }) (zPc dC dI sz [.long p0, .long p1] [] []) (va_Ql (fun (r : Int64) (_ : Unit) => r = (p0 / p1)) (zB dC dI (fun _ => []) (fun _ : Unit => []) (va_A [] sz)) (va_A [] sz)) 0 0 (va_A [] sz) := by
  refine Met.ofW (cc := cX13_downwards) (maxL := 6) (ret := (some .long)) (by decide) rfl ?_
  intro p e s m args below meth c s₁ B hml hv
  obtain ⟨rfl, hsz, hP, hK, hD0⟩ := hv
  have hx := B.exec
  have hb := B.bytes
  have hr := B.returns
  have hts := atoms_spec (ws := wsX13_downwards) B.pre
  have hown : s.vm.findClass RX13 = some m.cls := findClass_of_methodNamed B.named
  have hlocks := B.notSynchronized
  subst hsz
  have hD := hD0.self (sz := s.heap.size)
  generalize hAe : va_A [] s.heap.size = A at hD ⊢
  have hA : ∀ q : Nat, s.heap.size ≤ q → A q := fun q h => by rw [← hAe]; exact Or.inr h
  have hS : va_S A s.heap s.heap [] := va_S.rf
  have hP : va_P (dC, dI) vwCl [] s.heap := hP
  have hl := lv_entry ([.long p0, .long p1]) (n := 6) (Nat.le_of_ble_eq_true rfl)
  rw [lg_entry_eq]
  generalize (lg_sl ([.long p0, .long p1]) ++ List.replicate (6 - (lg_sl ([.long p0, .long p1])).length) Slot.unset).toArray = ls at hl ⊢
  have hl : lv_has ls 6 [(0, .long p0), (2, .long p1)] := hl
  refine lv_lload_n hx hb dX13_downwards_0 rfl (lv_at hl 0 rfl) ?_
  refine lv_lload_n hx hb dX13_downwards_1 rfl (lv_at hl 1 rfl) ?_
  refine lv_ldiv hx hb dX13_downwards_2 hn_0 ?_
  refine lv_lstore (lv' := [(4, .long (p0 / p1)), (0, .long p0), (2, .long p1)]) hx hb dX13_downwards_3 hl (by decide) rfl (fun ls hl => ?_)
  refine lv_lload_n hx hb dX13_downwards_5 rfl (lv_at hl 1 rfl) ?_
  refine lv_lload_n hx hb dX13_downwards_6 rfl (lv_at hl 2 rfl) ?_
  refine lv_lrem hx hb dX13_downwards_7 hn_1 ?_
  refine lv_lconst (v := 0) hx hb dX13_downwards_8 (by decide) ?_
  refine W.lcmp hx hb dX13_downwards_9 ?_
  refine lv_if_eq (tgt := 45) hx hb dX13_downwards_10 (by decide) (fun c_1 => absurd c_1 hc_0) (fun c_1 => ?_)
  refine lv_lload_n hx hb dX13_downwards_13 rfl (lv_at hl 1 rfl) ?_
  refine lv_lconst (v := 0) hx hb dX13_downwards_14 (by decide) ?_
  refine W.lcmp hx hb dX13_downwards_15 ?_
  refine lv_if_ge (tgt := 23) hx hb dX13_downwards_16 (by decide) (fun c_2 => ?_) (fun c_2 => absurd hc_1 c_2)
  refine lv_iconst (v := 0) hx hb dX13_downwards_23 (by decide) ?_
  refine lv_lload_n hx hb dX13_downwards_24 rfl (lv_at hl 2 rfl) ?_
  refine lv_lconst (v := 0) hx hb dX13_downwards_25 (by decide) ?_
  refine W.lcmp hx hb dX13_downwards_26 ?_
  refine lv_if_ge (tgt := 34) hx hb dX13_downwards_27 (by decide) (fun c_3 => ?_) (fun c_3 => absurd hc_2 c_3)
  refine lv_iconst (v := 0) hx hb dX13_downwards_34 (by decide) ?_
  refine lv_icmp_eq (tgt := 45) hx hb dX13_downwards_35 (by decide) (fun c_4 => ?_) (fun c_4 => absurd (by decide) c_4)
  refine lv_lload hx hb dX13_downwards_45 (lv_at hl 0 rfl) ?_
  have hP9 := hP.sub (ws' := []) [] rfl
  have hD9 := hD.sub (ws' := []) [] (by decide) rfl
  have hK9 := hK.sub (tys' := []) [] rfl
  exact W.lret (v := (p0 / p1)) hx hb hr (fun t ht hW => ⟨⟨(p0 / p1), (), rfl, rfl, (zB_mk (by rw [ht]; exact hP9) (va_K.moved hW.alike hK9) hD9)⟩, hS.F ht⟩) hS.2.2 dX13_downwards_47
set_option maxHeartbeats 4000000 in
set_option maxRecDepth 100000 in
/-- X13_downwards, a road -/
theorem c_X13_downwards_r2 (l : Launch) (dC : Nat → ClassId) (dI : Nat → Nat → Nat) (sz : Nat) (p0 : Int64) (p1 : Int64) (hn_0 : ¬ p1 = 0) (hn_1 : ¬ p1 = 0) (hc_0 : ¬ (lg_cmp (p0 - p0 / p1 * p1) 0) = 0) (hc_1 : 0 ≤ (lg_cmp p0 0)) (hc_2 : ¬ 0 ≤ (lg_cmp p1 0)) : Met l yX13_downwards wsX13_downwards ({ frames := 0, cells := 0, slots := 0, locals := 0 }) (zPc dC dI sz [.long p0, .long p1] [] []) (va_Ql (fun (r : Int64) (_ : Unit) => r = ((p0 / p1) - 1)) (zB dC dI (fun _ => []) (fun _ : Unit => []) (va_A [] sz)) (va_A [] sz)) 0 0 (va_A [] sz) := by
  refine Met.ofW (cc := cX13_downwards) (maxL := 6) (ret := (some .long)) (by decide) rfl ?_
  intro p e s m args below meth c s₁ B hml hv
  obtain ⟨rfl, hsz, hP, hK, hD0⟩ := hv
  have hx := B.exec
  have hb := B.bytes
  have hr := B.returns
  have hts := atoms_spec (ws := wsX13_downwards) B.pre
  have hown : s.vm.findClass RX13 = some m.cls := findClass_of_methodNamed B.named
  have hlocks := B.notSynchronized
  subst hsz
  have hD := hD0.self (sz := s.heap.size)
  generalize hAe : va_A [] s.heap.size = A at hD ⊢
  have hA : ∀ q : Nat, s.heap.size ≤ q → A q := fun q h => by rw [← hAe]; exact Or.inr h
  have hS : va_S A s.heap s.heap [] := va_S.rf
  have hP : va_P (dC, dI) vwCl [] s.heap := hP
  have hl := lv_entry ([.long p0, .long p1]) (n := 6) (Nat.le_of_ble_eq_true rfl)
  rw [lg_entry_eq]
  generalize (lg_sl ([.long p0, .long p1]) ++ List.replicate (6 - (lg_sl ([.long p0, .long p1])).length) Slot.unset).toArray = ls at hl ⊢
  have hl : lv_has ls 6 [(0, .long p0), (2, .long p1)] := hl
  refine lv_lload_n hx hb dX13_downwards_0 rfl (lv_at hl 0 rfl) ?_
  refine lv_lload_n hx hb dX13_downwards_1 rfl (lv_at hl 1 rfl) ?_
  refine lv_ldiv hx hb dX13_downwards_2 hn_0 ?_
  refine lv_lstore (lv' := [(4, .long (p0 / p1)), (0, .long p0), (2, .long p1)]) hx hb dX13_downwards_3 hl (by decide) rfl (fun ls hl => ?_)
  refine lv_lload_n hx hb dX13_downwards_5 rfl (lv_at hl 1 rfl) ?_
  refine lv_lload_n hx hb dX13_downwards_6 rfl (lv_at hl 2 rfl) ?_
  refine lv_lrem hx hb dX13_downwards_7 hn_1 ?_
  refine lv_lconst (v := 0) hx hb dX13_downwards_8 (by decide) ?_
  refine W.lcmp hx hb dX13_downwards_9 ?_
  refine lv_if_eq (tgt := 45) hx hb dX13_downwards_10 (by decide) (fun c_1 => absurd c_1 hc_0) (fun c_1 => ?_)
  refine lv_lload_n hx hb dX13_downwards_13 rfl (lv_at hl 1 rfl) ?_
  refine lv_lconst (v := 0) hx hb dX13_downwards_14 (by decide) ?_
  refine W.lcmp hx hb dX13_downwards_15 ?_
  refine lv_if_ge (tgt := 23) hx hb dX13_downwards_16 (by decide) (fun c_2 => ?_) (fun c_2 => absurd hc_1 c_2)
  refine lv_iconst (v := 0) hx hb dX13_downwards_23 (by decide) ?_
  refine lv_lload_n hx hb dX13_downwards_24 rfl (lv_at hl 2 rfl) ?_
  refine lv_lconst (v := 0) hx hb dX13_downwards_25 (by decide) ?_
  refine W.lcmp hx hb dX13_downwards_26 ?_
  refine lv_if_ge (tgt := 34) hx hb dX13_downwards_27 (by decide) (fun c_3 => absurd c_3 hc_2) (fun c_3 => ?_)
  refine lv_iconst (v := 1) hx hb dX13_downwards_30 (by decide) ?_
  refine lv_goto (tgt := 35) hx hb dX13_downwards_31 (by decide) ?_
  refine lv_icmp_eq (tgt := 45) hx hb dX13_downwards_35 (by decide) (fun c_4 => absurd c_4 (by decide)) (fun c_4 => ?_)
  refine lv_lload hx hb dX13_downwards_38 (lv_at hl 0 rfl) ?_
  refine lv_lconst (v := 1) hx hb dX13_downwards_40 (by decide) ?_
  refine lv_lsub hx hb dX13_downwards_41 ?_
  refine lv_goto (tgt := 47) hx hb dX13_downwards_42 (by decide) ?_
  have hP9 := hP.sub (ws' := []) [] rfl
  have hD9 := hD.sub (ws' := []) [] (by decide) rfl
  have hK9 := hK.sub (tys' := []) [] rfl
  exact W.lret (v := ((p0 / p1) - 1)) hx hb hr (fun t ht hW => ⟨⟨((p0 / p1) - 1), (), rfl, rfl, (zB_mk (by rw [ht]; exact hP9) (va_K.moved hW.alike hK9) hD9)⟩, hS.F ht⟩) hS.2.2 dX13_downwards_47
set_option maxHeartbeats 4000000 in
set_option maxRecDepth 100000 in
/-- X13_downwards, a road -/
theorem c_X13_downwards_r3 (l : Launch) (dC : Nat → ClassId) (dI : Nat → Nat → Nat) (sz : Nat) (p0 : Int64) (p1 : Int64) (hn_0 : ¬ p1 = 0) (hn_1 : ¬ p1 = 0) (hc_0 : ¬ (lg_cmp (p0 - p0 / p1 * p1) 0) = 0) (hc_1 : ¬ 0 ≤ (lg_cmp p0 0)) (hc_2 : 0 ≤ (lg_cmp p1 0)) : Met l yX13_downwards wsX13_downwards ({ frames := 0, cells := 0, slots := 0, locals := 0 }) (zPc dC dI sz [.long p0, .long p1] [] []) (va_Ql (fun (r : Int64) (_ : Unit) => r = ((p0 / p1) - 1)) (zB dC dI (fun _ => []) (fun _ : Unit => []) (va_A [] sz)) (va_A [] sz)) 0 0 (va_A [] sz) := by
  refine Met.ofW (cc := cX13_downwards) (maxL := 6) (ret := (some .long)) (by decide) rfl ?_
  intro p e s m args below meth c s₁ B hml hv
  obtain ⟨rfl, hsz, hP, hK, hD0⟩ := hv
  have hx := B.exec
  have hb := B.bytes
  have hr := B.returns
  have hts := atoms_spec (ws := wsX13_downwards) B.pre
  have hown : s.vm.findClass RX13 = some m.cls := findClass_of_methodNamed B.named
  have hlocks := B.notSynchronized
  subst hsz
  have hD := hD0.self (sz := s.heap.size)
  generalize hAe : va_A [] s.heap.size = A at hD ⊢
  have hA : ∀ q : Nat, s.heap.size ≤ q → A q := fun q h => by rw [← hAe]; exact Or.inr h
  have hS : va_S A s.heap s.heap [] := va_S.rf
  have hP : va_P (dC, dI) vwCl [] s.heap := hP
  have hl := lv_entry ([.long p0, .long p1]) (n := 6) (Nat.le_of_ble_eq_true rfl)
  rw [lg_entry_eq]
  generalize (lg_sl ([.long p0, .long p1]) ++ List.replicate (6 - (lg_sl ([.long p0, .long p1])).length) Slot.unset).toArray = ls at hl ⊢
  have hl : lv_has ls 6 [(0, .long p0), (2, .long p1)] := hl
  refine lv_lload_n hx hb dX13_downwards_0 rfl (lv_at hl 0 rfl) ?_
  refine lv_lload_n hx hb dX13_downwards_1 rfl (lv_at hl 1 rfl) ?_
  refine lv_ldiv hx hb dX13_downwards_2 hn_0 ?_
  refine lv_lstore (lv' := [(4, .long (p0 / p1)), (0, .long p0), (2, .long p1)]) hx hb dX13_downwards_3 hl (by decide) rfl (fun ls hl => ?_)
  refine lv_lload_n hx hb dX13_downwards_5 rfl (lv_at hl 1 rfl) ?_
  refine lv_lload_n hx hb dX13_downwards_6 rfl (lv_at hl 2 rfl) ?_
  refine lv_lrem hx hb dX13_downwards_7 hn_1 ?_
  refine lv_lconst (v := 0) hx hb dX13_downwards_8 (by decide) ?_
  refine W.lcmp hx hb dX13_downwards_9 ?_
  refine lv_if_eq (tgt := 45) hx hb dX13_downwards_10 (by decide) (fun c_1 => absurd c_1 hc_0) (fun c_1 => ?_)
  refine lv_lload_n hx hb dX13_downwards_13 rfl (lv_at hl 1 rfl) ?_
  refine lv_lconst (v := 0) hx hb dX13_downwards_14 (by decide) ?_
  refine W.lcmp hx hb dX13_downwards_15 ?_
  refine lv_if_ge (tgt := 23) hx hb dX13_downwards_16 (by decide) (fun c_2 => absurd c_2 hc_1) (fun c_2 => ?_)
  refine lv_iconst (v := 1) hx hb dX13_downwards_19 (by decide) ?_
  refine lv_goto (tgt := 24) hx hb dX13_downwards_20 (by decide) ?_
  refine lv_lload_n hx hb dX13_downwards_24 rfl (lv_at hl 2 rfl) ?_
  refine lv_lconst (v := 0) hx hb dX13_downwards_25 (by decide) ?_
  refine W.lcmp hx hb dX13_downwards_26 ?_
  refine lv_if_ge (tgt := 34) hx hb dX13_downwards_27 (by decide) (fun c_3 => ?_) (fun c_3 => absurd hc_2 c_3)
  refine lv_iconst (v := 0) hx hb dX13_downwards_34 (by decide) ?_
  refine lv_icmp_eq (tgt := 45) hx hb dX13_downwards_35 (by decide) (fun c_4 => absurd c_4 (by decide)) (fun c_4 => ?_)
  refine lv_lload hx hb dX13_downwards_38 (lv_at hl 0 rfl) ?_
  refine lv_lconst (v := 1) hx hb dX13_downwards_40 (by decide) ?_
  refine lv_lsub hx hb dX13_downwards_41 ?_
  refine lv_goto (tgt := 47) hx hb dX13_downwards_42 (by decide) ?_
  have hP9 := hP.sub (ws' := []) [] rfl
  have hD9 := hD.sub (ws' := []) [] (by decide) rfl
  have hK9 := hK.sub (tys' := []) [] rfl
  exact W.lret (v := ((p0 / p1) - 1)) hx hb hr (fun t ht hW => ⟨⟨((p0 / p1) - 1), (), rfl, rfl, (zB_mk (by rw [ht]; exact hP9) (va_K.moved hW.alike hK9) hD9)⟩, hS.F ht⟩) hS.2.2 dX13_downwards_47
set_option maxHeartbeats 4000000 in
set_option maxRecDepth 100000 in
/-- X13_downwards, a road -/
theorem c_X13_downwards_r4 (l : Launch) (dC : Nat → ClassId) (dI : Nat → Nat → Nat) (sz : Nat) (p0 : Int64) (p1 : Int64) (hn_0 : ¬ p1 = 0) (hn_1 : ¬ p1 = 0) (hc_0 : ¬ (lg_cmp (p0 - p0 / p1 * p1) 0) = 0) (hc_1 : ¬ 0 ≤ (lg_cmp p0 0)) (hc_2 : ¬ 0 ≤ (lg_cmp p1 0)) : Met l yX13_downwards wsX13_downwards ({ frames := 0, cells := 0, slots := 0, locals := 0 }) (zPc dC dI sz [.long p0, .long p1] [] []) (va_Ql (fun (r : Int64) (_ : Unit) => r = (p0 / p1)) (zB dC dI (fun _ => []) (fun _ : Unit => []) (va_A [] sz)) (va_A [] sz)) 0 0 (va_A [] sz) := by
  refine Met.ofW (cc := cX13_downwards) (maxL := 6) (ret := (some .long)) (by decide) rfl ?_
  intro p e s m args below meth c s₁ B hml hv
  obtain ⟨rfl, hsz, hP, hK, hD0⟩ := hv
  have hx := B.exec
  have hb := B.bytes
  have hr := B.returns
  have hts := atoms_spec (ws := wsX13_downwards) B.pre
  have hown : s.vm.findClass RX13 = some m.cls := findClass_of_methodNamed B.named
  have hlocks := B.notSynchronized
  subst hsz
  have hD := hD0.self (sz := s.heap.size)
  generalize hAe : va_A [] s.heap.size = A at hD ⊢
  have hA : ∀ q : Nat, s.heap.size ≤ q → A q := fun q h => by rw [← hAe]; exact Or.inr h
  have hS : va_S A s.heap s.heap [] := va_S.rf
  have hP : va_P (dC, dI) vwCl [] s.heap := hP
  have hl := lv_entry ([.long p0, .long p1]) (n := 6) (Nat.le_of_ble_eq_true rfl)
  rw [lg_entry_eq]
  generalize (lg_sl ([.long p0, .long p1]) ++ List.replicate (6 - (lg_sl ([.long p0, .long p1])).length) Slot.unset).toArray = ls at hl ⊢
  have hl : lv_has ls 6 [(0, .long p0), (2, .long p1)] := hl
  refine lv_lload_n hx hb dX13_downwards_0 rfl (lv_at hl 0 rfl) ?_
  refine lv_lload_n hx hb dX13_downwards_1 rfl (lv_at hl 1 rfl) ?_
  refine lv_ldiv hx hb dX13_downwards_2 hn_0 ?_
  refine lv_lstore (lv' := [(4, .long (p0 / p1)), (0, .long p0), (2, .long p1)]) hx hb dX13_downwards_3 hl (by decide) rfl (fun ls hl => ?_)
  refine lv_lload_n hx hb dX13_downwards_5 rfl (lv_at hl 1 rfl) ?_
  refine lv_lload_n hx hb dX13_downwards_6 rfl (lv_at hl 2 rfl) ?_
  refine lv_lrem hx hb dX13_downwards_7 hn_1 ?_
  refine lv_lconst (v := 0) hx hb dX13_downwards_8 (by decide) ?_
  refine W.lcmp hx hb dX13_downwards_9 ?_
  refine lv_if_eq (tgt := 45) hx hb dX13_downwards_10 (by decide) (fun c_1 => absurd c_1 hc_0) (fun c_1 => ?_)
  refine lv_lload_n hx hb dX13_downwards_13 rfl (lv_at hl 1 rfl) ?_
  refine lv_lconst (v := 0) hx hb dX13_downwards_14 (by decide) ?_
  refine W.lcmp hx hb dX13_downwards_15 ?_
  refine lv_if_ge (tgt := 23) hx hb dX13_downwards_16 (by decide) (fun c_2 => absurd c_2 hc_1) (fun c_2 => ?_)
  refine lv_iconst (v := 1) hx hb dX13_downwards_19 (by decide) ?_
  refine lv_goto (tgt := 24) hx hb dX13_downwards_20 (by decide) ?_
  refine lv_lload_n hx hb dX13_downwards_24 rfl (lv_at hl 2 rfl) ?_
  refine lv_lconst (v := 0) hx hb dX13_downwards_25 (by decide) ?_
  refine W.lcmp hx hb dX13_downwards_26 ?_
  refine lv_if_ge (tgt := 34) hx hb dX13_downwards_27 (by decide) (fun c_3 => absurd c_3 hc_2) (fun c_3 => ?_)
  refine lv_iconst (v := 1) hx hb dX13_downwards_30 (by decide) ?_
  refine lv_goto (tgt := 35) hx hb dX13_downwards_31 (by decide) ?_
  refine lv_icmp_eq (tgt := 45) hx hb dX13_downwards_35 (by decide) (fun c_4 => ?_) (fun c_4 => absurd (by decide) c_4)
  refine lv_lload hx hb dX13_downwards_45 (lv_at hl 0 rfl) ?_
  have hP9 := hP.sub (ws' := []) [] rfl
  have hD9 := hD.sub (ws' := []) [] (by decide) rfl
  have hK9 := hK.sub (tys' := []) [] rfl
  exact W.lret (v := (p0 / p1)) hx hb hr (fun t ht hW => ⟨⟨(p0 / p1), (), rfl, rfl, (zB_mk (by rw [ht]; exact hP9) (va_K.moved hW.alike hK9) hD9)⟩, hS.F ht⟩) hS.2.2 dX13_downwards_47
theorem iw_X13_fact_X13 : ∀ w ∈ wsX130, w ∈ wsX13_fact := fun w h => List.mem_cons_of_mem _ (List.mem_append_right _ h)
set_option maxHeartbeats 4000000 in
set_option maxRecDepth 100000 in
/-- X13_fact, a road -/
theorem c_X13_fact_r0 (l : Launch) (dC : Nat → ClassId) (dI : Nat → Nat → Nat) (sz : Nat) (h0 : Nat) (fs0 : List Value) (p0 : Int32) (p1 : Int32) (p2 : Int32) (p3 : Int64) (p4 : Int32) (v0_80 : Nat) (v0_85 : Int32) (c_v0_80 : ClassId) (f_v0_80 : Nat → Int32) (v0_81 : Nat) (c_v0_81 : ClassId) (f_v0_81 : Nat → Int32) (v0_82 : Nat) (c_v0_82 : ClassId) (f_v0_82 : Nat → Int32) (v0_84 : Nat) (c_v0_84 : ClassId) (f_v0_84 : Nat → Int64) (v0_83 : Nat) (c_v0_83 : ClassId) (f_v0_83 : Nat → Int32) (hl0 : fs0.length = 196) (hf0_80 : fs0[80]? = some (.ref v0_80)) (hf0_85 : fs0[85]? = some (.int v0_85)) (hf0_81 : fs0[81]? = some (.ref v0_81)) (hf0_82 : fs0[82]? = some (.ref v0_82)) (hf0_84 : fs0[84]? = some (.ref v0_84)) (hf0_83 : fs0[83]? = some (.ref v0_83)) (hi_0 : vp_in v0_85 12000) (hi_1 : vp_in v0_85 12000) (hi_2 : vp_in v0_85 12000) (hi_3 : vp_in v0_85 12000) (hi_4 : vp_in v0_85 12000) : Met l yX13_fact wsX13_fact ({ frames := 0, cells := 0, slots := 0, locals := 0 }) (zPc dC dI sz [.ref h0, .int p0, .int p1, .int p2, .long p3, .int p4] [(h0, .inr (15, fs0)), (v0_80, .inl (c_v0_80, 12000, .inl f_v0_80)), (v0_81, .inl (c_v0_81, 12000, .inl f_v0_81)), (v0_82, .inl (c_v0_82, 12000, .inl f_v0_82)), (v0_84, .inl (c_v0_84, 12000, .inr (.inl f_v0_84))), (v0_83, .inl (c_v0_83, 12000, .inl f_v0_83))] [(c_v0_80, .int), (c_v0_81, .int), (c_v0_82, .int), (c_v0_84, .long), (c_v0_83, .int)]) (va_Qi (fun (r : Int32) (_ : Unit) => r = ((v0_85 + 1) - 1)) (zB dC dI (fun _ => [(c_v0_80, .int), (c_v0_81, .int), (c_v0_82, .int), (c_v0_84, .long), (c_v0_83, .int)]) (fun _ : Unit => [(h0, .inr (15, (fs0.set 85 (.int (v0_85 + 1))))), (v0_80, .inl (c_v0_80, 12000, .inl (upd f_v0_80 (v0_85).toNatClampNeg p0))), (v0_81, .inl (c_v0_81, 12000, .inl (upd f_v0_81 (v0_85).toNatClampNeg p1))), (v0_82, .inl (c_v0_82, 12000, .inl (upd f_v0_82 (v0_85).toNatClampNeg p2))), (v0_84, .inl (c_v0_84, 12000, .inr (.inl (vp_updL f_v0_84 (v0_85).toNatClampNeg p3)))), (v0_83, .inl (c_v0_83, 12000, .inl (upd f_v0_83 (v0_85).toNatClampNeg p4)))]) (va_A [(h0, .inr (15, fs0)), (v0_80, .inl (c_v0_80, 12000, .inl f_v0_80)), (v0_81, .inl (c_v0_81, 12000, .inl f_v0_81)), (v0_82, .inl (c_v0_82, 12000, .inl f_v0_82)), (v0_84, .inl (c_v0_84, 12000, .inr (.inl f_v0_84))), (v0_83, .inl (c_v0_83, 12000, .inl f_v0_83))] sz)) (va_A [(h0, .inr (15, fs0)), (v0_80, .inl (c_v0_80, 12000, .inl f_v0_80)), (v0_81, .inl (c_v0_81, 12000, .inl f_v0_81)), (v0_82, .inl (c_v0_82, 12000, .inl f_v0_82)), (v0_84, .inl (c_v0_84, 12000, .inr (.inl f_v0_84))), (v0_83, .inl (c_v0_83, 12000, .inl f_v0_83))] sz)) 0 0 (va_A [(h0, .inr (15, fs0)), (v0_80, .inl (c_v0_80, 12000, .inl f_v0_80)), (v0_81, .inl (c_v0_81, 12000, .inl f_v0_81)), (v0_82, .inl (c_v0_82, 12000, .inl f_v0_82)), (v0_84, .inl (c_v0_84, 12000, .inr (.inl f_v0_84))), (v0_83, .inl (c_v0_83, 12000, .inl f_v0_83))] sz) := by
  refine Met.ofW (cc := cX13_fact) (maxL := 7) (ret := (some .int)) (by decide) rfl ?_
  intro p e s m args below meth c s₁ B hml hv
  obtain ⟨rfl, hsz, hP, hK, hD0⟩ := hv
  have hx := B.exec
  have hb := B.bytes
  have hr := B.returns
  have hts := atoms_spec (ws := wsX13_fact) B.pre
  have hown : s.vm.findClass RX13 = some m.cls := findClass_of_methodNamed B.named
  have hlocks := B.notSynchronized
  subst hsz
  have hD := hD0.self (sz := s.heap.size)
  generalize hAe : va_A [(h0, .inr (15, fs0)), (v0_80, .inl (c_v0_80, 12000, .inl f_v0_80)), (v0_81, .inl (c_v0_81, 12000, .inl f_v0_81)), (v0_82, .inl (c_v0_82, 12000, .inl f_v0_82)), (v0_84, .inl (c_v0_84, 12000, .inr (.inl f_v0_84))), (v0_83, .inl (c_v0_83, 12000, .inl f_v0_83))] s.heap.size = A at hD ⊢
  have hA : ∀ q : Nat, s.heap.size ≤ q → A q := fun q h => by rw [← hAe]; exact Or.inr h
  have hS : va_S A s.heap s.heap [] := va_S.rf
  have hP : va_P (dC, dI) vwCl [(h0, .inr (15, fs0)), (v0_80, .inl (c_v0_80, 12000, .inl f_v0_80)), (v0_81, .inl (c_v0_81, 12000, .inl f_v0_81)), (v0_82, .inl (c_v0_82, 12000, .inl f_v0_82)), (v0_84, .inl (c_v0_84, 12000, .inr (.inl f_v0_84))), (v0_83, .inl (c_v0_83, 12000, .inl f_v0_83))] s.heap := hP
  have hl := lv_entry ([.ref h0, .int p0, .int p1, .int p2, .long p3, .int p4]) (n := 7) (Nat.le_of_ble_eq_true rfl)
  rw [lg_entry_eq]
  generalize (lg_sl ([.ref h0, .int p0, .int p1, .int p2, .long p3, .int p4]) ++ List.replicate (7 - (lg_sl ([.ref h0, .int p0, .int p1, .int p2, .long p3, .int p4])).length) Slot.unset).toArray = ls at hl ⊢
  have hl : lv_has ls 7 [(0, .ref h0), (1, .int p0), (2, .int p1), (3, .int p2), (4, .long p3), (6, .int p4)] := hl
  refine lv_aload_n hx hb dX13_fact_0 rfl (lv_at hl 0 rfl) ?_
  refine va_get (D := (dC, dI)) (ci := 15) (v := .ref v0_80) (C := RX13) (T := TX13) (N := 196) hx hb hts iw_X13_fact_X13 hown hK hP 0 rfl rfl 80 (by decide) (hts (.fieldLink RX13 166 "LiquidTongueModel" "factRel" "[I") (by decide +kernel)) (fun _ h9 => h9) hf0_80 dX13_fact_1 ?_
  refine lv_aload_n hx hb dX13_fact_4 rfl (lv_at hl 0 rfl) ?_
  refine va_get (D := (dC, dI)) (ci := 15) (v := .int v0_85) (C := RX13) (T := TX13) (N := 196) hx hb hts iw_X13_fact_X13 hown hK hP 0 rfl rfl 85 (by decide) (hts (.fieldLink RX13 775 "LiquidTongueModel" "facts" "I") (by decide +kernel)) (fun _ h9 => h9) hf0_85 dX13_fact_5 ?_
  refine lv_iload_n hx hb dX13_fact_8 rfl (lv_at hl 1 rfl) ?_
  refine va_iast hx hb hK hP hD hS 1 0 rfl rfl hi_0 dX13_fact_9 (fun H locs hP hD hS => ?_)
  have hP : va_P (dC, dI) vwCl [(h0, .inr (15, fs0)), (v0_80, .inl (c_v0_80, 12000, .inl (upd f_v0_80 (v0_85).toNatClampNeg p0))), (v0_81, .inl (c_v0_81, 12000, .inl f_v0_81)), (v0_82, .inl (c_v0_82, 12000, .inl f_v0_82)), (v0_84, .inl (c_v0_84, 12000, .inr (.inl f_v0_84))), (v0_83, .inl (c_v0_83, 12000, .inl f_v0_83))] H := hP
  have hD : va_D A [(h0, .inr (15, fs0)), (v0_80, .inl (c_v0_80, 12000, .inl (upd f_v0_80 (v0_85).toNatClampNeg p0))), (v0_81, .inl (c_v0_81, 12000, .inl f_v0_81)), (v0_82, .inl (c_v0_82, 12000, .inl f_v0_82)), (v0_84, .inl (c_v0_84, 12000, .inr (.inl f_v0_84))), (v0_83, .inl (c_v0_83, 12000, .inl f_v0_83))] := hD
  refine lv_aload_n hx hb dX13_fact_10 rfl (lv_at hl 0 rfl) ?_
  refine va_get (D := (dC, dI)) (ci := 15) (v := .ref v0_81) (C := RX13) (T := TX13) (N := 196) hx hb hts iw_X13_fact_X13 hown hK hP 0 rfl rfl 81 (by decide) (hts (.fieldLink RX13 169 "LiquidTongueModel" "factName" "[I") (by decide +kernel)) (fun _ h9 => h9) hf0_81 dX13_fact_11 ?_
  refine lv_aload_n hx hb dX13_fact_14 rfl (lv_at hl 0 rfl) ?_
  refine va_get (D := (dC, dI)) (ci := 15) (v := .int v0_85) (C := RX13) (T := TX13) (N := 196) hx hb hts iw_X13_fact_X13 hown hK hP 0 rfl rfl 85 (by decide) (hts (.fieldLink RX13 775 "LiquidTongueModel" "facts" "I") (by decide +kernel)) (fun _ h9 => h9) hf0_85 dX13_fact_15 ?_
  refine lv_iload_n hx hb dX13_fact_18 rfl (lv_at hl 2 rfl) ?_
  refine va_iast hx hb hK hP hD hS 2 1 rfl rfl hi_1 dX13_fact_19 (fun H locs hP hD hS => ?_)
  have hP : va_P (dC, dI) vwCl [(h0, .inr (15, fs0)), (v0_80, .inl (c_v0_80, 12000, .inl (upd f_v0_80 (v0_85).toNatClampNeg p0))), (v0_81, .inl (c_v0_81, 12000, .inl (upd f_v0_81 (v0_85).toNatClampNeg p1))), (v0_82, .inl (c_v0_82, 12000, .inl f_v0_82)), (v0_84, .inl (c_v0_84, 12000, .inr (.inl f_v0_84))), (v0_83, .inl (c_v0_83, 12000, .inl f_v0_83))] H := hP
  have hD : va_D A [(h0, .inr (15, fs0)), (v0_80, .inl (c_v0_80, 12000, .inl (upd f_v0_80 (v0_85).toNatClampNeg p0))), (v0_81, .inl (c_v0_81, 12000, .inl (upd f_v0_81 (v0_85).toNatClampNeg p1))), (v0_82, .inl (c_v0_82, 12000, .inl f_v0_82)), (v0_84, .inl (c_v0_84, 12000, .inr (.inl f_v0_84))), (v0_83, .inl (c_v0_83, 12000, .inl f_v0_83))] := hD
  refine lv_aload_n hx hb dX13_fact_20 rfl (lv_at hl 0 rfl) ?_
  refine va_get (D := (dC, dI)) (ci := 15) (v := .ref v0_82) (C := RX13) (T := TX13) (N := 196) hx hb hts iw_X13_fact_X13 hown hK hP 0 rfl rfl 82 (by decide) (hts (.fieldLink RX13 172 "LiquidTongueModel" "factTimes" "[I") (by decide +kernel)) (fun _ h9 => h9) hf0_82 dX13_fact_21 ?_
  refine lv_aload_n hx hb dX13_fact_24 rfl (lv_at hl 0 rfl) ?_
  refine va_get (D := (dC, dI)) (ci := 15) (v := .int v0_85) (C := RX13) (T := TX13) (N := 196) hx hb hts iw_X13_fact_X13 hown hK hP 0 rfl rfl 85 (by decide) (hts (.fieldLink RX13 775 "LiquidTongueModel" "facts" "I") (by decide +kernel)) (fun _ h9 => h9) hf0_85 dX13_fact_25 ?_
  refine lv_iload_n hx hb dX13_fact_28 rfl (lv_at hl 3 rfl) ?_
  refine va_iast hx hb hK hP hD hS 3 2 rfl rfl hi_2 dX13_fact_29 (fun H locs hP hD hS => ?_)
  have hP : va_P (dC, dI) vwCl [(h0, .inr (15, fs0)), (v0_80, .inl (c_v0_80, 12000, .inl (upd f_v0_80 (v0_85).toNatClampNeg p0))), (v0_81, .inl (c_v0_81, 12000, .inl (upd f_v0_81 (v0_85).toNatClampNeg p1))), (v0_82, .inl (c_v0_82, 12000, .inl (upd f_v0_82 (v0_85).toNatClampNeg p2))), (v0_84, .inl (c_v0_84, 12000, .inr (.inl f_v0_84))), (v0_83, .inl (c_v0_83, 12000, .inl f_v0_83))] H := hP
  have hD : va_D A [(h0, .inr (15, fs0)), (v0_80, .inl (c_v0_80, 12000, .inl (upd f_v0_80 (v0_85).toNatClampNeg p0))), (v0_81, .inl (c_v0_81, 12000, .inl (upd f_v0_81 (v0_85).toNatClampNeg p1))), (v0_82, .inl (c_v0_82, 12000, .inl (upd f_v0_82 (v0_85).toNatClampNeg p2))), (v0_84, .inl (c_v0_84, 12000, .inr (.inl f_v0_84))), (v0_83, .inl (c_v0_83, 12000, .inl f_v0_83))] := hD
  refine lv_aload_n hx hb dX13_fact_30 rfl (lv_at hl 0 rfl) ?_
  refine va_get (D := (dC, dI)) (ci := 15) (v := .ref v0_84) (C := RX13) (T := TX13) (N := 196) hx hb hts iw_X13_fact_X13 hown hK hP 0 rfl rfl 84 (by decide) (hts (.fieldLink RX13 178 "LiquidTongueModel" "factNumber" "[J") (by decide +kernel)) (fun _ h9 => h9) hf0_84 dX13_fact_31 ?_
  refine lv_aload_n hx hb dX13_fact_34 rfl (lv_at hl 0 rfl) ?_
  refine va_get (D := (dC, dI)) (ci := 15) (v := .int v0_85) (C := RX13) (T := TX13) (N := 196) hx hb hts iw_X13_fact_X13 hown hK hP 0 rfl rfl 85 (by decide) (hts (.fieldLink RX13 775 "LiquidTongueModel" "facts" "I") (by decide +kernel)) (fun _ h9 => h9) hf0_85 dX13_fact_35 ?_
  refine lv_lload hx hb dX13_fact_38 (lv_at hl 4 rfl) ?_
  refine va_last hx hb hK hP hD hS 4 3 rfl rfl hi_3 dX13_fact_40 (fun H locs hP hD hS => ?_)
  have hP : va_P (dC, dI) vwCl [(h0, .inr (15, fs0)), (v0_80, .inl (c_v0_80, 12000, .inl (upd f_v0_80 (v0_85).toNatClampNeg p0))), (v0_81, .inl (c_v0_81, 12000, .inl (upd f_v0_81 (v0_85).toNatClampNeg p1))), (v0_82, .inl (c_v0_82, 12000, .inl (upd f_v0_82 (v0_85).toNatClampNeg p2))), (v0_84, .inl (c_v0_84, 12000, .inr (.inl (vp_updL f_v0_84 (v0_85).toNatClampNeg p3)))), (v0_83, .inl (c_v0_83, 12000, .inl f_v0_83))] H := hP
  have hD : va_D A [(h0, .inr (15, fs0)), (v0_80, .inl (c_v0_80, 12000, .inl (upd f_v0_80 (v0_85).toNatClampNeg p0))), (v0_81, .inl (c_v0_81, 12000, .inl (upd f_v0_81 (v0_85).toNatClampNeg p1))), (v0_82, .inl (c_v0_82, 12000, .inl (upd f_v0_82 (v0_85).toNatClampNeg p2))), (v0_84, .inl (c_v0_84, 12000, .inr (.inl (vp_updL f_v0_84 (v0_85).toNatClampNeg p3)))), (v0_83, .inl (c_v0_83, 12000, .inl f_v0_83))] := hD
  refine lv_aload_n hx hb dX13_fact_41 rfl (lv_at hl 0 rfl) ?_
  refine va_get (D := (dC, dI)) (ci := 15) (v := .ref v0_83) (C := RX13) (T := TX13) (N := 196) hx hb hts iw_X13_fact_X13 hown hK hP 0 rfl rfl 83 (by decide) (hts (.fieldLink RX13 175 "LiquidTongueModel" "factNext" "[I") (by decide +kernel)) (fun _ h9 => h9) hf0_83 dX13_fact_42 ?_
  refine lv_aload_n hx hb dX13_fact_45 rfl (lv_at hl 0 rfl) ?_
  refine va_get (D := (dC, dI)) (ci := 15) (v := .int v0_85) (C := RX13) (T := TX13) (N := 196) hx hb hts iw_X13_fact_X13 hown hK hP 0 rfl rfl 85 (by decide) (hts (.fieldLink RX13 775 "LiquidTongueModel" "facts" "I") (by decide +kernel)) (fun _ h9 => h9) hf0_85 dX13_fact_46 ?_
  refine lv_iload hx hb dX13_fact_49 (lv_at hl 5 rfl) ?_
  refine va_iast hx hb hK hP hD hS 5 4 rfl rfl hi_4 dX13_fact_51 (fun H locs hP hD hS => ?_)
  have hP : va_P (dC, dI) vwCl [(h0, .inr (15, fs0)), (v0_80, .inl (c_v0_80, 12000, .inl (upd f_v0_80 (v0_85).toNatClampNeg p0))), (v0_81, .inl (c_v0_81, 12000, .inl (upd f_v0_81 (v0_85).toNatClampNeg p1))), (v0_82, .inl (c_v0_82, 12000, .inl (upd f_v0_82 (v0_85).toNatClampNeg p2))), (v0_84, .inl (c_v0_84, 12000, .inr (.inl (vp_updL f_v0_84 (v0_85).toNatClampNeg p3)))), (v0_83, .inl (c_v0_83, 12000, .inl (upd f_v0_83 (v0_85).toNatClampNeg p4)))] H := hP
  have hD : va_D A [(h0, .inr (15, fs0)), (v0_80, .inl (c_v0_80, 12000, .inl (upd f_v0_80 (v0_85).toNatClampNeg p0))), (v0_81, .inl (c_v0_81, 12000, .inl (upd f_v0_81 (v0_85).toNatClampNeg p1))), (v0_82, .inl (c_v0_82, 12000, .inl (upd f_v0_82 (v0_85).toNatClampNeg p2))), (v0_84, .inl (c_v0_84, 12000, .inr (.inl (vp_updL f_v0_84 (v0_85).toNatClampNeg p3)))), (v0_83, .inl (c_v0_83, 12000, .inl (upd f_v0_83 (v0_85).toNatClampNeg p4)))] := hD
  refine lv_aload_n hx hb dX13_fact_52 rfl (lv_at hl 0 rfl) ?_
  refine lv_dup hx hb dX13_fact_53 rfl ?_
  refine va_get (D := (dC, dI)) (ci := 15) (v := .int v0_85) (C := RX13) (T := TX13) (N := 196) hx hb hts iw_X13_fact_X13 hown hK hP 0 rfl rfl 85 (by decide) (hts (.fieldLink RX13 775 "LiquidTongueModel" "facts" "I") (by decide +kernel)) (fun _ h9 => h9) hf0_85 dX13_fact_54 ?_
  refine lv_iconst (v := 1) hx hb dX13_fact_57 (by decide) ?_
  refine lv_iadd hx hb dX13_fact_58 ?_
  refine va_put (D := (dC, dI)) (ci := 15) (v := .int (v0_85 + 1)) (ty := .int) (C := RX13) (T := TX13) (N := 196) hx hb hts iw_X13_fact_X13 tyX13 tyX13_ok nmX13 hown hK hP hD hS 0 rfl rfl 85 (by decide) (hts (.fieldLink RX13 775 "LiquidTongueModel" "facts" "I") (by decide +kernel)) (fun _ h9 => h9) rfl (by decide +kernel) rfl rfl (zs_lt hl0 (by decide)) dX13_fact_59 (fun H locs hP hD hS => ?_)
  have hP : va_P (dC, dI) vwCl [(h0, .inr (15, (fs0.set 85 (.int (v0_85 + 1))))), (v0_80, .inl (c_v0_80, 12000, .inl (upd f_v0_80 (v0_85).toNatClampNeg p0))), (v0_81, .inl (c_v0_81, 12000, .inl (upd f_v0_81 (v0_85).toNatClampNeg p1))), (v0_82, .inl (c_v0_82, 12000, .inl (upd f_v0_82 (v0_85).toNatClampNeg p2))), (v0_84, .inl (c_v0_84, 12000, .inr (.inl (vp_updL f_v0_84 (v0_85).toNatClampNeg p3)))), (v0_83, .inl (c_v0_83, 12000, .inl (upd f_v0_83 (v0_85).toNatClampNeg p4)))] H := hP
  have hD : va_D A [(h0, .inr (15, (fs0.set 85 (.int (v0_85 + 1))))), (v0_80, .inl (c_v0_80, 12000, .inl (upd f_v0_80 (v0_85).toNatClampNeg p0))), (v0_81, .inl (c_v0_81, 12000, .inl (upd f_v0_81 (v0_85).toNatClampNeg p1))), (v0_82, .inl (c_v0_82, 12000, .inl (upd f_v0_82 (v0_85).toNatClampNeg p2))), (v0_84, .inl (c_v0_84, 12000, .inr (.inl (vp_updL f_v0_84 (v0_85).toNatClampNeg p3)))), (v0_83, .inl (c_v0_83, 12000, .inl (upd f_v0_83 (v0_85).toNatClampNeg p4)))] := hD
  refine lv_aload_n hx hb dX13_fact_62 rfl (lv_at hl 0 rfl) ?_
  refine va_get (D := (dC, dI)) (ci := 15) (v := .int (v0_85 + 1)) (C := RX13) (T := TX13) (N := 196) hx hb hts iw_X13_fact_X13 hown hK hP 0 rfl rfl 85 (by decide) (hts (.fieldLink RX13 775 "LiquidTongueModel" "facts" "I") (by decide +kernel)) (fun _ h9 => h9) (zs_eq (zs_lt hl0 (by decide))) dX13_fact_63 ?_
  refine lv_iconst (v := 1) hx hb dX13_fact_66 (by decide) ?_
  refine lv_isub hx hb dX13_fact_67 ?_
  have hP9 := hP.sub (ws' := [(h0, .inr (15, (fs0.set 85 (.int (v0_85 + 1))))), (v0_80, .inl (c_v0_80, 12000, .inl (upd f_v0_80 (v0_85).toNatClampNeg p0))), (v0_81, .inl (c_v0_81, 12000, .inl (upd f_v0_81 (v0_85).toNatClampNeg p1))), (v0_82, .inl (c_v0_82, 12000, .inl (upd f_v0_82 (v0_85).toNatClampNeg p2))), (v0_84, .inl (c_v0_84, 12000, .inr (.inl (vp_updL f_v0_84 (v0_85).toNatClampNeg p3)))), (v0_83, .inl (c_v0_83, 12000, .inl (upd f_v0_83 (v0_85).toNatClampNeg p4)))]) [0, 1, 2, 3, 4, 5] rfl
  have hD9 := hD.sub (ws' := [(h0, .inr (15, (fs0.set 85 (.int (v0_85 + 1))))), (v0_80, .inl (c_v0_80, 12000, .inl (upd f_v0_80 (v0_85).toNatClampNeg p0))), (v0_81, .inl (c_v0_81, 12000, .inl (upd f_v0_81 (v0_85).toNatClampNeg p1))), (v0_82, .inl (c_v0_82, 12000, .inl (upd f_v0_82 (v0_85).toNatClampNeg p2))), (v0_84, .inl (c_v0_84, 12000, .inr (.inl (vp_updL f_v0_84 (v0_85).toNatClampNeg p3)))), (v0_83, .inl (c_v0_83, 12000, .inl (upd f_v0_83 (v0_85).toNatClampNeg p4)))]) [0, 1, 2, 3, 4, 5] (by decide) rfl
  have hK9 := hK.sub (tys' := [(c_v0_80, .int), (c_v0_81, .int), (c_v0_82, .int), (c_v0_84, .long), (c_v0_83, .int)]) [0, 1, 2, 3, 4] rfl
  exact W.iret (v := ((v0_85 + 1) - 1)) hx hb hr (fun t ht hW => ⟨⟨((v0_85 + 1) - 1), (), rfl, rfl, (zB_mk (by rw [ht]; exact hP9) (va_K.moved hW.alike hK9) hD9)⟩, hS.F ht⟩) hS.2.2 dX13_fact_68
theorem iw_X13_function_X13 : ∀ w ∈ wsX130, w ∈ wsX13_function := fun w h => List.mem_cons_of_mem _ (List.mem_append_right _ h)
set_option maxHeartbeats 4000000 in
set_option maxRecDepth 100000 in
/-- X13_function, a road -/
theorem c_X13_function_r0 (l : Launch) (dC : Nat → ClassId) (dI : Nat → Nat → Nat) (sz : Nat) (h0 : Nat) (fs0 : List Value) (p0 : Int32) (p1 : Int32) (v0_172 : Nat) (v0_176 : Int32) (c_v0_172 : ClassId) (f_v0_172 : Nat → Int32) (v0_173 : Nat) (c_v0_173 : ClassId) (f_v0_173 : Nat → Int32) (v0_174 : Nat) (c_v0_174 : ClassId) (f_v0_174 : Nat → Int32) (v0_175 : Nat) (c_v0_175 : ClassId) (f_v0_175 : Nat → Int32) (hl0 : fs0.length = 196) (hf0_172 : fs0[172]? = some (.ref v0_172)) (hf0_176 : fs0[176]? = some (.int v0_176)) (hf0_173 : fs0[173]? = some (.ref v0_173)) (hf0_174 : fs0[174]? = some (.ref v0_174)) (hf0_175 : fs0[175]? = some (.ref v0_175)) (hi_0 : vp_in v0_176 60000) (hi_1 : vp_in v0_176 60000) (hi_2 : vp_in v0_176 60000) (hi_3 : vp_in v0_176 60000) : Met l yX13_function wsX13_function ({ frames := 0, cells := 0, slots := 0, locals := 0 }) (zPc dC dI sz [.ref h0, .int p0, .int p1] [(h0, .inr (15, fs0)), (v0_172, .inl (c_v0_172, 60000, .inl f_v0_172)), (v0_173, .inl (c_v0_173, 60000, .inl f_v0_173)), (v0_174, .inl (c_v0_174, 60000, .inl f_v0_174)), (v0_175, .inl (c_v0_175, 60000, .inl f_v0_175))] [(c_v0_172, .int), (c_v0_173, .int), (c_v0_174, .int), (c_v0_175, .int)]) (va_Qi (fun (r : Int32) (_ : Unit) => r = ((v0_176 + 1) - 1)) (zB dC dI (fun _ => [(c_v0_172, .int), (c_v0_173, .int), (c_v0_174, .int), (c_v0_175, .int)]) (fun _ : Unit => [(h0, .inr (15, (fs0.set 176 (.int (v0_176 + 1))))), (v0_172, .inl (c_v0_172, 60000, .inl (upd f_v0_172 (v0_176).toNatClampNeg p0))), (v0_173, .inl (c_v0_173, 60000, .inl (upd f_v0_173 (v0_176).toNatClampNeg p1))), (v0_174, .inl (c_v0_174, 60000, .inl (upd f_v0_174 (v0_176).toNatClampNeg (-1)))), (v0_175, .inl (c_v0_175, 60000, .inl (upd f_v0_175 (v0_176).toNatClampNeg 0)))]) (va_A [(h0, .inr (15, fs0)), (v0_172, .inl (c_v0_172, 60000, .inl f_v0_172)), (v0_173, .inl (c_v0_173, 60000, .inl f_v0_173)), (v0_174, .inl (c_v0_174, 60000, .inl f_v0_174)), (v0_175, .inl (c_v0_175, 60000, .inl f_v0_175))] sz)) (va_A [(h0, .inr (15, fs0)), (v0_172, .inl (c_v0_172, 60000, .inl f_v0_172)), (v0_173, .inl (c_v0_173, 60000, .inl f_v0_173)), (v0_174, .inl (c_v0_174, 60000, .inl f_v0_174)), (v0_175, .inl (c_v0_175, 60000, .inl f_v0_175))] sz)) 0 0 (va_A [(h0, .inr (15, fs0)), (v0_172, .inl (c_v0_172, 60000, .inl f_v0_172)), (v0_173, .inl (c_v0_173, 60000, .inl f_v0_173)), (v0_174, .inl (c_v0_174, 60000, .inl f_v0_174)), (v0_175, .inl (c_v0_175, 60000, .inl f_v0_175))] sz) := by
  refine Met.ofW (cc := cX13_function) (maxL := 3) (ret := (some .int)) (by decide) rfl ?_
  intro p e s m args below meth c s₁ B hml hv
  obtain ⟨rfl, hsz, hP, hK, hD0⟩ := hv
  have hx := B.exec
  have hb := B.bytes
  have hr := B.returns
  have hts := atoms_spec (ws := wsX13_function) B.pre
  have hown : s.vm.findClass RX13 = some m.cls := findClass_of_methodNamed B.named
  have hlocks := B.notSynchronized
  subst hsz
  have hD := hD0.self (sz := s.heap.size)
  generalize hAe : va_A [(h0, .inr (15, fs0)), (v0_172, .inl (c_v0_172, 60000, .inl f_v0_172)), (v0_173, .inl (c_v0_173, 60000, .inl f_v0_173)), (v0_174, .inl (c_v0_174, 60000, .inl f_v0_174)), (v0_175, .inl (c_v0_175, 60000, .inl f_v0_175))] s.heap.size = A at hD ⊢
  have hA : ∀ q : Nat, s.heap.size ≤ q → A q := fun q h => by rw [← hAe]; exact Or.inr h
  have hS : va_S A s.heap s.heap [] := va_S.rf
  have hP : va_P (dC, dI) vwCl [(h0, .inr (15, fs0)), (v0_172, .inl (c_v0_172, 60000, .inl f_v0_172)), (v0_173, .inl (c_v0_173, 60000, .inl f_v0_173)), (v0_174, .inl (c_v0_174, 60000, .inl f_v0_174)), (v0_175, .inl (c_v0_175, 60000, .inl f_v0_175))] s.heap := hP
  have hl := lv_entry ([.ref h0, .int p0, .int p1]) (n := 3) (Nat.le_of_ble_eq_true rfl)
  rw [lg_entry_eq]
  generalize (lg_sl ([.ref h0, .int p0, .int p1]) ++ List.replicate (3 - (lg_sl ([.ref h0, .int p0, .int p1])).length) Slot.unset).toArray = ls at hl ⊢
  have hl : lv_has ls 3 [(0, .ref h0), (1, .int p0), (2, .int p1)] := hl
  refine lv_aload_n hx hb dX13_function_0 rfl (lv_at hl 0 rfl) ?_
  refine va_get (D := (dC, dI)) (ci := 15) (v := .ref v0_172) (C := RX13) (T := TX13) (N := 196) hx hb hts iw_X13_function_X13 hown hK hP 0 rfl rfl 172 (by decide) (hts (.fieldLink RX13 347 "LiquidTongueModel" "fNode" "[I") (by decide +kernel)) (fun _ h9 => h9) hf0_172 dX13_function_1 ?_
  refine lv_aload_n hx hb dX13_function_4 rfl (lv_at hl 0 rfl) ?_
  refine va_get (D := (dC, dI)) (ci := 15) (v := .int v0_176) (C := RX13) (T := TX13) (N := 196) hx hb hts iw_X13_function_X13 hown hK hP 0 rfl rfl 176 (by decide) (hts (.fieldLink RX13 1067 "LiquidTongueModel" "functions" "I") (by decide +kernel)) (fun _ h9 => h9) hf0_176 dX13_function_5 ?_
  refine lv_iload_n hx hb dX13_function_8 rfl (lv_at hl 1 rfl) ?_
  refine va_iast hx hb hK hP hD hS 1 0 rfl rfl hi_0 dX13_function_9 (fun H locs hP hD hS => ?_)
  have hP : va_P (dC, dI) vwCl [(h0, .inr (15, fs0)), (v0_172, .inl (c_v0_172, 60000, .inl (upd f_v0_172 (v0_176).toNatClampNeg p0))), (v0_173, .inl (c_v0_173, 60000, .inl f_v0_173)), (v0_174, .inl (c_v0_174, 60000, .inl f_v0_174)), (v0_175, .inl (c_v0_175, 60000, .inl f_v0_175))] H := hP
  have hD : va_D A [(h0, .inr (15, fs0)), (v0_172, .inl (c_v0_172, 60000, .inl (upd f_v0_172 (v0_176).toNatClampNeg p0))), (v0_173, .inl (c_v0_173, 60000, .inl f_v0_173)), (v0_174, .inl (c_v0_174, 60000, .inl f_v0_174)), (v0_175, .inl (c_v0_175, 60000, .inl f_v0_175))] := hD
  refine lv_aload_n hx hb dX13_function_10 rfl (lv_at hl 0 rfl) ?_
  refine va_get (D := (dC, dI)) (ci := 15) (v := .ref v0_173) (C := RX13) (T := TX13) (N := 196) hx hb hts iw_X13_function_X13 hown hK hP 0 rfl rfl 173 (by decide) (hts (.fieldLink RX13 350 "LiquidTongueModel" "fSlots" "[I") (by decide +kernel)) (fun _ h9 => h9) hf0_173 dX13_function_11 ?_
  refine lv_aload_n hx hb dX13_function_14 rfl (lv_at hl 0 rfl) ?_
  refine va_get (D := (dC, dI)) (ci := 15) (v := .int v0_176) (C := RX13) (T := TX13) (N := 196) hx hb hts iw_X13_function_X13 hown hK hP 0 rfl rfl 176 (by decide) (hts (.fieldLink RX13 1067 "LiquidTongueModel" "functions" "I") (by decide +kernel)) (fun _ h9 => h9) hf0_176 dX13_function_15 ?_
  refine lv_iload_n hx hb dX13_function_18 rfl (lv_at hl 2 rfl) ?_
  refine va_iast hx hb hK hP hD hS 2 1 rfl rfl hi_1 dX13_function_19 (fun H locs hP hD hS => ?_)
  have hP : va_P (dC, dI) vwCl [(h0, .inr (15, fs0)), (v0_172, .inl (c_v0_172, 60000, .inl (upd f_v0_172 (v0_176).toNatClampNeg p0))), (v0_173, .inl (c_v0_173, 60000, .inl (upd f_v0_173 (v0_176).toNatClampNeg p1))), (v0_174, .inl (c_v0_174, 60000, .inl f_v0_174)), (v0_175, .inl (c_v0_175, 60000, .inl f_v0_175))] H := hP
  have hD : va_D A [(h0, .inr (15, fs0)), (v0_172, .inl (c_v0_172, 60000, .inl (upd f_v0_172 (v0_176).toNatClampNeg p0))), (v0_173, .inl (c_v0_173, 60000, .inl (upd f_v0_173 (v0_176).toNatClampNeg p1))), (v0_174, .inl (c_v0_174, 60000, .inl f_v0_174)), (v0_175, .inl (c_v0_175, 60000, .inl f_v0_175))] := hD
  refine lv_aload_n hx hb dX13_function_20 rfl (lv_at hl 0 rfl) ?_
  refine va_get (D := (dC, dI)) (ci := 15) (v := .ref v0_174) (C := RX13) (T := TX13) (N := 196) hx hb hts iw_X13_function_X13 hown hK hP 0 rfl rfl 174 (by decide) (hts (.fieldLink RX13 353 "LiquidTongueModel" "fHad" "[I") (by decide +kernel)) (fun _ h9 => h9) hf0_174 dX13_function_21 ?_
  refine lv_aload_n hx hb dX13_function_24 rfl (lv_at hl 0 rfl) ?_
  refine va_get (D := (dC, dI)) (ci := 15) (v := .int v0_176) (C := RX13) (T := TX13) (N := 196) hx hb hts iw_X13_function_X13 hown hK hP 0 rfl rfl 176 (by decide) (hts (.fieldLink RX13 1067 "LiquidTongueModel" "functions" "I") (by decide +kernel)) (fun _ h9 => h9) hf0_176 dX13_function_25 ?_
  refine lv_iconst (v := -1) hx hb dX13_function_28 (by decide) ?_
  refine va_iast hx hb hK hP hD hS 3 2 rfl rfl hi_2 dX13_function_29 (fun H locs hP hD hS => ?_)
  have hP : va_P (dC, dI) vwCl [(h0, .inr (15, fs0)), (v0_172, .inl (c_v0_172, 60000, .inl (upd f_v0_172 (v0_176).toNatClampNeg p0))), (v0_173, .inl (c_v0_173, 60000, .inl (upd f_v0_173 (v0_176).toNatClampNeg p1))), (v0_174, .inl (c_v0_174, 60000, .inl (upd f_v0_174 (v0_176).toNatClampNeg (-1)))), (v0_175, .inl (c_v0_175, 60000, .inl f_v0_175))] H := hP
  have hD : va_D A [(h0, .inr (15, fs0)), (v0_172, .inl (c_v0_172, 60000, .inl (upd f_v0_172 (v0_176).toNatClampNeg p0))), (v0_173, .inl (c_v0_173, 60000, .inl (upd f_v0_173 (v0_176).toNatClampNeg p1))), (v0_174, .inl (c_v0_174, 60000, .inl (upd f_v0_174 (v0_176).toNatClampNeg (-1)))), (v0_175, .inl (c_v0_175, 60000, .inl f_v0_175))] := hD
  refine lv_aload_n hx hb dX13_function_30 rfl (lv_at hl 0 rfl) ?_
  refine va_get (D := (dC, dI)) (ci := 15) (v := .ref v0_175) (C := RX13) (T := TX13) (N := 196) hx hb hts iw_X13_function_X13 hown hK hP 0 rfl rfl 175 (by decide) (hts (.fieldLink RX13 356 "LiquidTongueModel" "fMany" "[I") (by decide +kernel)) (fun _ h9 => h9) hf0_175 dX13_function_31 ?_
  refine lv_aload_n hx hb dX13_function_34 rfl (lv_at hl 0 rfl) ?_
  refine va_get (D := (dC, dI)) (ci := 15) (v := .int v0_176) (C := RX13) (T := TX13) (N := 196) hx hb hts iw_X13_function_X13 hown hK hP 0 rfl rfl 176 (by decide) (hts (.fieldLink RX13 1067 "LiquidTongueModel" "functions" "I") (by decide +kernel)) (fun _ h9 => h9) hf0_176 dX13_function_35 ?_
  refine lv_iconst (v := 0) hx hb dX13_function_38 (by decide) ?_
  refine va_iast hx hb hK hP hD hS 4 3 rfl rfl hi_3 dX13_function_39 (fun H locs hP hD hS => ?_)
  have hP : va_P (dC, dI) vwCl [(h0, .inr (15, fs0)), (v0_172, .inl (c_v0_172, 60000, .inl (upd f_v0_172 (v0_176).toNatClampNeg p0))), (v0_173, .inl (c_v0_173, 60000, .inl (upd f_v0_173 (v0_176).toNatClampNeg p1))), (v0_174, .inl (c_v0_174, 60000, .inl (upd f_v0_174 (v0_176).toNatClampNeg (-1)))), (v0_175, .inl (c_v0_175, 60000, .inl (upd f_v0_175 (v0_176).toNatClampNeg 0)))] H := hP
  have hD : va_D A [(h0, .inr (15, fs0)), (v0_172, .inl (c_v0_172, 60000, .inl (upd f_v0_172 (v0_176).toNatClampNeg p0))), (v0_173, .inl (c_v0_173, 60000, .inl (upd f_v0_173 (v0_176).toNatClampNeg p1))), (v0_174, .inl (c_v0_174, 60000, .inl (upd f_v0_174 (v0_176).toNatClampNeg (-1)))), (v0_175, .inl (c_v0_175, 60000, .inl (upd f_v0_175 (v0_176).toNatClampNeg 0)))] := hD
  refine lv_aload_n hx hb dX13_function_40 rfl (lv_at hl 0 rfl) ?_
  refine lv_dup hx hb dX13_function_41 rfl ?_
  refine va_get (D := (dC, dI)) (ci := 15) (v := .int v0_176) (C := RX13) (T := TX13) (N := 196) hx hb hts iw_X13_function_X13 hown hK hP 0 rfl rfl 176 (by decide) (hts (.fieldLink RX13 1067 "LiquidTongueModel" "functions" "I") (by decide +kernel)) (fun _ h9 => h9) hf0_176 dX13_function_42 ?_
  refine lv_iconst (v := 1) hx hb dX13_function_45 (by decide) ?_
  refine lv_iadd hx hb dX13_function_46 ?_
  refine va_put (D := (dC, dI)) (ci := 15) (v := .int (v0_176 + 1)) (ty := .int) (C := RX13) (T := TX13) (N := 196) hx hb hts iw_X13_function_X13 tyX13 tyX13_ok nmX13 hown hK hP hD hS 0 rfl rfl 176 (by decide) (hts (.fieldLink RX13 1067 "LiquidTongueModel" "functions" "I") (by decide +kernel)) (fun _ h9 => h9) rfl (by decide +kernel) rfl rfl (zs_lt hl0 (by decide)) dX13_function_47 (fun H locs hP hD hS => ?_)
  have hP : va_P (dC, dI) vwCl [(h0, .inr (15, (fs0.set 176 (.int (v0_176 + 1))))), (v0_172, .inl (c_v0_172, 60000, .inl (upd f_v0_172 (v0_176).toNatClampNeg p0))), (v0_173, .inl (c_v0_173, 60000, .inl (upd f_v0_173 (v0_176).toNatClampNeg p1))), (v0_174, .inl (c_v0_174, 60000, .inl (upd f_v0_174 (v0_176).toNatClampNeg (-1)))), (v0_175, .inl (c_v0_175, 60000, .inl (upd f_v0_175 (v0_176).toNatClampNeg 0)))] H := hP
  have hD : va_D A [(h0, .inr (15, (fs0.set 176 (.int (v0_176 + 1))))), (v0_172, .inl (c_v0_172, 60000, .inl (upd f_v0_172 (v0_176).toNatClampNeg p0))), (v0_173, .inl (c_v0_173, 60000, .inl (upd f_v0_173 (v0_176).toNatClampNeg p1))), (v0_174, .inl (c_v0_174, 60000, .inl (upd f_v0_174 (v0_176).toNatClampNeg (-1)))), (v0_175, .inl (c_v0_175, 60000, .inl (upd f_v0_175 (v0_176).toNatClampNeg 0)))] := hD
  refine lv_aload_n hx hb dX13_function_50 rfl (lv_at hl 0 rfl) ?_
  refine va_get (D := (dC, dI)) (ci := 15) (v := .int (v0_176 + 1)) (C := RX13) (T := TX13) (N := 196) hx hb hts iw_X13_function_X13 hown hK hP 0 rfl rfl 176 (by decide) (hts (.fieldLink RX13 1067 "LiquidTongueModel" "functions" "I") (by decide +kernel)) (fun _ h9 => h9) (zs_eq (zs_lt hl0 (by decide))) dX13_function_51 ?_
  refine lv_iconst (v := 1) hx hb dX13_function_54 (by decide) ?_
  refine lv_isub hx hb dX13_function_55 ?_
  have hP9 := hP.sub (ws' := [(h0, .inr (15, (fs0.set 176 (.int (v0_176 + 1))))), (v0_172, .inl (c_v0_172, 60000, .inl (upd f_v0_172 (v0_176).toNatClampNeg p0))), (v0_173, .inl (c_v0_173, 60000, .inl (upd f_v0_173 (v0_176).toNatClampNeg p1))), (v0_174, .inl (c_v0_174, 60000, .inl (upd f_v0_174 (v0_176).toNatClampNeg (-1)))), (v0_175, .inl (c_v0_175, 60000, .inl (upd f_v0_175 (v0_176).toNatClampNeg 0)))]) [0, 1, 2, 3, 4] rfl
  have hD9 := hD.sub (ws' := [(h0, .inr (15, (fs0.set 176 (.int (v0_176 + 1))))), (v0_172, .inl (c_v0_172, 60000, .inl (upd f_v0_172 (v0_176).toNatClampNeg p0))), (v0_173, .inl (c_v0_173, 60000, .inl (upd f_v0_173 (v0_176).toNatClampNeg p1))), (v0_174, .inl (c_v0_174, 60000, .inl (upd f_v0_174 (v0_176).toNatClampNeg (-1)))), (v0_175, .inl (c_v0_175, 60000, .inl (upd f_v0_175 (v0_176).toNatClampNeg 0)))]) [0, 1, 2, 3, 4] (by decide) rfl
  have hK9 := hK.sub (tys' := [(c_v0_172, .int), (c_v0_173, .int), (c_v0_174, .int), (c_v0_175, .int)]) [0, 1, 2, 3] rfl
  exact W.iret (v := ((v0_176 + 1) - 1)) hx hb hr (fun t ht hW => ⟨⟨((v0_176 + 1) - 1), (), rfl, rfl, (zB_mk (by rw [ht]; exact hP9) (va_K.moved hW.alike hK9) hD9)⟩, hS.F ht⟩) hS.2.2 dX13_function_56
theorem iw_X13_gone_X13 : ∀ w ∈ wsX130, w ∈ wsX13_gone := fun w h => List.mem_cons_of_mem _ (List.mem_append_right _ h)
set_option maxHeartbeats 4000000 in
set_option maxRecDepth 100000 in
/-- X13_gone, a road -/
theorem c_X13_gone_r0 (l : Launch) (dC : Nat → ClassId) (dI : Nat → Nat → Nat) (sz : Nat) (h0 : Nat) (fs0 : List Value) (p0 : Int32) (p1 : Int32) (p2 : Int32) (v0_106 : Nat) (v0_110 : Int32) (c_v0_106 : ClassId) (f_v0_106 : Nat → Int32) (v0_107 : Nat) (c_v0_107 : ClassId) (f_v0_107 : Nat → Int32) (v0_108 : Nat) (c_v0_108 : ClassId) (f_v0_108 : Nat → Int32) (hl0 : fs0.length = 196) (hf0_106 : fs0[106]? = some (.ref v0_106)) (hf0_110 : fs0[110]? = some (.int v0_110)) (hf0_107 : fs0[107]? = some (.ref v0_107)) (hf0_108 : fs0[108]? = some (.ref v0_108)) (hi_0 : vp_in v0_110 12000) (hi_1 : vp_in v0_110 12000) (hi_2 : vp_in v0_110 12000) : Met l yX13_gone wsX13_gone ({ frames := 0, cells := 0, slots := 0, locals := 0 }) (zPc dC dI sz [.ref h0, .int p0, .int p1, .int p2] [(h0, .inr (15, fs0)), (v0_106, .inl (c_v0_106, 12000, .inl f_v0_106)), (v0_107, .inl (c_v0_107, 12000, .inl f_v0_107)), (v0_108, .inl (c_v0_108, 12000, .inl f_v0_108))] [(c_v0_106, .int), (c_v0_107, .int), (c_v0_108, .int)]) (va_Qi (fun (r : Int32) (_ : Unit) => r = ((v0_110 + 1) - 1)) (zB dC dI (fun _ => [(c_v0_106, .int), (c_v0_107, .int), (c_v0_108, .int)]) (fun _ : Unit => [(h0, .inr (15, (fs0.set 110 (.int (v0_110 + 1))))), (v0_106, .inl (c_v0_106, 12000, .inl (upd f_v0_106 (v0_110).toNatClampNeg p1))), (v0_107, .inl (c_v0_107, 12000, .inl (upd f_v0_107 (v0_110).toNatClampNeg p2))), (v0_108, .inl (c_v0_108, 12000, .inl (upd f_v0_108 (v0_110).toNatClampNeg p0)))]) (va_A [(h0, .inr (15, fs0)), (v0_106, .inl (c_v0_106, 12000, .inl f_v0_106)), (v0_107, .inl (c_v0_107, 12000, .inl f_v0_107)), (v0_108, .inl (c_v0_108, 12000, .inl f_v0_108))] sz)) (va_A [(h0, .inr (15, fs0)), (v0_106, .inl (c_v0_106, 12000, .inl f_v0_106)), (v0_107, .inl (c_v0_107, 12000, .inl f_v0_107)), (v0_108, .inl (c_v0_108, 12000, .inl f_v0_108))] sz)) 0 0 (va_A [(h0, .inr (15, fs0)), (v0_106, .inl (c_v0_106, 12000, .inl f_v0_106)), (v0_107, .inl (c_v0_107, 12000, .inl f_v0_107)), (v0_108, .inl (c_v0_108, 12000, .inl f_v0_108))] sz) := by
  refine Met.ofW (cc := cX13_gone) (maxL := 4) (ret := (some .int)) (by decide) rfl ?_
  intro p e s m args below meth c s₁ B hml hv
  obtain ⟨rfl, hsz, hP, hK, hD0⟩ := hv
  have hx := B.exec
  have hb := B.bytes
  have hr := B.returns
  have hts := atoms_spec (ws := wsX13_gone) B.pre
  have hown : s.vm.findClass RX13 = some m.cls := findClass_of_methodNamed B.named
  have hlocks := B.notSynchronized
  subst hsz
  have hD := hD0.self (sz := s.heap.size)
  generalize hAe : va_A [(h0, .inr (15, fs0)), (v0_106, .inl (c_v0_106, 12000, .inl f_v0_106)), (v0_107, .inl (c_v0_107, 12000, .inl f_v0_107)), (v0_108, .inl (c_v0_108, 12000, .inl f_v0_108))] s.heap.size = A at hD ⊢
  have hA : ∀ q : Nat, s.heap.size ≤ q → A q := fun q h => by rw [← hAe]; exact Or.inr h
  have hS : va_S A s.heap s.heap [] := va_S.rf
  have hP : va_P (dC, dI) vwCl [(h0, .inr (15, fs0)), (v0_106, .inl (c_v0_106, 12000, .inl f_v0_106)), (v0_107, .inl (c_v0_107, 12000, .inl f_v0_107)), (v0_108, .inl (c_v0_108, 12000, .inl f_v0_108))] s.heap := hP
  have hl := lv_entry ([.ref h0, .int p0, .int p1, .int p2]) (n := 4) (Nat.le_of_ble_eq_true rfl)
  rw [lg_entry_eq]
  generalize (lg_sl ([.ref h0, .int p0, .int p1, .int p2]) ++ List.replicate (4 - (lg_sl ([.ref h0, .int p0, .int p1, .int p2])).length) Slot.unset).toArray = ls at hl ⊢
  have hl : lv_has ls 4 [(0, .ref h0), (1, .int p0), (2, .int p1), (3, .int p2)] := hl
  refine lv_aload_n hx hb dX13_gone_0 rfl (lv_at hl 0 rfl) ?_
  refine va_get (D := (dC, dI)) (ci := 15) (v := .ref v0_106) (C := RX13) (T := TX13) (N := 196) hx hb hts iw_X13_gone_X13 hown hK hP 0 rfl rfl 106 (by decide) (hts (.fieldLink RX13 231 "LiquidTongueModel" "goneNode" "[I") (by decide +kernel)) (fun _ h9 => h9) hf0_106 dX13_gone_1 ?_
  refine lv_aload_n hx hb dX13_gone_4 rfl (lv_at hl 0 rfl) ?_
  refine va_get (D := (dC, dI)) (ci := 15) (v := .int v0_110) (C := RX13) (T := TX13) (N := 196) hx hb hts iw_X13_gone_X13 hown hK hP 0 rfl rfl 110 (by decide) (hts (.fieldLink RX13 794 "LiquidTongueModel" "gones" "I") (by decide +kernel)) (fun _ h9 => h9) hf0_110 dX13_gone_5 ?_
  refine lv_iload_n hx hb dX13_gone_8 rfl (lv_at hl 2 rfl) ?_
  refine va_iast hx hb hK hP hD hS 1 0 rfl rfl hi_0 dX13_gone_9 (fun H locs hP hD hS => ?_)
  have hP : va_P (dC, dI) vwCl [(h0, .inr (15, fs0)), (v0_106, .inl (c_v0_106, 12000, .inl (upd f_v0_106 (v0_110).toNatClampNeg p1))), (v0_107, .inl (c_v0_107, 12000, .inl f_v0_107)), (v0_108, .inl (c_v0_108, 12000, .inl f_v0_108))] H := hP
  have hD : va_D A [(h0, .inr (15, fs0)), (v0_106, .inl (c_v0_106, 12000, .inl (upd f_v0_106 (v0_110).toNatClampNeg p1))), (v0_107, .inl (c_v0_107, 12000, .inl f_v0_107)), (v0_108, .inl (c_v0_108, 12000, .inl f_v0_108))] := hD
  refine lv_aload_n hx hb dX13_gone_10 rfl (lv_at hl 0 rfl) ?_
  refine va_get (D := (dC, dI)) (ci := 15) (v := .ref v0_107) (C := RX13) (T := TX13) (N := 196) hx hb hts iw_X13_gone_X13 hown hK hP 0 rfl rfl 107 (by decide) (hts (.fieldLink RX13 234 "LiquidTongueModel" "goneIs" "[I") (by decide +kernel)) (fun _ h9 => h9) hf0_107 dX13_gone_11 ?_
  refine lv_aload_n hx hb dX13_gone_14 rfl (lv_at hl 0 rfl) ?_
  refine va_get (D := (dC, dI)) (ci := 15) (v := .int v0_110) (C := RX13) (T := TX13) (N := 196) hx hb hts iw_X13_gone_X13 hown hK hP 0 rfl rfl 110 (by decide) (hts (.fieldLink RX13 794 "LiquidTongueModel" "gones" "I") (by decide +kernel)) (fun _ h9 => h9) hf0_110 dX13_gone_15 ?_
  refine lv_iload_n hx hb dX13_gone_18 rfl (lv_at hl 3 rfl) ?_
  refine va_iast hx hb hK hP hD hS 2 1 rfl rfl hi_1 dX13_gone_19 (fun H locs hP hD hS => ?_)
  have hP : va_P (dC, dI) vwCl [(h0, .inr (15, fs0)), (v0_106, .inl (c_v0_106, 12000, .inl (upd f_v0_106 (v0_110).toNatClampNeg p1))), (v0_107, .inl (c_v0_107, 12000, .inl (upd f_v0_107 (v0_110).toNatClampNeg p2))), (v0_108, .inl (c_v0_108, 12000, .inl f_v0_108))] H := hP
  have hD : va_D A [(h0, .inr (15, fs0)), (v0_106, .inl (c_v0_106, 12000, .inl (upd f_v0_106 (v0_110).toNatClampNeg p1))), (v0_107, .inl (c_v0_107, 12000, .inl (upd f_v0_107 (v0_110).toNatClampNeg p2))), (v0_108, .inl (c_v0_108, 12000, .inl f_v0_108))] := hD
  refine lv_aload_n hx hb dX13_gone_20 rfl (lv_at hl 0 rfl) ?_
  refine va_get (D := (dC, dI)) (ci := 15) (v := .ref v0_108) (C := RX13) (T := TX13) (N := 196) hx hb hts iw_X13_gone_X13 hown hK hP 0 rfl rfl 108 (by decide) (hts (.fieldLink RX13 237 "LiquidTongueModel" "goneBefore" "[I") (by decide +kernel)) (fun _ h9 => h9) hf0_108 dX13_gone_21 ?_
  refine lv_aload_n hx hb dX13_gone_24 rfl (lv_at hl 0 rfl) ?_
  refine va_get (D := (dC, dI)) (ci := 15) (v := .int v0_110) (C := RX13) (T := TX13) (N := 196) hx hb hts iw_X13_gone_X13 hown hK hP 0 rfl rfl 110 (by decide) (hts (.fieldLink RX13 794 "LiquidTongueModel" "gones" "I") (by decide +kernel)) (fun _ h9 => h9) hf0_110 dX13_gone_25 ?_
  refine lv_iload_n hx hb dX13_gone_28 rfl (lv_at hl 1 rfl) ?_
  refine va_iast hx hb hK hP hD hS 3 2 rfl rfl hi_2 dX13_gone_29 (fun H locs hP hD hS => ?_)
  have hP : va_P (dC, dI) vwCl [(h0, .inr (15, fs0)), (v0_106, .inl (c_v0_106, 12000, .inl (upd f_v0_106 (v0_110).toNatClampNeg p1))), (v0_107, .inl (c_v0_107, 12000, .inl (upd f_v0_107 (v0_110).toNatClampNeg p2))), (v0_108, .inl (c_v0_108, 12000, .inl (upd f_v0_108 (v0_110).toNatClampNeg p0)))] H := hP
  have hD : va_D A [(h0, .inr (15, fs0)), (v0_106, .inl (c_v0_106, 12000, .inl (upd f_v0_106 (v0_110).toNatClampNeg p1))), (v0_107, .inl (c_v0_107, 12000, .inl (upd f_v0_107 (v0_110).toNatClampNeg p2))), (v0_108, .inl (c_v0_108, 12000, .inl (upd f_v0_108 (v0_110).toNatClampNeg p0)))] := hD
  refine lv_aload_n hx hb dX13_gone_30 rfl (lv_at hl 0 rfl) ?_
  refine lv_dup hx hb dX13_gone_31 rfl ?_
  refine va_get (D := (dC, dI)) (ci := 15) (v := .int v0_110) (C := RX13) (T := TX13) (N := 196) hx hb hts iw_X13_gone_X13 hown hK hP 0 rfl rfl 110 (by decide) (hts (.fieldLink RX13 794 "LiquidTongueModel" "gones" "I") (by decide +kernel)) (fun _ h9 => h9) hf0_110 dX13_gone_32 ?_
  refine lv_iconst (v := 1) hx hb dX13_gone_35 (by decide) ?_
  refine lv_iadd hx hb dX13_gone_36 ?_
  refine va_put (D := (dC, dI)) (ci := 15) (v := .int (v0_110 + 1)) (ty := .int) (C := RX13) (T := TX13) (N := 196) hx hb hts iw_X13_gone_X13 tyX13 tyX13_ok nmX13 hown hK hP hD hS 0 rfl rfl 110 (by decide) (hts (.fieldLink RX13 794 "LiquidTongueModel" "gones" "I") (by decide +kernel)) (fun _ h9 => h9) rfl (by decide +kernel) rfl rfl (zs_lt hl0 (by decide)) dX13_gone_37 (fun H locs hP hD hS => ?_)
  have hP : va_P (dC, dI) vwCl [(h0, .inr (15, (fs0.set 110 (.int (v0_110 + 1))))), (v0_106, .inl (c_v0_106, 12000, .inl (upd f_v0_106 (v0_110).toNatClampNeg p1))), (v0_107, .inl (c_v0_107, 12000, .inl (upd f_v0_107 (v0_110).toNatClampNeg p2))), (v0_108, .inl (c_v0_108, 12000, .inl (upd f_v0_108 (v0_110).toNatClampNeg p0)))] H := hP
  have hD : va_D A [(h0, .inr (15, (fs0.set 110 (.int (v0_110 + 1))))), (v0_106, .inl (c_v0_106, 12000, .inl (upd f_v0_106 (v0_110).toNatClampNeg p1))), (v0_107, .inl (c_v0_107, 12000, .inl (upd f_v0_107 (v0_110).toNatClampNeg p2))), (v0_108, .inl (c_v0_108, 12000, .inl (upd f_v0_108 (v0_110).toNatClampNeg p0)))] := hD
  refine lv_aload_n hx hb dX13_gone_40 rfl (lv_at hl 0 rfl) ?_
  refine va_get (D := (dC, dI)) (ci := 15) (v := .int (v0_110 + 1)) (C := RX13) (T := TX13) (N := 196) hx hb hts iw_X13_gone_X13 hown hK hP 0 rfl rfl 110 (by decide) (hts (.fieldLink RX13 794 "LiquidTongueModel" "gones" "I") (by decide +kernel)) (fun _ h9 => h9) (zs_eq (zs_lt hl0 (by decide))) dX13_gone_41 ?_
  refine lv_iconst (v := 1) hx hb dX13_gone_44 (by decide) ?_
  refine lv_isub hx hb dX13_gone_45 ?_
  have hP9 := hP.sub (ws' := [(h0, .inr (15, (fs0.set 110 (.int (v0_110 + 1))))), (v0_106, .inl (c_v0_106, 12000, .inl (upd f_v0_106 (v0_110).toNatClampNeg p1))), (v0_107, .inl (c_v0_107, 12000, .inl (upd f_v0_107 (v0_110).toNatClampNeg p2))), (v0_108, .inl (c_v0_108, 12000, .inl (upd f_v0_108 (v0_110).toNatClampNeg p0)))]) [0, 1, 2, 3] rfl
  have hD9 := hD.sub (ws' := [(h0, .inr (15, (fs0.set 110 (.int (v0_110 + 1))))), (v0_106, .inl (c_v0_106, 12000, .inl (upd f_v0_106 (v0_110).toNatClampNeg p1))), (v0_107, .inl (c_v0_107, 12000, .inl (upd f_v0_107 (v0_110).toNatClampNeg p2))), (v0_108, .inl (c_v0_108, 12000, .inl (upd f_v0_108 (v0_110).toNatClampNeg p0)))]) [0, 1, 2, 3] (by decide) rfl
  have hK9 := hK.sub (tys' := [(c_v0_106, .int), (c_v0_107, .int), (c_v0_108, .int)]) [0, 1, 2] rfl
  exact W.iret (v := ((v0_110 + 1) - 1)) hx hb hr (fun t ht hW => ⟨⟨((v0_110 + 1) - 1), (), rfl, rfl, (zB_mk (by rw [ht]; exact hP9) (va_K.moved hW.alike hK9) hD9)⟩, hS.F ht⟩) hS.2.2 dX13_gone_46
theorem iw_X13_isName_X13 : ∀ w ∈ wsX130, w ∈ wsX13_isName := fun w h => List.mem_cons_of_mem _ (List.mem_append_right _ h)
set_option maxHeartbeats 4000000 in
set_option maxRecDepth 100000 in
/-- X13_isName, a road -/
theorem c_X13_isName_r0 (l : Launch) (dC : Nat → ClassId) (dI : Nat → Nat → Nat) (sz : Nat) (h0 : Nat) (fs0 : List Value) (p0 : Int32) (v0_22 : Nat) (c_v0_22 : ClassId) (f_v0_22 : Nat → Int32) (v0_21 : Nat) (c_v0_21 : ClassId) (f_v0_21 : Nat → Int32) (hl0 : fs0.length = 196) (hf0_22 : fs0[22]? = some (.ref v0_22)) (hf0_21 : fs0[21]? = some (.ref v0_21)) (hi_0 : vp_in p0 2100) (hi_1 : vp_in p0 2100) (hc_0 : ¬ ((f_v0_22 (p0).toNatClampNeg) - (f_v0_21 (p0).toNatClampNeg)) = 1) : Met l yX13_isName wsX13_isName ({ frames := 0, cells := 0, slots := 0, locals := 0 }) (zPc dC dI sz [.ref h0, .int p0] [(h0, .inr (15, fs0)), (v0_22, .inl (c_v0_22, 2100, .inl f_v0_22)), (v0_21, .inl (c_v0_21, 2100, .inl f_v0_21))] [(c_v0_22, .int), (c_v0_21, .int)]) (va_Qi (fun (r : Int32) (_ : Unit) => r = 0) (zB dC dI (fun _ => [(c_v0_22, .int), (c_v0_21, .int)]) (fun _ : Unit => [(h0, .inr (15, fs0)), (v0_22, .inl (c_v0_22, 2100, .inl f_v0_22)), (v0_21, .inl (c_v0_21, 2100, .inl f_v0_21))]) (va_A [(h0, .inr (15, fs0)), (v0_22, .inl (c_v0_22, 2100, .inl f_v0_22)), (v0_21, .inl (c_v0_21, 2100, .inl f_v0_21))] sz)) (va_A [(h0, .inr (15, fs0)), (v0_22, .inl (c_v0_22, 2100, .inl f_v0_22)), (v0_21, .inl (c_v0_21, 2100, .inl f_v0_21))] sz)) 0 0 (va_A [(h0, .inr (15, fs0)), (v0_22, .inl (c_v0_22, 2100, .inl f_v0_22)), (v0_21, .inl (c_v0_21, 2100, .inl f_v0_21))] sz) := by
  refine Met.ofW (cc := cX13_isName) (maxL := 2) (ret := (some .boolean)) (by decide) rfl ?_
  intro p e s m args below meth c s₁ B hml hv
  obtain ⟨rfl, hsz, hP, hK, hD0⟩ := hv
  have hx := B.exec
  have hb := B.bytes
  have hr := B.returns
  have hts := atoms_spec (ws := wsX13_isName) B.pre
  have hown : s.vm.findClass RX13 = some m.cls := findClass_of_methodNamed B.named
  have hlocks := B.notSynchronized
  subst hsz
  have hD := hD0.self (sz := s.heap.size)
  generalize hAe : va_A [(h0, .inr (15, fs0)), (v0_22, .inl (c_v0_22, 2100, .inl f_v0_22)), (v0_21, .inl (c_v0_21, 2100, .inl f_v0_21))] s.heap.size = A at hD ⊢
  have hA : ∀ q : Nat, s.heap.size ≤ q → A q := fun q h => by rw [← hAe]; exact Or.inr h
  have hS : va_S A s.heap s.heap [] := va_S.rf
  have hP : va_P (dC, dI) vwCl [(h0, .inr (15, fs0)), (v0_22, .inl (c_v0_22, 2100, .inl f_v0_22)), (v0_21, .inl (c_v0_21, 2100, .inl f_v0_21))] s.heap := hP
  have hl := lv_entry ([.ref h0, .int p0]) (n := 2) (Nat.le_of_ble_eq_true rfl)
  rw [lg_entry_eq]
  generalize (lg_sl ([.ref h0, .int p0]) ++ List.replicate (2 - (lg_sl ([.ref h0, .int p0])).length) Slot.unset).toArray = ls at hl ⊢
  have hl : lv_has ls 2 [(0, .ref h0), (1, .int p0)] := hl
  refine lv_aload_n hx hb dX13_isName_0 rfl (lv_at hl 0 rfl) ?_
  refine va_get (D := (dC, dI)) (ci := 15) (v := .ref v0_22) (C := RX13) (T := TX13) (N := 196) hx hb hts iw_X13_isName_X13 hown hK hP 0 rfl rfl 22 (by decide) (hts (.fieldLink RX13 53 "LiquidTongueModel" "sTo" "[I") (by decide +kernel)) (fun _ h9 => h9) hf0_22 dX13_isName_1 ?_
  refine lv_iload_n hx hb dX13_isName_4 rfl (lv_at hl 1 rfl) ?_
  refine va_iald hx hb hK hP 1 0 rfl rfl hi_0 dX13_isName_5 ?_
  refine lv_aload_n hx hb dX13_isName_6 rfl (lv_at hl 0 rfl) ?_
  refine va_get (D := (dC, dI)) (ci := 15) (v := .ref v0_21) (C := RX13) (T := TX13) (N := 196) hx hb hts iw_X13_isName_X13 hown hK hP 0 rfl rfl 21 (by decide) (hts (.fieldLink RX13 50 "LiquidTongueModel" "sFrom" "[I") (by decide +kernel)) (fun _ h9 => h9) hf0_21 dX13_isName_7 ?_
  refine lv_iload_n hx hb dX13_isName_10 rfl (lv_at hl 1 rfl) ?_
  refine va_iald hx hb hK hP 2 1 rfl rfl hi_1 dX13_isName_11 ?_
  refine lv_isub hx hb dX13_isName_12 ?_
  refine lv_iconst (v := 1) hx hb dX13_isName_13 (by decide) ?_
  refine lv_icmp_ne (tgt := 51) hx hb dX13_isName_14 (by decide) (fun c_1 => ?_) (fun c_1 => absurd c_1 hc_0)
  refine lv_iconst (v := 0) hx hb dX13_isName_51 (by decide) ?_
  have hP9 := hP.sub (ws' := [(h0, .inr (15, fs0)), (v0_22, .inl (c_v0_22, 2100, .inl f_v0_22)), (v0_21, .inl (c_v0_21, 2100, .inl f_v0_21))]) [0, 1, 2] rfl
  have hD9 := hD.sub (ws' := [(h0, .inr (15, fs0)), (v0_22, .inl (c_v0_22, 2100, .inl f_v0_22)), (v0_21, .inl (c_v0_21, 2100, .inl f_v0_21))]) [0, 1, 2] (by decide) rfl
  have hK9 := hK.sub (tys' := [(c_v0_22, .int), (c_v0_21, .int)]) [0, 1] rfl
  exact W.zret (v := 0) hx hb hr (by first | rfl | decide) (fun t ht hW => ⟨⟨0, (), rfl, rfl, (zB_mk (by rw [ht]; exact hP9) (va_K.moved hW.alike hK9) hD9)⟩, hS.F ht⟩) hS.2.2 dX13_isName_52
set_option maxHeartbeats 4000000 in
set_option maxRecDepth 100000 in
/-- X13_isName, a road -/
theorem c_X13_isName_r1 (l : Launch) (dC : Nat → ClassId) (dI : Nat → Nat → Nat) (sz : Nat) (h0 : Nat) (fs0 : List Value) (p0 : Int32) (v0_22 : Nat) (c_v0_22 : ClassId) (f_v0_22 : Nat → Int32) (v0_21 : Nat) (c_v0_21 : ClassId) (f_v0_21 : Nat → Int32) (v0_25 : Nat) (c_v0_25 : ClassId) (f_v0_25 : Nat → Int32) (hl0 : fs0.length = 196) (hf0_22 : fs0[22]? = some (.ref v0_22)) (hf0_21 : fs0[21]? = some (.ref v0_21)) (hf0_25 : fs0[25]? = some (.ref v0_25)) (hi_0 : vp_in p0 2100) (hi_1 : vp_in p0 2100) (hi_2 : vp_in p0 2100) (hi_3 : vp_in (f_v0_21 (p0).toNatClampNeg) 2100) (hc_0 : ((f_v0_22 (p0).toNatClampNeg) - (f_v0_21 (p0).toNatClampNeg)) = 1) (hc_1 : ¬ (f_v0_25 ((f_v0_21 (p0).toNatClampNeg)).toNatClampNeg) = 1) : Met l yX13_isName wsX13_isName ({ frames := 0, cells := 0, slots := 0, locals := 0 }) (zPc dC dI sz [.ref h0, .int p0] [(h0, .inr (15, fs0)), (v0_22, .inl (c_v0_22, 2100, .inl f_v0_22)), (v0_21, .inl (c_v0_21, 2100, .inl f_v0_21)), (v0_25, .inl (c_v0_25, 2100, .inl f_v0_25))] [(c_v0_22, .int), (c_v0_21, .int), (c_v0_25, .int)]) (va_Qi (fun (r : Int32) (_ : Unit) => r = 0) (zB dC dI (fun _ => [(c_v0_22, .int), (c_v0_21, .int), (c_v0_25, .int)]) (fun _ : Unit => [(h0, .inr (15, fs0)), (v0_22, .inl (c_v0_22, 2100, .inl f_v0_22)), (v0_21, .inl (c_v0_21, 2100, .inl f_v0_21)), (v0_25, .inl (c_v0_25, 2100, .inl f_v0_25))]) (va_A [(h0, .inr (15, fs0)), (v0_22, .inl (c_v0_22, 2100, .inl f_v0_22)), (v0_21, .inl (c_v0_21, 2100, .inl f_v0_21)), (v0_25, .inl (c_v0_25, 2100, .inl f_v0_25))] sz)) (va_A [(h0, .inr (15, fs0)), (v0_22, .inl (c_v0_22, 2100, .inl f_v0_22)), (v0_21, .inl (c_v0_21, 2100, .inl f_v0_21)), (v0_25, .inl (c_v0_25, 2100, .inl f_v0_25))] sz)) 0 0 (va_A [(h0, .inr (15, fs0)), (v0_22, .inl (c_v0_22, 2100, .inl f_v0_22)), (v0_21, .inl (c_v0_21, 2100, .inl f_v0_21)), (v0_25, .inl (c_v0_25, 2100, .inl f_v0_25))] sz) := by
  refine Met.ofW (cc := cX13_isName) (maxL := 2) (ret := (some .boolean)) (by decide) rfl ?_
  intro p e s m args below meth c s₁ B hml hv
  obtain ⟨rfl, hsz, hP, hK, hD0⟩ := hv
  have hx := B.exec
  have hb := B.bytes
  have hr := B.returns
  have hts := atoms_spec (ws := wsX13_isName) B.pre
  have hown : s.vm.findClass RX13 = some m.cls := findClass_of_methodNamed B.named
  have hlocks := B.notSynchronized
  subst hsz
  have hD := hD0.self (sz := s.heap.size)
  generalize hAe : va_A [(h0, .inr (15, fs0)), (v0_22, .inl (c_v0_22, 2100, .inl f_v0_22)), (v0_21, .inl (c_v0_21, 2100, .inl f_v0_21)), (v0_25, .inl (c_v0_25, 2100, .inl f_v0_25))] s.heap.size = A at hD ⊢
  have hA : ∀ q : Nat, s.heap.size ≤ q → A q := fun q h => by rw [← hAe]; exact Or.inr h
  have hS : va_S A s.heap s.heap [] := va_S.rf
  have hP : va_P (dC, dI) vwCl [(h0, .inr (15, fs0)), (v0_22, .inl (c_v0_22, 2100, .inl f_v0_22)), (v0_21, .inl (c_v0_21, 2100, .inl f_v0_21)), (v0_25, .inl (c_v0_25, 2100, .inl f_v0_25))] s.heap := hP
  have hl := lv_entry ([.ref h0, .int p0]) (n := 2) (Nat.le_of_ble_eq_true rfl)
  rw [lg_entry_eq]
  generalize (lg_sl ([.ref h0, .int p0]) ++ List.replicate (2 - (lg_sl ([.ref h0, .int p0])).length) Slot.unset).toArray = ls at hl ⊢
  have hl : lv_has ls 2 [(0, .ref h0), (1, .int p0)] := hl
  refine lv_aload_n hx hb dX13_isName_0 rfl (lv_at hl 0 rfl) ?_
  refine va_get (D := (dC, dI)) (ci := 15) (v := .ref v0_22) (C := RX13) (T := TX13) (N := 196) hx hb hts iw_X13_isName_X13 hown hK hP 0 rfl rfl 22 (by decide) (hts (.fieldLink RX13 53 "LiquidTongueModel" "sTo" "[I") (by decide +kernel)) (fun _ h9 => h9) hf0_22 dX13_isName_1 ?_
  refine lv_iload_n hx hb dX13_isName_4 rfl (lv_at hl 1 rfl) ?_
  refine va_iald hx hb hK hP 1 0 rfl rfl hi_0 dX13_isName_5 ?_
  refine lv_aload_n hx hb dX13_isName_6 rfl (lv_at hl 0 rfl) ?_
  refine va_get (D := (dC, dI)) (ci := 15) (v := .ref v0_21) (C := RX13) (T := TX13) (N := 196) hx hb hts iw_X13_isName_X13 hown hK hP 0 rfl rfl 21 (by decide) (hts (.fieldLink RX13 50 "LiquidTongueModel" "sFrom" "[I") (by decide +kernel)) (fun _ h9 => h9) hf0_21 dX13_isName_7 ?_
  refine lv_iload_n hx hb dX13_isName_10 rfl (lv_at hl 1 rfl) ?_
  refine va_iald hx hb hK hP 2 1 rfl rfl hi_1 dX13_isName_11 ?_
  refine lv_isub hx hb dX13_isName_12 ?_
  refine lv_iconst (v := 1) hx hb dX13_isName_13 (by decide) ?_
  refine lv_icmp_ne (tgt := 51) hx hb dX13_isName_14 (by decide) (fun c_1 => absurd hc_0 c_1) (fun c_1 => ?_)
  refine lv_aload_n hx hb dX13_isName_17 rfl (lv_at hl 0 rfl) ?_
  refine va_get (D := (dC, dI)) (ci := 15) (v := .ref v0_25) (C := RX13) (T := TX13) (N := 196) hx hb hts iw_X13_isName_X13 hown hK hP 0 rfl rfl 25 (by decide) (hts (.fieldLink RX13 59 "LiquidTongueModel" "pKind" "[I") (by decide +kernel)) (fun _ h9 => h9) hf0_25 dX13_isName_18 ?_
  refine lv_aload_n hx hb dX13_isName_21 rfl (lv_at hl 0 rfl) ?_
  refine va_get (D := (dC, dI)) (ci := 15) (v := .ref v0_21) (C := RX13) (T := TX13) (N := 196) hx hb hts iw_X13_isName_X13 hown hK hP 0 rfl rfl 21 (by decide) (hts (.fieldLink RX13 50 "LiquidTongueModel" "sFrom" "[I") (by decide +kernel)) (fun _ h9 => h9) hf0_21 dX13_isName_22 ?_
  refine lv_iload_n hx hb dX13_isName_25 rfl (lv_at hl 1 rfl) ?_
  refine va_iald hx hb hK hP 2 1 rfl rfl hi_2 dX13_isName_26 ?_
  refine va_iald hx hb hK hP 3 2 rfl rfl hi_3 dX13_isName_27 ?_
  refine lv_iconst (v := 1) hx hb dX13_isName_28 (by decide) ?_
  refine lv_icmp_ne (tgt := 51) hx hb dX13_isName_29 (by decide) (fun c_2 => ?_) (fun c_2 => absurd c_2 hc_1)
  refine lv_iconst (v := 0) hx hb dX13_isName_51 (by decide) ?_
  have hP9 := hP.sub (ws' := [(h0, .inr (15, fs0)), (v0_22, .inl (c_v0_22, 2100, .inl f_v0_22)), (v0_21, .inl (c_v0_21, 2100, .inl f_v0_21)), (v0_25, .inl (c_v0_25, 2100, .inl f_v0_25))]) [0, 1, 2, 3] rfl
  have hD9 := hD.sub (ws' := [(h0, .inr (15, fs0)), (v0_22, .inl (c_v0_22, 2100, .inl f_v0_22)), (v0_21, .inl (c_v0_21, 2100, .inl f_v0_21)), (v0_25, .inl (c_v0_25, 2100, .inl f_v0_25))]) [0, 1, 2, 3] (by decide) rfl
  have hK9 := hK.sub (tys' := [(c_v0_22, .int), (c_v0_21, .int), (c_v0_25, .int)]) [0, 1, 2] rfl
  exact W.zret (v := 0) hx hb hr (by first | rfl | decide) (fun t ht hW => ⟨⟨0, (), rfl, rfl, (zB_mk (by rw [ht]; exact hP9) (va_K.moved hW.alike hK9) hD9)⟩, hS.F ht⟩) hS.2.2 dX13_isName_52
set_option maxHeartbeats 4000000 in
set_option maxRecDepth 100000 in
/-- X13_isName, a road -/
theorem c_X13_isName_r2 (l : Launch) (dC : Nat → ClassId) (dI : Nat → Nat → Nat) (sz : Nat) (h0 : Nat) (fs0 : List Value) (p0 : Int32) (v0_22 : Nat) (c_v0_22 : ClassId) (f_v0_22 : Nat → Int32) (v0_21 : Nat) (c_v0_21 : ClassId) (f_v0_21 : Nat → Int32) (v0_25 : Nat) (c_v0_25 : ClassId) (f_v0_25 : Nat → Int32) (v0_26 : Nat) (c_v0_26 : ClassId) (f_v0_26 : Nat → Int32) (hl0 : fs0.length = 196) (hf0_22 : fs0[22]? = some (.ref v0_22)) (hf0_21 : fs0[21]? = some (.ref v0_21)) (hf0_25 : fs0[25]? = some (.ref v0_25)) (hf0_26 : fs0[26]? = some (.ref v0_26)) (hi_0 : vp_in p0 2100) (hi_1 : vp_in p0 2100) (hi_2 : vp_in p0 2100) (hi_3 : vp_in (f_v0_21 (p0).toNatClampNeg) 2100) (hi_4 : vp_in p0 2100) (hi_5 : vp_in (f_v0_21 (p0).toNatClampNeg) 2100) (hc_0 : ((f_v0_22 (p0).toNatClampNeg) - (f_v0_21 (p0).toNatClampNeg)) = 1) (hc_1 : (f_v0_25 ((f_v0_21 (p0).toNatClampNeg)).toNatClampNeg) = 1) (hc_2 : ¬ (f_v0_26 ((f_v0_21 (p0).toNatClampNeg)).toNatClampNeg) = 1) : Met l yX13_isName wsX13_isName ({ frames := 0, cells := 0, slots := 0, locals := 0 }) (zPc dC dI sz [.ref h0, .int p0] [(h0, .inr (15, fs0)), (v0_22, .inl (c_v0_22, 2100, .inl f_v0_22)), (v0_21, .inl (c_v0_21, 2100, .inl f_v0_21)), (v0_25, .inl (c_v0_25, 2100, .inl f_v0_25)), (v0_26, .inl (c_v0_26, 2100, .inl f_v0_26))] [(c_v0_22, .int), (c_v0_21, .int), (c_v0_25, .int), (c_v0_26, .int)]) (va_Qi (fun (r : Int32) (_ : Unit) => r = 0) (zB dC dI (fun _ => [(c_v0_22, .int), (c_v0_21, .int), (c_v0_25, .int), (c_v0_26, .int)]) (fun _ : Unit => [(h0, .inr (15, fs0)), (v0_22, .inl (c_v0_22, 2100, .inl f_v0_22)), (v0_21, .inl (c_v0_21, 2100, .inl f_v0_21)), (v0_25, .inl (c_v0_25, 2100, .inl f_v0_25)), (v0_26, .inl (c_v0_26, 2100, .inl f_v0_26))]) (va_A [(h0, .inr (15, fs0)), (v0_22, .inl (c_v0_22, 2100, .inl f_v0_22)), (v0_21, .inl (c_v0_21, 2100, .inl f_v0_21)), (v0_25, .inl (c_v0_25, 2100, .inl f_v0_25)), (v0_26, .inl (c_v0_26, 2100, .inl f_v0_26))] sz)) (va_A [(h0, .inr (15, fs0)), (v0_22, .inl (c_v0_22, 2100, .inl f_v0_22)), (v0_21, .inl (c_v0_21, 2100, .inl f_v0_21)), (v0_25, .inl (c_v0_25, 2100, .inl f_v0_25)), (v0_26, .inl (c_v0_26, 2100, .inl f_v0_26))] sz)) 0 0 (va_A [(h0, .inr (15, fs0)), (v0_22, .inl (c_v0_22, 2100, .inl f_v0_22)), (v0_21, .inl (c_v0_21, 2100, .inl f_v0_21)), (v0_25, .inl (c_v0_25, 2100, .inl f_v0_25)), (v0_26, .inl (c_v0_26, 2100, .inl f_v0_26))] sz) := by
  refine Met.ofW (cc := cX13_isName) (maxL := 2) (ret := (some .boolean)) (by decide) rfl ?_
  intro p e s m args below meth c s₁ B hml hv
  obtain ⟨rfl, hsz, hP, hK, hD0⟩ := hv
  have hx := B.exec
  have hb := B.bytes
  have hr := B.returns
  have hts := atoms_spec (ws := wsX13_isName) B.pre
  have hown : s.vm.findClass RX13 = some m.cls := findClass_of_methodNamed B.named
  have hlocks := B.notSynchronized
  subst hsz
  have hD := hD0.self (sz := s.heap.size)
  generalize hAe : va_A [(h0, .inr (15, fs0)), (v0_22, .inl (c_v0_22, 2100, .inl f_v0_22)), (v0_21, .inl (c_v0_21, 2100, .inl f_v0_21)), (v0_25, .inl (c_v0_25, 2100, .inl f_v0_25)), (v0_26, .inl (c_v0_26, 2100, .inl f_v0_26))] s.heap.size = A at hD ⊢
  have hA : ∀ q : Nat, s.heap.size ≤ q → A q := fun q h => by rw [← hAe]; exact Or.inr h
  have hS : va_S A s.heap s.heap [] := va_S.rf
  have hP : va_P (dC, dI) vwCl [(h0, .inr (15, fs0)), (v0_22, .inl (c_v0_22, 2100, .inl f_v0_22)), (v0_21, .inl (c_v0_21, 2100, .inl f_v0_21)), (v0_25, .inl (c_v0_25, 2100, .inl f_v0_25)), (v0_26, .inl (c_v0_26, 2100, .inl f_v0_26))] s.heap := hP
  have hl := lv_entry ([.ref h0, .int p0]) (n := 2) (Nat.le_of_ble_eq_true rfl)
  rw [lg_entry_eq]
  generalize (lg_sl ([.ref h0, .int p0]) ++ List.replicate (2 - (lg_sl ([.ref h0, .int p0])).length) Slot.unset).toArray = ls at hl ⊢
  have hl : lv_has ls 2 [(0, .ref h0), (1, .int p0)] := hl
  refine lv_aload_n hx hb dX13_isName_0 rfl (lv_at hl 0 rfl) ?_
  refine va_get (D := (dC, dI)) (ci := 15) (v := .ref v0_22) (C := RX13) (T := TX13) (N := 196) hx hb hts iw_X13_isName_X13 hown hK hP 0 rfl rfl 22 (by decide) (hts (.fieldLink RX13 53 "LiquidTongueModel" "sTo" "[I") (by decide +kernel)) (fun _ h9 => h9) hf0_22 dX13_isName_1 ?_
  refine lv_iload_n hx hb dX13_isName_4 rfl (lv_at hl 1 rfl) ?_
  refine va_iald hx hb hK hP 1 0 rfl rfl hi_0 dX13_isName_5 ?_
  refine lv_aload_n hx hb dX13_isName_6 rfl (lv_at hl 0 rfl) ?_
  refine va_get (D := (dC, dI)) (ci := 15) (v := .ref v0_21) (C := RX13) (T := TX13) (N := 196) hx hb hts iw_X13_isName_X13 hown hK hP 0 rfl rfl 21 (by decide) (hts (.fieldLink RX13 50 "LiquidTongueModel" "sFrom" "[I") (by decide +kernel)) (fun _ h9 => h9) hf0_21 dX13_isName_7 ?_
  refine lv_iload_n hx hb dX13_isName_10 rfl (lv_at hl 1 rfl) ?_
  refine va_iald hx hb hK hP 2 1 rfl rfl hi_1 dX13_isName_11 ?_
  refine lv_isub hx hb dX13_isName_12 ?_
  refine lv_iconst (v := 1) hx hb dX13_isName_13 (by decide) ?_
  refine lv_icmp_ne (tgt := 51) hx hb dX13_isName_14 (by decide) (fun c_1 => absurd hc_0 c_1) (fun c_1 => ?_)
  refine lv_aload_n hx hb dX13_isName_17 rfl (lv_at hl 0 rfl) ?_
  refine va_get (D := (dC, dI)) (ci := 15) (v := .ref v0_25) (C := RX13) (T := TX13) (N := 196) hx hb hts iw_X13_isName_X13 hown hK hP 0 rfl rfl 25 (by decide) (hts (.fieldLink RX13 59 "LiquidTongueModel" "pKind" "[I") (by decide +kernel)) (fun _ h9 => h9) hf0_25 dX13_isName_18 ?_
  refine lv_aload_n hx hb dX13_isName_21 rfl (lv_at hl 0 rfl) ?_
  refine va_get (D := (dC, dI)) (ci := 15) (v := .ref v0_21) (C := RX13) (T := TX13) (N := 196) hx hb hts iw_X13_isName_X13 hown hK hP 0 rfl rfl 21 (by decide) (hts (.fieldLink RX13 50 "LiquidTongueModel" "sFrom" "[I") (by decide +kernel)) (fun _ h9 => h9) hf0_21 dX13_isName_22 ?_
  refine lv_iload_n hx hb dX13_isName_25 rfl (lv_at hl 1 rfl) ?_
  refine va_iald hx hb hK hP 2 1 rfl rfl hi_2 dX13_isName_26 ?_
  refine va_iald hx hb hK hP 3 2 rfl rfl hi_3 dX13_isName_27 ?_
  refine lv_iconst (v := 1) hx hb dX13_isName_28 (by decide) ?_
  refine lv_icmp_ne (tgt := 51) hx hb dX13_isName_29 (by decide) (fun c_2 => absurd hc_1 c_2) (fun c_2 => ?_)
  refine lv_aload_n hx hb dX13_isName_32 rfl (lv_at hl 0 rfl) ?_
  refine va_get (D := (dC, dI)) (ci := 15) (v := .ref v0_26) (C := RX13) (T := TX13) (N := 196) hx hb hts iw_X13_isName_X13 hown hK hP 0 rfl rfl 26 (by decide) (hts (.fieldLink RX13 62 "LiquidTongueModel" "pSign" "[I") (by decide +kernel)) (fun _ h9 => h9) hf0_26 dX13_isName_33 ?_
  refine lv_aload_n hx hb dX13_isName_36 rfl (lv_at hl 0 rfl) ?_
  refine va_get (D := (dC, dI)) (ci := 15) (v := .ref v0_21) (C := RX13) (T := TX13) (N := 196) hx hb hts iw_X13_isName_X13 hown hK hP 0 rfl rfl 21 (by decide) (hts (.fieldLink RX13 50 "LiquidTongueModel" "sFrom" "[I") (by decide +kernel)) (fun _ h9 => h9) hf0_21 dX13_isName_37 ?_
  refine lv_iload_n hx hb dX13_isName_40 rfl (lv_at hl 1 rfl) ?_
  refine va_iald hx hb hK hP 2 1 rfl rfl hi_4 dX13_isName_41 ?_
  refine va_iald hx hb hK hP 4 3 rfl rfl hi_5 dX13_isName_42 ?_
  refine lv_iconst (v := 1) hx hb dX13_isName_43 (by decide) ?_
  refine lv_icmp_ne (tgt := 51) hx hb dX13_isName_44 (by decide) (fun c_3 => ?_) (fun c_3 => absurd c_3 hc_2)
  refine lv_iconst (v := 0) hx hb dX13_isName_51 (by decide) ?_
  have hP9 := hP.sub (ws' := [(h0, .inr (15, fs0)), (v0_22, .inl (c_v0_22, 2100, .inl f_v0_22)), (v0_21, .inl (c_v0_21, 2100, .inl f_v0_21)), (v0_25, .inl (c_v0_25, 2100, .inl f_v0_25)), (v0_26, .inl (c_v0_26, 2100, .inl f_v0_26))]) [0, 1, 2, 3, 4] rfl
  have hD9 := hD.sub (ws' := [(h0, .inr (15, fs0)), (v0_22, .inl (c_v0_22, 2100, .inl f_v0_22)), (v0_21, .inl (c_v0_21, 2100, .inl f_v0_21)), (v0_25, .inl (c_v0_25, 2100, .inl f_v0_25)), (v0_26, .inl (c_v0_26, 2100, .inl f_v0_26))]) [0, 1, 2, 3, 4] (by decide) rfl
  have hK9 := hK.sub (tys' := [(c_v0_22, .int), (c_v0_21, .int), (c_v0_25, .int), (c_v0_26, .int)]) [0, 1, 2, 3] rfl
  exact W.zret (v := 0) hx hb hr (by first | rfl | decide) (fun t ht hW => ⟨⟨0, (), rfl, rfl, (zB_mk (by rw [ht]; exact hP9) (va_K.moved hW.alike hK9) hD9)⟩, hS.F ht⟩) hS.2.2 dX13_isName_52
set_option maxHeartbeats 4000000 in
set_option maxRecDepth 100000 in
/-- X13_isName, a road -/
theorem c_X13_isName_r3 (l : Launch) (dC : Nat → ClassId) (dI : Nat → Nat → Nat) (sz : Nat) (h0 : Nat) (fs0 : List Value) (p0 : Int32) (v0_22 : Nat) (c_v0_22 : ClassId) (f_v0_22 : Nat → Int32) (v0_21 : Nat) (c_v0_21 : ClassId) (f_v0_21 : Nat → Int32) (v0_25 : Nat) (c_v0_25 : ClassId) (f_v0_25 : Nat → Int32) (v0_26 : Nat) (c_v0_26 : ClassId) (f_v0_26 : Nat → Int32) (hl0 : fs0.length = 196) (hf0_22 : fs0[22]? = some (.ref v0_22)) (hf0_21 : fs0[21]? = some (.ref v0_21)) (hf0_25 : fs0[25]? = some (.ref v0_25)) (hf0_26 : fs0[26]? = some (.ref v0_26)) (hi_0 : vp_in p0 2100) (hi_1 : vp_in p0 2100) (hi_2 : vp_in p0 2100) (hi_3 : vp_in (f_v0_21 (p0).toNatClampNeg) 2100) (hi_4 : vp_in p0 2100) (hi_5 : vp_in (f_v0_21 (p0).toNatClampNeg) 2100) (hc_0 : ((f_v0_22 (p0).toNatClampNeg) - (f_v0_21 (p0).toNatClampNeg)) = 1) (hc_1 : (f_v0_25 ((f_v0_21 (p0).toNatClampNeg)).toNatClampNeg) = 1) (hc_2 : (f_v0_26 ((f_v0_21 (p0).toNatClampNeg)).toNatClampNeg) = 1) : Met l yX13_isName wsX13_isName ({ frames := 0, cells := 0, slots := 0, locals := 0 }) (zPc dC dI sz [.ref h0, .int p0] [(h0, .inr (15, fs0)), (v0_22, .inl (c_v0_22, 2100, .inl f_v0_22)), (v0_21, .inl (c_v0_21, 2100, .inl f_v0_21)), (v0_25, .inl (c_v0_25, 2100, .inl f_v0_25)), (v0_26, .inl (c_v0_26, 2100, .inl f_v0_26))] [(c_v0_22, .int), (c_v0_21, .int), (c_v0_25, .int), (c_v0_26, .int)]) (va_Qi (fun (r : Int32) (_ : Unit) => r = 1) (zB dC dI (fun _ => [(c_v0_22, .int), (c_v0_21, .int), (c_v0_25, .int), (c_v0_26, .int)]) (fun _ : Unit => [(h0, .inr (15, fs0)), (v0_22, .inl (c_v0_22, 2100, .inl f_v0_22)), (v0_21, .inl (c_v0_21, 2100, .inl f_v0_21)), (v0_25, .inl (c_v0_25, 2100, .inl f_v0_25)), (v0_26, .inl (c_v0_26, 2100, .inl f_v0_26))]) (va_A [(h0, .inr (15, fs0)), (v0_22, .inl (c_v0_22, 2100, .inl f_v0_22)), (v0_21, .inl (c_v0_21, 2100, .inl f_v0_21)), (v0_25, .inl (c_v0_25, 2100, .inl f_v0_25)), (v0_26, .inl (c_v0_26, 2100, .inl f_v0_26))] sz)) (va_A [(h0, .inr (15, fs0)), (v0_22, .inl (c_v0_22, 2100, .inl f_v0_22)), (v0_21, .inl (c_v0_21, 2100, .inl f_v0_21)), (v0_25, .inl (c_v0_25, 2100, .inl f_v0_25)), (v0_26, .inl (c_v0_26, 2100, .inl f_v0_26))] sz)) 0 0 (va_A [(h0, .inr (15, fs0)), (v0_22, .inl (c_v0_22, 2100, .inl f_v0_22)), (v0_21, .inl (c_v0_21, 2100, .inl f_v0_21)), (v0_25, .inl (c_v0_25, 2100, .inl f_v0_25)), (v0_26, .inl (c_v0_26, 2100, .inl f_v0_26))] sz) := by
  refine Met.ofW (cc := cX13_isName) (maxL := 2) (ret := (some .boolean)) (by decide) rfl ?_
  intro p e s m args below meth c s₁ B hml hv
  obtain ⟨rfl, hsz, hP, hK, hD0⟩ := hv
  have hx := B.exec
  have hb := B.bytes
  have hr := B.returns
  have hts := atoms_spec (ws := wsX13_isName) B.pre
  have hown : s.vm.findClass RX13 = some m.cls := findClass_of_methodNamed B.named
  have hlocks := B.notSynchronized
  subst hsz
  have hD := hD0.self (sz := s.heap.size)
  generalize hAe : va_A [(h0, .inr (15, fs0)), (v0_22, .inl (c_v0_22, 2100, .inl f_v0_22)), (v0_21, .inl (c_v0_21, 2100, .inl f_v0_21)), (v0_25, .inl (c_v0_25, 2100, .inl f_v0_25)), (v0_26, .inl (c_v0_26, 2100, .inl f_v0_26))] s.heap.size = A at hD ⊢
  have hA : ∀ q : Nat, s.heap.size ≤ q → A q := fun q h => by rw [← hAe]; exact Or.inr h
  have hS : va_S A s.heap s.heap [] := va_S.rf
  have hP : va_P (dC, dI) vwCl [(h0, .inr (15, fs0)), (v0_22, .inl (c_v0_22, 2100, .inl f_v0_22)), (v0_21, .inl (c_v0_21, 2100, .inl f_v0_21)), (v0_25, .inl (c_v0_25, 2100, .inl f_v0_25)), (v0_26, .inl (c_v0_26, 2100, .inl f_v0_26))] s.heap := hP
  have hl := lv_entry ([.ref h0, .int p0]) (n := 2) (Nat.le_of_ble_eq_true rfl)
  rw [lg_entry_eq]
  generalize (lg_sl ([.ref h0, .int p0]) ++ List.replicate (2 - (lg_sl ([.ref h0, .int p0])).length) Slot.unset).toArray = ls at hl ⊢
  have hl : lv_has ls 2 [(0, .ref h0), (1, .int p0)] := hl
  refine lv_aload_n hx hb dX13_isName_0 rfl (lv_at hl 0 rfl) ?_
  refine va_get (D := (dC, dI)) (ci := 15) (v := .ref v0_22) (C := RX13) (T := TX13) (N := 196) hx hb hts iw_X13_isName_X13 hown hK hP 0 rfl rfl 22 (by decide) (hts (.fieldLink RX13 53 "LiquidTongueModel" "sTo" "[I") (by decide +kernel)) (fun _ h9 => h9) hf0_22 dX13_isName_1 ?_
  refine lv_iload_n hx hb dX13_isName_4 rfl (lv_at hl 1 rfl) ?_
  refine va_iald hx hb hK hP 1 0 rfl rfl hi_0 dX13_isName_5 ?_
  refine lv_aload_n hx hb dX13_isName_6 rfl (lv_at hl 0 rfl) ?_
  refine va_get (D := (dC, dI)) (ci := 15) (v := .ref v0_21) (C := RX13) (T := TX13) (N := 196) hx hb hts iw_X13_isName_X13 hown hK hP 0 rfl rfl 21 (by decide) (hts (.fieldLink RX13 50 "LiquidTongueModel" "sFrom" "[I") (by decide +kernel)) (fun _ h9 => h9) hf0_21 dX13_isName_7 ?_
  refine lv_iload_n hx hb dX13_isName_10 rfl (lv_at hl 1 rfl) ?_
  refine va_iald hx hb hK hP 2 1 rfl rfl hi_1 dX13_isName_11 ?_
  refine lv_isub hx hb dX13_isName_12 ?_
  refine lv_iconst (v := 1) hx hb dX13_isName_13 (by decide) ?_
  refine lv_icmp_ne (tgt := 51) hx hb dX13_isName_14 (by decide) (fun c_1 => absurd hc_0 c_1) (fun c_1 => ?_)
  refine lv_aload_n hx hb dX13_isName_17 rfl (lv_at hl 0 rfl) ?_
  refine va_get (D := (dC, dI)) (ci := 15) (v := .ref v0_25) (C := RX13) (T := TX13) (N := 196) hx hb hts iw_X13_isName_X13 hown hK hP 0 rfl rfl 25 (by decide) (hts (.fieldLink RX13 59 "LiquidTongueModel" "pKind" "[I") (by decide +kernel)) (fun _ h9 => h9) hf0_25 dX13_isName_18 ?_
  refine lv_aload_n hx hb dX13_isName_21 rfl (lv_at hl 0 rfl) ?_
  refine va_get (D := (dC, dI)) (ci := 15) (v := .ref v0_21) (C := RX13) (T := TX13) (N := 196) hx hb hts iw_X13_isName_X13 hown hK hP 0 rfl rfl 21 (by decide) (hts (.fieldLink RX13 50 "LiquidTongueModel" "sFrom" "[I") (by decide +kernel)) (fun _ h9 => h9) hf0_21 dX13_isName_22 ?_
  refine lv_iload_n hx hb dX13_isName_25 rfl (lv_at hl 1 rfl) ?_
  refine va_iald hx hb hK hP 2 1 rfl rfl hi_2 dX13_isName_26 ?_
  refine va_iald hx hb hK hP 3 2 rfl rfl hi_3 dX13_isName_27 ?_
  refine lv_iconst (v := 1) hx hb dX13_isName_28 (by decide) ?_
  refine lv_icmp_ne (tgt := 51) hx hb dX13_isName_29 (by decide) (fun c_2 => absurd hc_1 c_2) (fun c_2 => ?_)
  refine lv_aload_n hx hb dX13_isName_32 rfl (lv_at hl 0 rfl) ?_
  refine va_get (D := (dC, dI)) (ci := 15) (v := .ref v0_26) (C := RX13) (T := TX13) (N := 196) hx hb hts iw_X13_isName_X13 hown hK hP 0 rfl rfl 26 (by decide) (hts (.fieldLink RX13 62 "LiquidTongueModel" "pSign" "[I") (by decide +kernel)) (fun _ h9 => h9) hf0_26 dX13_isName_33 ?_
  refine lv_aload_n hx hb dX13_isName_36 rfl (lv_at hl 0 rfl) ?_
  refine va_get (D := (dC, dI)) (ci := 15) (v := .ref v0_21) (C := RX13) (T := TX13) (N := 196) hx hb hts iw_X13_isName_X13 hown hK hP 0 rfl rfl 21 (by decide) (hts (.fieldLink RX13 50 "LiquidTongueModel" "sFrom" "[I") (by decide +kernel)) (fun _ h9 => h9) hf0_21 dX13_isName_37 ?_
  refine lv_iload_n hx hb dX13_isName_40 rfl (lv_at hl 1 rfl) ?_
  refine va_iald hx hb hK hP 2 1 rfl rfl hi_4 dX13_isName_41 ?_
  refine va_iald hx hb hK hP 4 3 rfl rfl hi_5 dX13_isName_42 ?_
  refine lv_iconst (v := 1) hx hb dX13_isName_43 (by decide) ?_
  refine lv_icmp_ne (tgt := 51) hx hb dX13_isName_44 (by decide) (fun c_3 => absurd hc_2 c_3) (fun c_3 => ?_)
  refine lv_iconst (v := 1) hx hb dX13_isName_47 (by decide) ?_
  refine lv_goto (tgt := 52) hx hb dX13_isName_48 (by decide) ?_
  have hP9 := hP.sub (ws' := [(h0, .inr (15, fs0)), (v0_22, .inl (c_v0_22, 2100, .inl f_v0_22)), (v0_21, .inl (c_v0_21, 2100, .inl f_v0_21)), (v0_25, .inl (c_v0_25, 2100, .inl f_v0_25)), (v0_26, .inl (c_v0_26, 2100, .inl f_v0_26))]) [0, 1, 2, 3, 4] rfl
  have hD9 := hD.sub (ws' := [(h0, .inr (15, fs0)), (v0_22, .inl (c_v0_22, 2100, .inl f_v0_22)), (v0_21, .inl (c_v0_21, 2100, .inl f_v0_21)), (v0_25, .inl (c_v0_25, 2100, .inl f_v0_25)), (v0_26, .inl (c_v0_26, 2100, .inl f_v0_26))]) [0, 1, 2, 3, 4] (by decide) rfl
  have hK9 := hK.sub (tys' := [(c_v0_22, .int), (c_v0_21, .int), (c_v0_25, .int), (c_v0_26, .int)]) [0, 1, 2, 3] rfl
  exact W.zret (v := 1) hx hb hr (by first | rfl | decide) (fun t ht hW => ⟨⟨1, (), rfl, rfl, (zB_mk (by rw [ht]; exact hP9) (va_K.moved hW.alike hK9) hD9)⟩, hS.F ht⟩) hS.2.2 dX13_isName_52
set_option maxHeartbeats 4000000 in
set_option maxRecDepth 100000 in
/-- X13_isSaid, a road -/
theorem c_X13_isSaid_r0 (l : Launch) (dC : Nat → ClassId) (dI : Nat → Nat → Nat) (sz : Nat) (p0 : Int32) (hc_0 : p0 = 1) : Met l yX13_isSaid wsX13_isSaid ({ frames := 0, cells := 0, slots := 0, locals := 0 }) (zPc dC dI sz [.int p0] [] []) (va_Qi (fun (r : Int32) (_ : Unit) => r = 1) (zB dC dI (fun _ => []) (fun _ : Unit => []) (va_A [] sz)) (va_A [] sz)) 0 0 (va_A [] sz) := by
  refine Met.ofW (cc := cX13_isSaid) (maxL := 1) (ret := (some .boolean)) (by decide) rfl ?_
  intro p e s m args below meth c s₁ B hml hv
  obtain ⟨rfl, hsz, hP, hK, hD0⟩ := hv
  have hx := B.exec
  have hb := B.bytes
  have hr := B.returns
  have hts := atoms_spec (ws := wsX13_isSaid) B.pre
  have hown : s.vm.findClass RX13 = some m.cls := findClass_of_methodNamed B.named
  have hlocks := B.notSynchronized
  subst hsz
  have hD := hD0.self (sz := s.heap.size)
  generalize hAe : va_A [] s.heap.size = A at hD ⊢
  have hA : ∀ q : Nat, s.heap.size ≤ q → A q := fun q h => by rw [← hAe]; exact Or.inr h
  have hS : va_S A s.heap s.heap [] := va_S.rf
  have hP : va_P (dC, dI) vwCl [] s.heap := hP
  have hl := lv_entry ([.int p0]) (n := 1) (Nat.le_of_ble_eq_true rfl)
  rw [lg_entry_eq]
  generalize (lg_sl ([.int p0]) ++ List.replicate (1 - (lg_sl ([.int p0])).length) Slot.unset).toArray = ls at hl ⊢
  have hl : lv_has ls 1 [(0, .int p0)] := hl
  refine lv_iload_n hx hb dX13_isSaid_0 rfl (lv_at hl 0 rfl) ?_
  refine lv_iconst (v := 1) hx hb dX13_isSaid_1 (by decide) ?_
  refine lv_icmp_eq (tgt := 15) hx hb dX13_isSaid_2 (by decide) (fun c_1 => ?_) (fun c_1 => absurd hc_0 c_1)
  refine lv_iconst (v := 1) hx hb dX13_isSaid_15 (by decide) ?_
  refine lv_goto (tgt := 20) hx hb dX13_isSaid_16 (by decide) ?_
  have hP9 := hP.sub (ws' := []) [] rfl
  have hD9 := hD.sub (ws' := []) [] (by decide) rfl
  have hK9 := hK.sub (tys' := []) [] rfl
  exact W.zret (v := 1) hx hb hr (by first | rfl | decide) (fun t ht hW => ⟨⟨1, (), rfl, rfl, (zB_mk (by rw [ht]; exact hP9) (va_K.moved hW.alike hK9) hD9)⟩, hS.F ht⟩) hS.2.2 dX13_isSaid_20
set_option maxHeartbeats 4000000 in
set_option maxRecDepth 100000 in
/-- X13_isSaid, a road -/
theorem c_X13_isSaid_r1 (l : Launch) (dC : Nat → ClassId) (dI : Nat → Nat → Nat) (sz : Nat) (p0 : Int32) (hc_0 : ¬ p0 = 1) (hc_1 : p0 = 3) : Met l yX13_isSaid wsX13_isSaid ({ frames := 0, cells := 0, slots := 0, locals := 0 }) (zPc dC dI sz [.int p0] [] []) (va_Qi (fun (r : Int32) (_ : Unit) => r = 1) (zB dC dI (fun _ => []) (fun _ : Unit => []) (va_A [] sz)) (va_A [] sz)) 0 0 (va_A [] sz) := by
  refine Met.ofW (cc := cX13_isSaid) (maxL := 1) (ret := (some .boolean)) (by decide) rfl ?_
  intro p e s m args below meth c s₁ B hml hv
  obtain ⟨rfl, hsz, hP, hK, hD0⟩ := hv
  have hx := B.exec
  have hb := B.bytes
  have hr := B.returns
  have hts := atoms_spec (ws := wsX13_isSaid) B.pre
  have hown : s.vm.findClass RX13 = some m.cls := findClass_of_methodNamed B.named
  have hlocks := B.notSynchronized
  subst hsz
  have hD := hD0.self (sz := s.heap.size)
  generalize hAe : va_A [] s.heap.size = A at hD ⊢
  have hA : ∀ q : Nat, s.heap.size ≤ q → A q := fun q h => by rw [← hAe]; exact Or.inr h
  have hS : va_S A s.heap s.heap [] := va_S.rf
  have hP : va_P (dC, dI) vwCl [] s.heap := hP
  have hl := lv_entry ([.int p0]) (n := 1) (Nat.le_of_ble_eq_true rfl)
  rw [lg_entry_eq]
  generalize (lg_sl ([.int p0]) ++ List.replicate (1 - (lg_sl ([.int p0])).length) Slot.unset).toArray = ls at hl ⊢
  have hl : lv_has ls 1 [(0, .int p0)] := hl
  refine lv_iload_n hx hb dX13_isSaid_0 rfl (lv_at hl 0 rfl) ?_
  refine lv_iconst (v := 1) hx hb dX13_isSaid_1 (by decide) ?_
  refine lv_icmp_eq (tgt := 15) hx hb dX13_isSaid_2 (by decide) (fun c_1 => absurd c_1 hc_0) (fun c_1 => ?_)
  refine lv_iload_n hx hb dX13_isSaid_5 rfl (lv_at hl 0 rfl) ?_
  refine lv_iconst (v := 3) hx hb dX13_isSaid_6 (by decide) ?_
  refine lv_icmp_eq (tgt := 15) hx hb dX13_isSaid_7 (by decide) (fun c_2 => ?_) (fun c_2 => absurd hc_1 c_2)
  refine lv_iconst (v := 1) hx hb dX13_isSaid_15 (by decide) ?_
  refine lv_goto (tgt := 20) hx hb dX13_isSaid_16 (by decide) ?_
  have hP9 := hP.sub (ws' := []) [] rfl
  have hD9 := hD.sub (ws' := []) [] (by decide) rfl
  have hK9 := hK.sub (tys' := []) [] rfl
  exact W.zret (v := 1) hx hb hr (by first | rfl | decide) (fun t ht hW => ⟨⟨1, (), rfl, rfl, (zB_mk (by rw [ht]; exact hP9) (va_K.moved hW.alike hK9) hD9)⟩, hS.F ht⟩) hS.2.2 dX13_isSaid_20
set_option maxHeartbeats 4000000 in
set_option maxRecDepth 100000 in
/-- X13_isSaid, a road -/
theorem c_X13_isSaid_r2 (l : Launch) (dC : Nat → ClassId) (dI : Nat → Nat → Nat) (sz : Nat) (p0 : Int32) (hc_0 : ¬ p0 = 1) (hc_1 : ¬ p0 = 3) (hc_2 : ¬ p0 = 5) : Met l yX13_isSaid wsX13_isSaid ({ frames := 0, cells := 0, slots := 0, locals := 0 }) (zPc dC dI sz [.int p0] [] []) (va_Qi (fun (r : Int32) (_ : Unit) => r = 0) (zB dC dI (fun _ => []) (fun _ : Unit => []) (va_A [] sz)) (va_A [] sz)) 0 0 (va_A [] sz) := by
  refine Met.ofW (cc := cX13_isSaid) (maxL := 1) (ret := (some .boolean)) (by decide) rfl ?_
  intro p e s m args below meth c s₁ B hml hv
  obtain ⟨rfl, hsz, hP, hK, hD0⟩ := hv
  have hx := B.exec
  have hb := B.bytes
  have hr := B.returns
  have hts := atoms_spec (ws := wsX13_isSaid) B.pre
  have hown : s.vm.findClass RX13 = some m.cls := findClass_of_methodNamed B.named
  have hlocks := B.notSynchronized
  subst hsz
  have hD := hD0.self (sz := s.heap.size)
  generalize hAe : va_A [] s.heap.size = A at hD ⊢
  have hA : ∀ q : Nat, s.heap.size ≤ q → A q := fun q h => by rw [← hAe]; exact Or.inr h
  have hS : va_S A s.heap s.heap [] := va_S.rf
  have hP : va_P (dC, dI) vwCl [] s.heap := hP
  have hl := lv_entry ([.int p0]) (n := 1) (Nat.le_of_ble_eq_true rfl)
  rw [lg_entry_eq]
  generalize (lg_sl ([.int p0]) ++ List.replicate (1 - (lg_sl ([.int p0])).length) Slot.unset).toArray = ls at hl ⊢
  have hl : lv_has ls 1 [(0, .int p0)] := hl
  refine lv_iload_n hx hb dX13_isSaid_0 rfl (lv_at hl 0 rfl) ?_
  refine lv_iconst (v := 1) hx hb dX13_isSaid_1 (by decide) ?_
  refine lv_icmp_eq (tgt := 15) hx hb dX13_isSaid_2 (by decide) (fun c_1 => absurd c_1 hc_0) (fun c_1 => ?_)
  refine lv_iload_n hx hb dX13_isSaid_5 rfl (lv_at hl 0 rfl) ?_
  refine lv_iconst (v := 3) hx hb dX13_isSaid_6 (by decide) ?_
  refine lv_icmp_eq (tgt := 15) hx hb dX13_isSaid_7 (by decide) (fun c_2 => absurd c_2 hc_1) (fun c_2 => ?_)
  refine lv_iload_n hx hb dX13_isSaid_10 rfl (lv_at hl 0 rfl) ?_
  refine lv_iconst (v := 5) hx hb dX13_isSaid_11 (by decide) ?_
  refine lv_icmp_ne (tgt := 19) hx hb dX13_isSaid_12 (by decide) (fun c_3 => ?_) (fun c_3 => absurd c_3 hc_2)
  refine lv_iconst (v := 0) hx hb dX13_isSaid_19 (by decide) ?_
  have hP9 := hP.sub (ws' := []) [] rfl
  have hD9 := hD.sub (ws' := []) [] (by decide) rfl
  have hK9 := hK.sub (tys' := []) [] rfl
  exact W.zret (v := 0) hx hb hr (by first | rfl | decide) (fun t ht hW => ⟨⟨0, (), rfl, rfl, (zB_mk (by rw [ht]; exact hP9) (va_K.moved hW.alike hK9) hD9)⟩, hS.F ht⟩) hS.2.2 dX13_isSaid_20
set_option maxHeartbeats 4000000 in
set_option maxRecDepth 100000 in
/-- X13_isSaid, a road -/
theorem c_X13_isSaid_r3 (l : Launch) (dC : Nat → ClassId) (dI : Nat → Nat → Nat) (sz : Nat) (p0 : Int32) (hc_0 : ¬ p0 = 1) (hc_1 : ¬ p0 = 3) (hc_2 : p0 = 5) : Met l yX13_isSaid wsX13_isSaid ({ frames := 0, cells := 0, slots := 0, locals := 0 }) (zPc dC dI sz [.int p0] [] []) (va_Qi (fun (r : Int32) (_ : Unit) => r = 1) (zB dC dI (fun _ => []) (fun _ : Unit => []) (va_A [] sz)) (va_A [] sz)) 0 0 (va_A [] sz) := by
  refine Met.ofW (cc := cX13_isSaid) (maxL := 1) (ret := (some .boolean)) (by decide) rfl ?_
  intro p e s m args below meth c s₁ B hml hv
  obtain ⟨rfl, hsz, hP, hK, hD0⟩ := hv
  have hx := B.exec
  have hb := B.bytes
  have hr := B.returns
  have hts := atoms_spec (ws := wsX13_isSaid) B.pre
  have hown : s.vm.findClass RX13 = some m.cls := findClass_of_methodNamed B.named
  have hlocks := B.notSynchronized
  subst hsz
  have hD := hD0.self (sz := s.heap.size)
  generalize hAe : va_A [] s.heap.size = A at hD ⊢
  have hA : ∀ q : Nat, s.heap.size ≤ q → A q := fun q h => by rw [← hAe]; exact Or.inr h
  have hS : va_S A s.heap s.heap [] := va_S.rf
  have hP : va_P (dC, dI) vwCl [] s.heap := hP
  have hl := lv_entry ([.int p0]) (n := 1) (Nat.le_of_ble_eq_true rfl)
  rw [lg_entry_eq]
  generalize (lg_sl ([.int p0]) ++ List.replicate (1 - (lg_sl ([.int p0])).length) Slot.unset).toArray = ls at hl ⊢
  have hl : lv_has ls 1 [(0, .int p0)] := hl
  refine lv_iload_n hx hb dX13_isSaid_0 rfl (lv_at hl 0 rfl) ?_
  refine lv_iconst (v := 1) hx hb dX13_isSaid_1 (by decide) ?_
  refine lv_icmp_eq (tgt := 15) hx hb dX13_isSaid_2 (by decide) (fun c_1 => absurd c_1 hc_0) (fun c_1 => ?_)
  refine lv_iload_n hx hb dX13_isSaid_5 rfl (lv_at hl 0 rfl) ?_
  refine lv_iconst (v := 3) hx hb dX13_isSaid_6 (by decide) ?_
  refine lv_icmp_eq (tgt := 15) hx hb dX13_isSaid_7 (by decide) (fun c_2 => absurd c_2 hc_1) (fun c_2 => ?_)
  refine lv_iload_n hx hb dX13_isSaid_10 rfl (lv_at hl 0 rfl) ?_
  refine lv_iconst (v := 5) hx hb dX13_isSaid_11 (by decide) ?_
  refine lv_icmp_ne (tgt := 19) hx hb dX13_isSaid_12 (by decide) (fun c_3 => absurd hc_2 c_3) (fun c_3 => ?_)
  refine lv_iconst (v := 1) hx hb dX13_isSaid_15 (by decide) ?_
  refine lv_goto (tgt := 20) hx hb dX13_isSaid_16 (by decide) ?_
  have hP9 := hP.sub (ws' := []) [] rfl
  have hD9 := hD.sub (ws' := []) [] (by decide) rfl
  have hK9 := hK.sub (tys' := []) [] rfl
  exact W.zret (v := 1) hx hb hr (by first | rfl | decide) (fun t ht hW => ⟨⟨1, (), rfl, rfl, (zB_mk (by rw [ht]; exact hP9) (va_K.moved hW.alike hK9) hD9)⟩, hS.F ht⟩) hS.2.2 dX13_isSaid_20
theorem iw_X13_knows_X13 : ∀ w ∈ wsX130, w ∈ wsX13_knows := fun w h => List.mem_cons_of_mem _ (List.mem_append_right _ h)
set_option maxHeartbeats 4000000 in
set_option maxRecDepth 100000 in
/-- X13_knows, a road -/
theorem c_X13_knows_r0 (l : Launch) (dC : Nat → ClassId) (dI : Nat → Nat → Nat) (sz : Nat) (h0 : Nat) (fs0 : List Value) (p0 : Int32) (p1 : Int32) (p2 : Int32) (v0_103 : Nat) (v0_109 : Int32) (c_v0_103 : ClassId) (f_v0_103 : Nat → Int32) (v0_104 : Nat) (c_v0_104 : ClassId) (f_v0_104 : Nat → Int32) (v0_105 : Nat) (c_v0_105 : ClassId) (f_v0_105 : Nat → Int32) (v0_101 : Nat) (v0_70 : Nat) (c_v0_70 : ClassId) (f_v0_70 : Nat → Int32) (c_v0_101 : ClassId) (f_v0_101 : Nat → Int32) (v0_102 : Nat) (c_v0_102 : ClassId) (f_v0_102 : Nat → Int32) (hl0 : fs0.length = 196) (hf0_103 : fs0[103]? = some (.ref v0_103)) (hf0_109 : fs0[109]? = some (.int v0_109)) (hf0_104 : fs0[104]? = some (.ref v0_104)) (hf0_105 : fs0[105]? = some (.ref v0_105)) (hf0_101 : fs0[101]? = some (.ref v0_101)) (hf0_70 : fs0[70]? = some (.ref v0_70)) (hf0_102 : fs0[102]? = some (.ref v0_102)) (hi_0 : vp_in v0_109 12000) (hi_1 : vp_in v0_109 12000) (hi_2 : vp_in v0_109 12000) (hi_3 : vp_in p2 40000) (hi_4 : vp_in p1 1501) (hi_5 : vp_in p2 40000) (hi_6 : vp_in p1 1501) (hc_0 : (f_v0_70 (p2).toNatClampNeg) = 3) (hc_1 : ¬ (f_v0_70 (p2).toNatClampNeg) = 5) : Met l yX13_knows wsX13_knows ({ frames := 0, cells := 0, slots := 0, locals := 0 }) (zPc dC dI sz [.ref h0, .int p0, .int p1, .int p2] [(h0, .inr (15, fs0)), (v0_103, .inl (c_v0_103, 12000, .inl f_v0_103)), (v0_104, .inl (c_v0_104, 12000, .inl f_v0_104)), (v0_105, .inl (c_v0_105, 12000, .inl f_v0_105)), (v0_70, .inl (c_v0_70, 40000, .inl f_v0_70)), (v0_101, .inl (c_v0_101, 1501, .inl f_v0_101)), (v0_102, .inl (c_v0_102, 1501, .inl f_v0_102))] [(c_v0_103, .int), (c_v0_104, .int), (c_v0_105, .int), (c_v0_70, .int), (c_v0_101, .boolean), (c_v0_102, .boolean)]) (va_Qi (fun (r : Int32) (_ : Unit) => r = ((v0_109 + 1) - 1)) (zB dC dI (fun _ => [(c_v0_103, .int), (c_v0_104, .int), (c_v0_105, .int), (c_v0_70, .int), (c_v0_101, .boolean), (c_v0_102, .boolean)]) (fun _ : Unit => [(h0, .inr (15, (fs0.set 109 (.int (v0_109 + 1))))), (v0_103, .inl (c_v0_103, 12000, .inl (upd f_v0_103 (v0_109).toNatClampNeg p1))), (v0_104, .inl (c_v0_104, 12000, .inl (upd f_v0_104 (v0_109).toNatClampNeg p2))), (v0_105, .inl (c_v0_105, 12000, .inl (upd f_v0_105 (v0_109).toNatClampNeg p0))), (v0_70, .inl (c_v0_70, 40000, .inl f_v0_70)), (v0_101, .inl (c_v0_101, 1501, .inl (upd f_v0_101 (p1).toNatClampNeg (vp_nar .boolean 1)))), (v0_102, .inl (c_v0_102, 1501, .inl (upd f_v0_102 (p1).toNatClampNeg (vp_nar .boolean 0))))]) (va_A [(h0, .inr (15, fs0)), (v0_103, .inl (c_v0_103, 12000, .inl f_v0_103)), (v0_104, .inl (c_v0_104, 12000, .inl f_v0_104)), (v0_105, .inl (c_v0_105, 12000, .inl f_v0_105)), (v0_70, .inl (c_v0_70, 40000, .inl f_v0_70)), (v0_101, .inl (c_v0_101, 1501, .inl f_v0_101)), (v0_102, .inl (c_v0_102, 1501, .inl f_v0_102))] sz)) (va_A [(h0, .inr (15, fs0)), (v0_103, .inl (c_v0_103, 12000, .inl f_v0_103)), (v0_104, .inl (c_v0_104, 12000, .inl f_v0_104)), (v0_105, .inl (c_v0_105, 12000, .inl f_v0_105)), (v0_70, .inl (c_v0_70, 40000, .inl f_v0_70)), (v0_101, .inl (c_v0_101, 1501, .inl f_v0_101)), (v0_102, .inl (c_v0_102, 1501, .inl f_v0_102))] sz)) 0 0 (va_A [(h0, .inr (15, fs0)), (v0_103, .inl (c_v0_103, 12000, .inl f_v0_103)), (v0_104, .inl (c_v0_104, 12000, .inl f_v0_104)), (v0_105, .inl (c_v0_105, 12000, .inl f_v0_105)), (v0_70, .inl (c_v0_70, 40000, .inl f_v0_70)), (v0_101, .inl (c_v0_101, 1501, .inl f_v0_101)), (v0_102, .inl (c_v0_102, 1501, .inl f_v0_102))] sz) := by
  refine Met.ofW (cc := cX13_knows) (maxL := 4) (ret := (some .int)) (by decide) rfl ?_
  intro p e s m args below meth c s₁ B hml hv
  obtain ⟨rfl, hsz, hP, hK, hD0⟩ := hv
  have hx := B.exec
  have hb := B.bytes
  have hr := B.returns
  have hts := atoms_spec (ws := wsX13_knows) B.pre
  have hown : s.vm.findClass RX13 = some m.cls := findClass_of_methodNamed B.named
  have hlocks := B.notSynchronized
  subst hsz
  have hD := hD0.self (sz := s.heap.size)
  generalize hAe : va_A [(h0, .inr (15, fs0)), (v0_103, .inl (c_v0_103, 12000, .inl f_v0_103)), (v0_104, .inl (c_v0_104, 12000, .inl f_v0_104)), (v0_105, .inl (c_v0_105, 12000, .inl f_v0_105)), (v0_70, .inl (c_v0_70, 40000, .inl f_v0_70)), (v0_101, .inl (c_v0_101, 1501, .inl f_v0_101)), (v0_102, .inl (c_v0_102, 1501, .inl f_v0_102))] s.heap.size = A at hD ⊢
  have hA : ∀ q : Nat, s.heap.size ≤ q → A q := fun q h => by rw [← hAe]; exact Or.inr h
  have hS : va_S A s.heap s.heap [] := va_S.rf
  have hP : va_P (dC, dI) vwCl [(h0, .inr (15, fs0)), (v0_103, .inl (c_v0_103, 12000, .inl f_v0_103)), (v0_104, .inl (c_v0_104, 12000, .inl f_v0_104)), (v0_105, .inl (c_v0_105, 12000, .inl f_v0_105)), (v0_70, .inl (c_v0_70, 40000, .inl f_v0_70)), (v0_101, .inl (c_v0_101, 1501, .inl f_v0_101)), (v0_102, .inl (c_v0_102, 1501, .inl f_v0_102))] s.heap := hP
  have hl := lv_entry ([.ref h0, .int p0, .int p1, .int p2]) (n := 4) (Nat.le_of_ble_eq_true rfl)
  rw [lg_entry_eq]
  generalize (lg_sl ([.ref h0, .int p0, .int p1, .int p2]) ++ List.replicate (4 - (lg_sl ([.ref h0, .int p0, .int p1, .int p2])).length) Slot.unset).toArray = ls at hl ⊢
  have hl : lv_has ls 4 [(0, .ref h0), (1, .int p0), (2, .int p1), (3, .int p2)] := hl
  refine lv_aload_n hx hb dX13_knows_0 rfl (lv_at hl 0 rfl) ?_
  refine va_get (D := (dC, dI)) (ci := 15) (v := .ref v0_103) (C := RX13) (T := TX13) (N := 196) hx hb hts iw_X13_knows_X13 hown hK hP 0 rfl rfl 103 (by decide) (hts (.fieldLink RX13 222 "LiquidTongueModel" "envName" "[I") (by decide +kernel)) (fun _ h9 => h9) hf0_103 dX13_knows_1 ?_
  refine lv_aload_n hx hb dX13_knows_4 rfl (lv_at hl 0 rfl) ?_
  refine va_get (D := (dC, dI)) (ci := 15) (v := .int v0_109) (C := RX13) (T := TX13) (N := 196) hx hb hts iw_X13_knows_X13 hown hK hP 0 rfl rfl 109 (by decide) (hts (.fieldLink RX13 791 "LiquidTongueModel" "envs" "I") (by decide +kernel)) (fun _ h9 => h9) hf0_109 dX13_knows_5 ?_
  refine lv_iload_n hx hb dX13_knows_8 rfl (lv_at hl 2 rfl) ?_
  refine va_iast hx hb hK hP hD hS 1 0 rfl rfl hi_0 dX13_knows_9 (fun H locs hP hD hS => ?_)
  have hP : va_P (dC, dI) vwCl [(h0, .inr (15, fs0)), (v0_103, .inl (c_v0_103, 12000, .inl (upd f_v0_103 (v0_109).toNatClampNeg p1))), (v0_104, .inl (c_v0_104, 12000, .inl f_v0_104)), (v0_105, .inl (c_v0_105, 12000, .inl f_v0_105)), (v0_70, .inl (c_v0_70, 40000, .inl f_v0_70)), (v0_101, .inl (c_v0_101, 1501, .inl f_v0_101)), (v0_102, .inl (c_v0_102, 1501, .inl f_v0_102))] H := hP
  have hD : va_D A [(h0, .inr (15, fs0)), (v0_103, .inl (c_v0_103, 12000, .inl (upd f_v0_103 (v0_109).toNatClampNeg p1))), (v0_104, .inl (c_v0_104, 12000, .inl f_v0_104)), (v0_105, .inl (c_v0_105, 12000, .inl f_v0_105)), (v0_70, .inl (c_v0_70, 40000, .inl f_v0_70)), (v0_101, .inl (c_v0_101, 1501, .inl f_v0_101)), (v0_102, .inl (c_v0_102, 1501, .inl f_v0_102))] := hD
  refine lv_aload_n hx hb dX13_knows_10 rfl (lv_at hl 0 rfl) ?_
  refine va_get (D := (dC, dI)) (ci := 15) (v := .ref v0_104) (C := RX13) (T := TX13) (N := 196) hx hb hts iw_X13_knows_X13 hown hK hP 0 rfl rfl 104 (by decide) (hts (.fieldLink RX13 225 "LiquidTongueModel" "envType" "[I") (by decide +kernel)) (fun _ h9 => h9) hf0_104 dX13_knows_11 ?_
  refine lv_aload_n hx hb dX13_knows_14 rfl (lv_at hl 0 rfl) ?_
  refine va_get (D := (dC, dI)) (ci := 15) (v := .int v0_109) (C := RX13) (T := TX13) (N := 196) hx hb hts iw_X13_knows_X13 hown hK hP 0 rfl rfl 109 (by decide) (hts (.fieldLink RX13 791 "LiquidTongueModel" "envs" "I") (by decide +kernel)) (fun _ h9 => h9) hf0_109 dX13_knows_15 ?_
  refine lv_iload_n hx hb dX13_knows_18 rfl (lv_at hl 3 rfl) ?_
  refine va_iast hx hb hK hP hD hS 2 1 rfl rfl hi_1 dX13_knows_19 (fun H locs hP hD hS => ?_)
  have hP : va_P (dC, dI) vwCl [(h0, .inr (15, fs0)), (v0_103, .inl (c_v0_103, 12000, .inl (upd f_v0_103 (v0_109).toNatClampNeg p1))), (v0_104, .inl (c_v0_104, 12000, .inl (upd f_v0_104 (v0_109).toNatClampNeg p2))), (v0_105, .inl (c_v0_105, 12000, .inl f_v0_105)), (v0_70, .inl (c_v0_70, 40000, .inl f_v0_70)), (v0_101, .inl (c_v0_101, 1501, .inl f_v0_101)), (v0_102, .inl (c_v0_102, 1501, .inl f_v0_102))] H := hP
  have hD : va_D A [(h0, .inr (15, fs0)), (v0_103, .inl (c_v0_103, 12000, .inl (upd f_v0_103 (v0_109).toNatClampNeg p1))), (v0_104, .inl (c_v0_104, 12000, .inl (upd f_v0_104 (v0_109).toNatClampNeg p2))), (v0_105, .inl (c_v0_105, 12000, .inl f_v0_105)), (v0_70, .inl (c_v0_70, 40000, .inl f_v0_70)), (v0_101, .inl (c_v0_101, 1501, .inl f_v0_101)), (v0_102, .inl (c_v0_102, 1501, .inl f_v0_102))] := hD
  refine lv_aload_n hx hb dX13_knows_20 rfl (lv_at hl 0 rfl) ?_
  refine va_get (D := (dC, dI)) (ci := 15) (v := .ref v0_105) (C := RX13) (T := TX13) (N := 196) hx hb hts iw_X13_knows_X13 hown hK hP 0 rfl rfl 105 (by decide) (hts (.fieldLink RX13 228 "LiquidTongueModel" "envBefore" "[I") (by decide +kernel)) (fun _ h9 => h9) hf0_105 dX13_knows_21 ?_
  refine lv_aload_n hx hb dX13_knows_24 rfl (lv_at hl 0 rfl) ?_
  refine va_get (D := (dC, dI)) (ci := 15) (v := .int v0_109) (C := RX13) (T := TX13) (N := 196) hx hb hts iw_X13_knows_X13 hown hK hP 0 rfl rfl 109 (by decide) (hts (.fieldLink RX13 791 "LiquidTongueModel" "envs" "I") (by decide +kernel)) (fun _ h9 => h9) hf0_109 dX13_knows_25 ?_
  refine lv_iload_n hx hb dX13_knows_28 rfl (lv_at hl 1 rfl) ?_
  refine va_iast hx hb hK hP hD hS 3 2 rfl rfl hi_2 dX13_knows_29 (fun H locs hP hD hS => ?_)
  have hP : va_P (dC, dI) vwCl [(h0, .inr (15, fs0)), (v0_103, .inl (c_v0_103, 12000, .inl (upd f_v0_103 (v0_109).toNatClampNeg p1))), (v0_104, .inl (c_v0_104, 12000, .inl (upd f_v0_104 (v0_109).toNatClampNeg p2))), (v0_105, .inl (c_v0_105, 12000, .inl (upd f_v0_105 (v0_109).toNatClampNeg p0))), (v0_70, .inl (c_v0_70, 40000, .inl f_v0_70)), (v0_101, .inl (c_v0_101, 1501, .inl f_v0_101)), (v0_102, .inl (c_v0_102, 1501, .inl f_v0_102))] H := hP
  have hD : va_D A [(h0, .inr (15, fs0)), (v0_103, .inl (c_v0_103, 12000, .inl (upd f_v0_103 (v0_109).toNatClampNeg p1))), (v0_104, .inl (c_v0_104, 12000, .inl (upd f_v0_104 (v0_109).toNatClampNeg p2))), (v0_105, .inl (c_v0_105, 12000, .inl (upd f_v0_105 (v0_109).toNatClampNeg p0))), (v0_70, .inl (c_v0_70, 40000, .inl f_v0_70)), (v0_101, .inl (c_v0_101, 1501, .inl f_v0_101)), (v0_102, .inl (c_v0_102, 1501, .inl f_v0_102))] := hD
  refine lv_aload_n hx hb dX13_knows_30 rfl (lv_at hl 0 rfl) ?_
  refine lv_dup hx hb dX13_knows_31 rfl ?_
  refine va_get (D := (dC, dI)) (ci := 15) (v := .int v0_109) (C := RX13) (T := TX13) (N := 196) hx hb hts iw_X13_knows_X13 hown hK hP 0 rfl rfl 109 (by decide) (hts (.fieldLink RX13 791 "LiquidTongueModel" "envs" "I") (by decide +kernel)) (fun _ h9 => h9) hf0_109 dX13_knows_32 ?_
  refine lv_iconst (v := 1) hx hb dX13_knows_35 (by decide) ?_
  refine lv_iadd hx hb dX13_knows_36 ?_
  refine va_put (D := (dC, dI)) (ci := 15) (v := .int (v0_109 + 1)) (ty := .int) (C := RX13) (T := TX13) (N := 196) hx hb hts iw_X13_knows_X13 tyX13 tyX13_ok nmX13 hown hK hP hD hS 0 rfl rfl 109 (by decide) (hts (.fieldLink RX13 791 "LiquidTongueModel" "envs" "I") (by decide +kernel)) (fun _ h9 => h9) rfl (by decide +kernel) rfl rfl (zs_lt hl0 (by decide)) dX13_knows_37 (fun H locs hP hD hS => ?_)
  have hP : va_P (dC, dI) vwCl [(h0, .inr (15, (fs0.set 109 (.int (v0_109 + 1))))), (v0_103, .inl (c_v0_103, 12000, .inl (upd f_v0_103 (v0_109).toNatClampNeg p1))), (v0_104, .inl (c_v0_104, 12000, .inl (upd f_v0_104 (v0_109).toNatClampNeg p2))), (v0_105, .inl (c_v0_105, 12000, .inl (upd f_v0_105 (v0_109).toNatClampNeg p0))), (v0_70, .inl (c_v0_70, 40000, .inl f_v0_70)), (v0_101, .inl (c_v0_101, 1501, .inl f_v0_101)), (v0_102, .inl (c_v0_102, 1501, .inl f_v0_102))] H := hP
  have hD : va_D A [(h0, .inr (15, (fs0.set 109 (.int (v0_109 + 1))))), (v0_103, .inl (c_v0_103, 12000, .inl (upd f_v0_103 (v0_109).toNatClampNeg p1))), (v0_104, .inl (c_v0_104, 12000, .inl (upd f_v0_104 (v0_109).toNatClampNeg p2))), (v0_105, .inl (c_v0_105, 12000, .inl (upd f_v0_105 (v0_109).toNatClampNeg p0))), (v0_70, .inl (c_v0_70, 40000, .inl f_v0_70)), (v0_101, .inl (c_v0_101, 1501, .inl f_v0_101)), (v0_102, .inl (c_v0_102, 1501, .inl f_v0_102))] := hD
  refine lv_aload_n hx hb dX13_knows_40 rfl (lv_at hl 0 rfl) ?_
  refine va_get (D := (dC, dI)) (ci := 15) (v := .ref v0_101) (C := RX13) (T := TX13) (N := 196) hx hb hts iw_X13_knows_X13 hown hK hP 0 rfl rfl 101 (by decide) (hts (.fieldLink RX13 216 "LiquidTongueModel" "isLength" "[Z") (by decide +kernel)) (fun _ h9 => h9) (zs_ne (by decide) hf0_101) dX13_knows_41 ?_
  refine lv_iload_n hx hb dX13_knows_44 rfl (lv_at hl 2 rfl) ?_
  refine lv_aload_n hx hb dX13_knows_45 rfl (lv_at hl 0 rfl) ?_
  refine va_get (D := (dC, dI)) (ci := 15) (v := .ref v0_70) (C := RX13) (T := TX13) (N := 196) hx hb hts iw_X13_knows_X13 hown hK hP 0 rfl rfl 70 (by decide) (hts (.fieldLink RX13 142 "LiquidTongueModel" "rKind" "[I") (by decide +kernel)) (fun _ h9 => h9) (zs_ne (by decide) hf0_70) dX13_knows_46 ?_
  refine lv_iload_n hx hb dX13_knows_49 rfl (lv_at hl 3 rfl) ?_
  refine va_iald hx hb hK hP 4 3 rfl rfl hi_3 dX13_knows_50 ?_
  refine lv_iconst (v := 3) hx hb dX13_knows_51 (by decide) ?_
  refine lv_icmp_eq (tgt := 65) hx hb dX13_knows_52 (by decide) (fun c_1 => ?_) (fun c_1 => absurd hc_0 c_1)
  refine lv_iconst (v := 1) hx hb dX13_knows_65 (by decide) ?_
  refine lv_goto (tgt := 70) hx hb dX13_knows_66 (by decide) ?_
  refine va_zast hx hb hK hP hD hS 5 4 rfl rfl hi_4 dX13_knows_70 (fun H locs hP hD hS => ?_)
  have hP : va_P (dC, dI) vwCl [(h0, .inr (15, (fs0.set 109 (.int (v0_109 + 1))))), (v0_103, .inl (c_v0_103, 12000, .inl (upd f_v0_103 (v0_109).toNatClampNeg p1))), (v0_104, .inl (c_v0_104, 12000, .inl (upd f_v0_104 (v0_109).toNatClampNeg p2))), (v0_105, .inl (c_v0_105, 12000, .inl (upd f_v0_105 (v0_109).toNatClampNeg p0))), (v0_70, .inl (c_v0_70, 40000, .inl f_v0_70)), (v0_101, .inl (c_v0_101, 1501, .inl (upd f_v0_101 (p1).toNatClampNeg (vp_nar .boolean 1)))), (v0_102, .inl (c_v0_102, 1501, .inl f_v0_102))] H := hP
  have hD : va_D A [(h0, .inr (15, (fs0.set 109 (.int (v0_109 + 1))))), (v0_103, .inl (c_v0_103, 12000, .inl (upd f_v0_103 (v0_109).toNatClampNeg p1))), (v0_104, .inl (c_v0_104, 12000, .inl (upd f_v0_104 (v0_109).toNatClampNeg p2))), (v0_105, .inl (c_v0_105, 12000, .inl (upd f_v0_105 (v0_109).toNatClampNeg p0))), (v0_70, .inl (c_v0_70, 40000, .inl f_v0_70)), (v0_101, .inl (c_v0_101, 1501, .inl (upd f_v0_101 (p1).toNatClampNeg (vp_nar .boolean 1)))), (v0_102, .inl (c_v0_102, 1501, .inl f_v0_102))] := hD
  refine lv_aload_n hx hb dX13_knows_71 rfl (lv_at hl 0 rfl) ?_
  refine va_get (D := (dC, dI)) (ci := 15) (v := .ref v0_102) (C := RX13) (T := TX13) (N := 196) hx hb hts iw_X13_knows_X13 hown hK hP 0 rfl rfl 102 (by decide) (hts (.fieldLink RX13 219 "LiquidTongueModel" "isSize" "[Z") (by decide +kernel)) (fun _ h9 => h9) (zs_ne (by decide) hf0_102) dX13_knows_72 ?_
  refine lv_iload_n hx hb dX13_knows_75 rfl (lv_at hl 2 rfl) ?_
  refine lv_aload_n hx hb dX13_knows_76 rfl (lv_at hl 0 rfl) ?_
  refine va_get (D := (dC, dI)) (ci := 15) (v := .ref v0_70) (C := RX13) (T := TX13) (N := 196) hx hb hts iw_X13_knows_X13 hown hK hP 0 rfl rfl 70 (by decide) (hts (.fieldLink RX13 142 "LiquidTongueModel" "rKind" "[I") (by decide +kernel)) (fun _ h9 => h9) (zs_ne (by decide) hf0_70) dX13_knows_77 ?_
  refine lv_iload_n hx hb dX13_knows_80 rfl (lv_at hl 3 rfl) ?_
  refine va_iald hx hb hK hP 4 3 rfl rfl hi_5 dX13_knows_81 ?_
  refine lv_iconst (v := 5) hx hb dX13_knows_82 (by decide) ?_
  refine lv_icmp_ne (tgt := 90) hx hb dX13_knows_83 (by decide) (fun c_2 => ?_) (fun c_2 => absurd c_2 hc_1)
  refine lv_iconst (v := 0) hx hb dX13_knows_90 (by decide) ?_
  refine va_zast hx hb hK hP hD hS 6 5 rfl rfl hi_6 dX13_knows_91 (fun H locs hP hD hS => ?_)
  have hP : va_P (dC, dI) vwCl [(h0, .inr (15, (fs0.set 109 (.int (v0_109 + 1))))), (v0_103, .inl (c_v0_103, 12000, .inl (upd f_v0_103 (v0_109).toNatClampNeg p1))), (v0_104, .inl (c_v0_104, 12000, .inl (upd f_v0_104 (v0_109).toNatClampNeg p2))), (v0_105, .inl (c_v0_105, 12000, .inl (upd f_v0_105 (v0_109).toNatClampNeg p0))), (v0_70, .inl (c_v0_70, 40000, .inl f_v0_70)), (v0_101, .inl (c_v0_101, 1501, .inl (upd f_v0_101 (p1).toNatClampNeg (vp_nar .boolean 1)))), (v0_102, .inl (c_v0_102, 1501, .inl (upd f_v0_102 (p1).toNatClampNeg (vp_nar .boolean 0))))] H := hP
  have hD : va_D A [(h0, .inr (15, (fs0.set 109 (.int (v0_109 + 1))))), (v0_103, .inl (c_v0_103, 12000, .inl (upd f_v0_103 (v0_109).toNatClampNeg p1))), (v0_104, .inl (c_v0_104, 12000, .inl (upd f_v0_104 (v0_109).toNatClampNeg p2))), (v0_105, .inl (c_v0_105, 12000, .inl (upd f_v0_105 (v0_109).toNatClampNeg p0))), (v0_70, .inl (c_v0_70, 40000, .inl f_v0_70)), (v0_101, .inl (c_v0_101, 1501, .inl (upd f_v0_101 (p1).toNatClampNeg (vp_nar .boolean 1)))), (v0_102, .inl (c_v0_102, 1501, .inl (upd f_v0_102 (p1).toNatClampNeg (vp_nar .boolean 0))))] := hD
  refine lv_aload_n hx hb dX13_knows_92 rfl (lv_at hl 0 rfl) ?_
  refine va_get (D := (dC, dI)) (ci := 15) (v := .int (v0_109 + 1)) (C := RX13) (T := TX13) (N := 196) hx hb hts iw_X13_knows_X13 hown hK hP 0 rfl rfl 109 (by decide) (hts (.fieldLink RX13 791 "LiquidTongueModel" "envs" "I") (by decide +kernel)) (fun _ h9 => h9) (zs_eq (zs_lt hl0 (by decide))) dX13_knows_93 ?_
  refine lv_iconst (v := 1) hx hb dX13_knows_96 (by decide) ?_
  refine lv_isub hx hb dX13_knows_97 ?_
  have hP9 := hP.sub (ws' := [(h0, .inr (15, (fs0.set 109 (.int (v0_109 + 1))))), (v0_103, .inl (c_v0_103, 12000, .inl (upd f_v0_103 (v0_109).toNatClampNeg p1))), (v0_104, .inl (c_v0_104, 12000, .inl (upd f_v0_104 (v0_109).toNatClampNeg p2))), (v0_105, .inl (c_v0_105, 12000, .inl (upd f_v0_105 (v0_109).toNatClampNeg p0))), (v0_70, .inl (c_v0_70, 40000, .inl f_v0_70)), (v0_101, .inl (c_v0_101, 1501, .inl (upd f_v0_101 (p1).toNatClampNeg (vp_nar .boolean 1)))), (v0_102, .inl (c_v0_102, 1501, .inl (upd f_v0_102 (p1).toNatClampNeg (vp_nar .boolean 0))))]) [0, 1, 2, 3, 4, 5, 6] rfl
  have hD9 := hD.sub (ws' := [(h0, .inr (15, (fs0.set 109 (.int (v0_109 + 1))))), (v0_103, .inl (c_v0_103, 12000, .inl (upd f_v0_103 (v0_109).toNatClampNeg p1))), (v0_104, .inl (c_v0_104, 12000, .inl (upd f_v0_104 (v0_109).toNatClampNeg p2))), (v0_105, .inl (c_v0_105, 12000, .inl (upd f_v0_105 (v0_109).toNatClampNeg p0))), (v0_70, .inl (c_v0_70, 40000, .inl f_v0_70)), (v0_101, .inl (c_v0_101, 1501, .inl (upd f_v0_101 (p1).toNatClampNeg (vp_nar .boolean 1)))), (v0_102, .inl (c_v0_102, 1501, .inl (upd f_v0_102 (p1).toNatClampNeg (vp_nar .boolean 0))))]) [0, 1, 2, 3, 4, 5, 6] (by decide) rfl
  have hK9 := hK.sub (tys' := [(c_v0_103, .int), (c_v0_104, .int), (c_v0_105, .int), (c_v0_70, .int), (c_v0_101, .boolean), (c_v0_102, .boolean)]) [0, 1, 2, 3, 4, 5] rfl
  exact W.iret (v := ((v0_109 + 1) - 1)) hx hb hr (fun t ht hW => ⟨⟨((v0_109 + 1) - 1), (), rfl, rfl, (zB_mk (by rw [ht]; exact hP9) (va_K.moved hW.alike hK9) hD9)⟩, hS.F ht⟩) hS.2.2 dX13_knows_98
set_option maxHeartbeats 4000000 in
set_option maxRecDepth 100000 in
/-- X13_knows, a road -/
theorem c_X13_knows_r1 (l : Launch) (dC : Nat → ClassId) (dI : Nat → Nat → Nat) (sz : Nat) (h0 : Nat) (fs0 : List Value) (p0 : Int32) (p1 : Int32) (p2 : Int32) (v0_103 : Nat) (v0_109 : Int32) (c_v0_103 : ClassId) (f_v0_103 : Nat → Int32) (v0_104 : Nat) (c_v0_104 : ClassId) (f_v0_104 : Nat → Int32) (v0_105 : Nat) (c_v0_105 : ClassId) (f_v0_105 : Nat → Int32) (v0_101 : Nat) (v0_70 : Nat) (c_v0_70 : ClassId) (f_v0_70 : Nat → Int32) (c_v0_101 : ClassId) (f_v0_101 : Nat → Int32) (v0_102 : Nat) (c_v0_102 : ClassId) (f_v0_102 : Nat → Int32) (hl0 : fs0.length = 196) (hf0_103 : fs0[103]? = some (.ref v0_103)) (hf0_109 : fs0[109]? = some (.int v0_109)) (hf0_104 : fs0[104]? = some (.ref v0_104)) (hf0_105 : fs0[105]? = some (.ref v0_105)) (hf0_101 : fs0[101]? = some (.ref v0_101)) (hf0_70 : fs0[70]? = some (.ref v0_70)) (hf0_102 : fs0[102]? = some (.ref v0_102)) (hi_0 : vp_in v0_109 12000) (hi_1 : vp_in v0_109 12000) (hi_2 : vp_in v0_109 12000) (hi_3 : vp_in p2 40000) (hi_4 : vp_in p1 1501) (hi_5 : vp_in p2 40000) (hi_6 : vp_in p1 1501) (hc_0 : (f_v0_70 (p2).toNatClampNeg) = 3) (hc_1 : (f_v0_70 (p2).toNatClampNeg) = 5) : Met l yX13_knows wsX13_knows ({ frames := 0, cells := 0, slots := 0, locals := 0 }) (zPc dC dI sz [.ref h0, .int p0, .int p1, .int p2] [(h0, .inr (15, fs0)), (v0_103, .inl (c_v0_103, 12000, .inl f_v0_103)), (v0_104, .inl (c_v0_104, 12000, .inl f_v0_104)), (v0_105, .inl (c_v0_105, 12000, .inl f_v0_105)), (v0_70, .inl (c_v0_70, 40000, .inl f_v0_70)), (v0_101, .inl (c_v0_101, 1501, .inl f_v0_101)), (v0_102, .inl (c_v0_102, 1501, .inl f_v0_102))] [(c_v0_103, .int), (c_v0_104, .int), (c_v0_105, .int), (c_v0_70, .int), (c_v0_101, .boolean), (c_v0_102, .boolean)]) (va_Qi (fun (r : Int32) (_ : Unit) => r = ((v0_109 + 1) - 1)) (zB dC dI (fun _ => [(c_v0_103, .int), (c_v0_104, .int), (c_v0_105, .int), (c_v0_70, .int), (c_v0_101, .boolean), (c_v0_102, .boolean)]) (fun _ : Unit => [(h0, .inr (15, (fs0.set 109 (.int (v0_109 + 1))))), (v0_103, .inl (c_v0_103, 12000, .inl (upd f_v0_103 (v0_109).toNatClampNeg p1))), (v0_104, .inl (c_v0_104, 12000, .inl (upd f_v0_104 (v0_109).toNatClampNeg p2))), (v0_105, .inl (c_v0_105, 12000, .inl (upd f_v0_105 (v0_109).toNatClampNeg p0))), (v0_70, .inl (c_v0_70, 40000, .inl f_v0_70)), (v0_101, .inl (c_v0_101, 1501, .inl (upd f_v0_101 (p1).toNatClampNeg (vp_nar .boolean 1)))), (v0_102, .inl (c_v0_102, 1501, .inl (upd f_v0_102 (p1).toNatClampNeg (vp_nar .boolean 1))))]) (va_A [(h0, .inr (15, fs0)), (v0_103, .inl (c_v0_103, 12000, .inl f_v0_103)), (v0_104, .inl (c_v0_104, 12000, .inl f_v0_104)), (v0_105, .inl (c_v0_105, 12000, .inl f_v0_105)), (v0_70, .inl (c_v0_70, 40000, .inl f_v0_70)), (v0_101, .inl (c_v0_101, 1501, .inl f_v0_101)), (v0_102, .inl (c_v0_102, 1501, .inl f_v0_102))] sz)) (va_A [(h0, .inr (15, fs0)), (v0_103, .inl (c_v0_103, 12000, .inl f_v0_103)), (v0_104, .inl (c_v0_104, 12000, .inl f_v0_104)), (v0_105, .inl (c_v0_105, 12000, .inl f_v0_105)), (v0_70, .inl (c_v0_70, 40000, .inl f_v0_70)), (v0_101, .inl (c_v0_101, 1501, .inl f_v0_101)), (v0_102, .inl (c_v0_102, 1501, .inl f_v0_102))] sz)) 0 0 (va_A [(h0, .inr (15, fs0)), (v0_103, .inl (c_v0_103, 12000, .inl f_v0_103)), (v0_104, .inl (c_v0_104, 12000, .inl f_v0_104)), (v0_105, .inl (c_v0_105, 12000, .inl f_v0_105)), (v0_70, .inl (c_v0_70, 40000, .inl f_v0_70)), (v0_101, .inl (c_v0_101, 1501, .inl f_v0_101)), (v0_102, .inl (c_v0_102, 1501, .inl f_v0_102))] sz) := by
  refine Met.ofW (cc := cX13_knows) (maxL := 4) (ret := (some .int)) (by decide) rfl ?_
  intro p e s m args below meth c s₁ B hml hv
  obtain ⟨rfl, hsz, hP, hK, hD0⟩ := hv
  have hx := B.exec
  have hb := B.bytes
  have hr := B.returns
  have hts := atoms_spec (ws := wsX13_knows) B.pre
  have hown : s.vm.findClass RX13 = some m.cls := findClass_of_methodNamed B.named
  have hlocks := B.notSynchronized
  subst hsz
  have hD := hD0.self (sz := s.heap.size)
  generalize hAe : va_A [(h0, .inr (15, fs0)), (v0_103, .inl (c_v0_103, 12000, .inl f_v0_103)), (v0_104, .inl (c_v0_104, 12000, .inl f_v0_104)), (v0_105, .inl (c_v0_105, 12000, .inl f_v0_105)), (v0_70, .inl (c_v0_70, 40000, .inl f_v0_70)), (v0_101, .inl (c_v0_101, 1501, .inl f_v0_101)), (v0_102, .inl (c_v0_102, 1501, .inl f_v0_102))] s.heap.size = A at hD ⊢
  have hA : ∀ q : Nat, s.heap.size ≤ q → A q := fun q h => by rw [← hAe]; exact Or.inr h
  have hS : va_S A s.heap s.heap [] := va_S.rf
  have hP : va_P (dC, dI) vwCl [(h0, .inr (15, fs0)), (v0_103, .inl (c_v0_103, 12000, .inl f_v0_103)), (v0_104, .inl (c_v0_104, 12000, .inl f_v0_104)), (v0_105, .inl (c_v0_105, 12000, .inl f_v0_105)), (v0_70, .inl (c_v0_70, 40000, .inl f_v0_70)), (v0_101, .inl (c_v0_101, 1501, .inl f_v0_101)), (v0_102, .inl (c_v0_102, 1501, .inl f_v0_102))] s.heap := hP
  have hl := lv_entry ([.ref h0, .int p0, .int p1, .int p2]) (n := 4) (Nat.le_of_ble_eq_true rfl)
  rw [lg_entry_eq]
  generalize (lg_sl ([.ref h0, .int p0, .int p1, .int p2]) ++ List.replicate (4 - (lg_sl ([.ref h0, .int p0, .int p1, .int p2])).length) Slot.unset).toArray = ls at hl ⊢
  have hl : lv_has ls 4 [(0, .ref h0), (1, .int p0), (2, .int p1), (3, .int p2)] := hl
  refine lv_aload_n hx hb dX13_knows_0 rfl (lv_at hl 0 rfl) ?_
  refine va_get (D := (dC, dI)) (ci := 15) (v := .ref v0_103) (C := RX13) (T := TX13) (N := 196) hx hb hts iw_X13_knows_X13 hown hK hP 0 rfl rfl 103 (by decide) (hts (.fieldLink RX13 222 "LiquidTongueModel" "envName" "[I") (by decide +kernel)) (fun _ h9 => h9) hf0_103 dX13_knows_1 ?_
  refine lv_aload_n hx hb dX13_knows_4 rfl (lv_at hl 0 rfl) ?_
  refine va_get (D := (dC, dI)) (ci := 15) (v := .int v0_109) (C := RX13) (T := TX13) (N := 196) hx hb hts iw_X13_knows_X13 hown hK hP 0 rfl rfl 109 (by decide) (hts (.fieldLink RX13 791 "LiquidTongueModel" "envs" "I") (by decide +kernel)) (fun _ h9 => h9) hf0_109 dX13_knows_5 ?_
  refine lv_iload_n hx hb dX13_knows_8 rfl (lv_at hl 2 rfl) ?_
  refine va_iast hx hb hK hP hD hS 1 0 rfl rfl hi_0 dX13_knows_9 (fun H locs hP hD hS => ?_)
  have hP : va_P (dC, dI) vwCl [(h0, .inr (15, fs0)), (v0_103, .inl (c_v0_103, 12000, .inl (upd f_v0_103 (v0_109).toNatClampNeg p1))), (v0_104, .inl (c_v0_104, 12000, .inl f_v0_104)), (v0_105, .inl (c_v0_105, 12000, .inl f_v0_105)), (v0_70, .inl (c_v0_70, 40000, .inl f_v0_70)), (v0_101, .inl (c_v0_101, 1501, .inl f_v0_101)), (v0_102, .inl (c_v0_102, 1501, .inl f_v0_102))] H := hP
  have hD : va_D A [(h0, .inr (15, fs0)), (v0_103, .inl (c_v0_103, 12000, .inl (upd f_v0_103 (v0_109).toNatClampNeg p1))), (v0_104, .inl (c_v0_104, 12000, .inl f_v0_104)), (v0_105, .inl (c_v0_105, 12000, .inl f_v0_105)), (v0_70, .inl (c_v0_70, 40000, .inl f_v0_70)), (v0_101, .inl (c_v0_101, 1501, .inl f_v0_101)), (v0_102, .inl (c_v0_102, 1501, .inl f_v0_102))] := hD
  refine lv_aload_n hx hb dX13_knows_10 rfl (lv_at hl 0 rfl) ?_
  refine va_get (D := (dC, dI)) (ci := 15) (v := .ref v0_104) (C := RX13) (T := TX13) (N := 196) hx hb hts iw_X13_knows_X13 hown hK hP 0 rfl rfl 104 (by decide) (hts (.fieldLink RX13 225 "LiquidTongueModel" "envType" "[I") (by decide +kernel)) (fun _ h9 => h9) hf0_104 dX13_knows_11 ?_
  refine lv_aload_n hx hb dX13_knows_14 rfl (lv_at hl 0 rfl) ?_
  refine va_get (D := (dC, dI)) (ci := 15) (v := .int v0_109) (C := RX13) (T := TX13) (N := 196) hx hb hts iw_X13_knows_X13 hown hK hP 0 rfl rfl 109 (by decide) (hts (.fieldLink RX13 791 "LiquidTongueModel" "envs" "I") (by decide +kernel)) (fun _ h9 => h9) hf0_109 dX13_knows_15 ?_
  refine lv_iload_n hx hb dX13_knows_18 rfl (lv_at hl 3 rfl) ?_
  refine va_iast hx hb hK hP hD hS 2 1 rfl rfl hi_1 dX13_knows_19 (fun H locs hP hD hS => ?_)
  have hP : va_P (dC, dI) vwCl [(h0, .inr (15, fs0)), (v0_103, .inl (c_v0_103, 12000, .inl (upd f_v0_103 (v0_109).toNatClampNeg p1))), (v0_104, .inl (c_v0_104, 12000, .inl (upd f_v0_104 (v0_109).toNatClampNeg p2))), (v0_105, .inl (c_v0_105, 12000, .inl f_v0_105)), (v0_70, .inl (c_v0_70, 40000, .inl f_v0_70)), (v0_101, .inl (c_v0_101, 1501, .inl f_v0_101)), (v0_102, .inl (c_v0_102, 1501, .inl f_v0_102))] H := hP
  have hD : va_D A [(h0, .inr (15, fs0)), (v0_103, .inl (c_v0_103, 12000, .inl (upd f_v0_103 (v0_109).toNatClampNeg p1))), (v0_104, .inl (c_v0_104, 12000, .inl (upd f_v0_104 (v0_109).toNatClampNeg p2))), (v0_105, .inl (c_v0_105, 12000, .inl f_v0_105)), (v0_70, .inl (c_v0_70, 40000, .inl f_v0_70)), (v0_101, .inl (c_v0_101, 1501, .inl f_v0_101)), (v0_102, .inl (c_v0_102, 1501, .inl f_v0_102))] := hD
  refine lv_aload_n hx hb dX13_knows_20 rfl (lv_at hl 0 rfl) ?_
  refine va_get (D := (dC, dI)) (ci := 15) (v := .ref v0_105) (C := RX13) (T := TX13) (N := 196) hx hb hts iw_X13_knows_X13 hown hK hP 0 rfl rfl 105 (by decide) (hts (.fieldLink RX13 228 "LiquidTongueModel" "envBefore" "[I") (by decide +kernel)) (fun _ h9 => h9) hf0_105 dX13_knows_21 ?_
  refine lv_aload_n hx hb dX13_knows_24 rfl (lv_at hl 0 rfl) ?_
  refine va_get (D := (dC, dI)) (ci := 15) (v := .int v0_109) (C := RX13) (T := TX13) (N := 196) hx hb hts iw_X13_knows_X13 hown hK hP 0 rfl rfl 109 (by decide) (hts (.fieldLink RX13 791 "LiquidTongueModel" "envs" "I") (by decide +kernel)) (fun _ h9 => h9) hf0_109 dX13_knows_25 ?_
  refine lv_iload_n hx hb dX13_knows_28 rfl (lv_at hl 1 rfl) ?_
  refine va_iast hx hb hK hP hD hS 3 2 rfl rfl hi_2 dX13_knows_29 (fun H locs hP hD hS => ?_)
  have hP : va_P (dC, dI) vwCl [(h0, .inr (15, fs0)), (v0_103, .inl (c_v0_103, 12000, .inl (upd f_v0_103 (v0_109).toNatClampNeg p1))), (v0_104, .inl (c_v0_104, 12000, .inl (upd f_v0_104 (v0_109).toNatClampNeg p2))), (v0_105, .inl (c_v0_105, 12000, .inl (upd f_v0_105 (v0_109).toNatClampNeg p0))), (v0_70, .inl (c_v0_70, 40000, .inl f_v0_70)), (v0_101, .inl (c_v0_101, 1501, .inl f_v0_101)), (v0_102, .inl (c_v0_102, 1501, .inl f_v0_102))] H := hP
  have hD : va_D A [(h0, .inr (15, fs0)), (v0_103, .inl (c_v0_103, 12000, .inl (upd f_v0_103 (v0_109).toNatClampNeg p1))), (v0_104, .inl (c_v0_104, 12000, .inl (upd f_v0_104 (v0_109).toNatClampNeg p2))), (v0_105, .inl (c_v0_105, 12000, .inl (upd f_v0_105 (v0_109).toNatClampNeg p0))), (v0_70, .inl (c_v0_70, 40000, .inl f_v0_70)), (v0_101, .inl (c_v0_101, 1501, .inl f_v0_101)), (v0_102, .inl (c_v0_102, 1501, .inl f_v0_102))] := hD
  refine lv_aload_n hx hb dX13_knows_30 rfl (lv_at hl 0 rfl) ?_
  refine lv_dup hx hb dX13_knows_31 rfl ?_
  refine va_get (D := (dC, dI)) (ci := 15) (v := .int v0_109) (C := RX13) (T := TX13) (N := 196) hx hb hts iw_X13_knows_X13 hown hK hP 0 rfl rfl 109 (by decide) (hts (.fieldLink RX13 791 "LiquidTongueModel" "envs" "I") (by decide +kernel)) (fun _ h9 => h9) hf0_109 dX13_knows_32 ?_
  refine lv_iconst (v := 1) hx hb dX13_knows_35 (by decide) ?_
  refine lv_iadd hx hb dX13_knows_36 ?_
  refine va_put (D := (dC, dI)) (ci := 15) (v := .int (v0_109 + 1)) (ty := .int) (C := RX13) (T := TX13) (N := 196) hx hb hts iw_X13_knows_X13 tyX13 tyX13_ok nmX13 hown hK hP hD hS 0 rfl rfl 109 (by decide) (hts (.fieldLink RX13 791 "LiquidTongueModel" "envs" "I") (by decide +kernel)) (fun _ h9 => h9) rfl (by decide +kernel) rfl rfl (zs_lt hl0 (by decide)) dX13_knows_37 (fun H locs hP hD hS => ?_)
  have hP : va_P (dC, dI) vwCl [(h0, .inr (15, (fs0.set 109 (.int (v0_109 + 1))))), (v0_103, .inl (c_v0_103, 12000, .inl (upd f_v0_103 (v0_109).toNatClampNeg p1))), (v0_104, .inl (c_v0_104, 12000, .inl (upd f_v0_104 (v0_109).toNatClampNeg p2))), (v0_105, .inl (c_v0_105, 12000, .inl (upd f_v0_105 (v0_109).toNatClampNeg p0))), (v0_70, .inl (c_v0_70, 40000, .inl f_v0_70)), (v0_101, .inl (c_v0_101, 1501, .inl f_v0_101)), (v0_102, .inl (c_v0_102, 1501, .inl f_v0_102))] H := hP
  have hD : va_D A [(h0, .inr (15, (fs0.set 109 (.int (v0_109 + 1))))), (v0_103, .inl (c_v0_103, 12000, .inl (upd f_v0_103 (v0_109).toNatClampNeg p1))), (v0_104, .inl (c_v0_104, 12000, .inl (upd f_v0_104 (v0_109).toNatClampNeg p2))), (v0_105, .inl (c_v0_105, 12000, .inl (upd f_v0_105 (v0_109).toNatClampNeg p0))), (v0_70, .inl (c_v0_70, 40000, .inl f_v0_70)), (v0_101, .inl (c_v0_101, 1501, .inl f_v0_101)), (v0_102, .inl (c_v0_102, 1501, .inl f_v0_102))] := hD
  refine lv_aload_n hx hb dX13_knows_40 rfl (lv_at hl 0 rfl) ?_
  refine va_get (D := (dC, dI)) (ci := 15) (v := .ref v0_101) (C := RX13) (T := TX13) (N := 196) hx hb hts iw_X13_knows_X13 hown hK hP 0 rfl rfl 101 (by decide) (hts (.fieldLink RX13 216 "LiquidTongueModel" "isLength" "[Z") (by decide +kernel)) (fun _ h9 => h9) (zs_ne (by decide) hf0_101) dX13_knows_41 ?_
  refine lv_iload_n hx hb dX13_knows_44 rfl (lv_at hl 2 rfl) ?_
  refine lv_aload_n hx hb dX13_knows_45 rfl (lv_at hl 0 rfl) ?_
  refine va_get (D := (dC, dI)) (ci := 15) (v := .ref v0_70) (C := RX13) (T := TX13) (N := 196) hx hb hts iw_X13_knows_X13 hown hK hP 0 rfl rfl 70 (by decide) (hts (.fieldLink RX13 142 "LiquidTongueModel" "rKind" "[I") (by decide +kernel)) (fun _ h9 => h9) (zs_ne (by decide) hf0_70) dX13_knows_46 ?_
  refine lv_iload_n hx hb dX13_knows_49 rfl (lv_at hl 3 rfl) ?_
  refine va_iald hx hb hK hP 4 3 rfl rfl hi_3 dX13_knows_50 ?_
  refine lv_iconst (v := 3) hx hb dX13_knows_51 (by decide) ?_
  refine lv_icmp_eq (tgt := 65) hx hb dX13_knows_52 (by decide) (fun c_1 => ?_) (fun c_1 => absurd hc_0 c_1)
  refine lv_iconst (v := 1) hx hb dX13_knows_65 (by decide) ?_
  refine lv_goto (tgt := 70) hx hb dX13_knows_66 (by decide) ?_
  refine va_zast hx hb hK hP hD hS 5 4 rfl rfl hi_4 dX13_knows_70 (fun H locs hP hD hS => ?_)
  have hP : va_P (dC, dI) vwCl [(h0, .inr (15, (fs0.set 109 (.int (v0_109 + 1))))), (v0_103, .inl (c_v0_103, 12000, .inl (upd f_v0_103 (v0_109).toNatClampNeg p1))), (v0_104, .inl (c_v0_104, 12000, .inl (upd f_v0_104 (v0_109).toNatClampNeg p2))), (v0_105, .inl (c_v0_105, 12000, .inl (upd f_v0_105 (v0_109).toNatClampNeg p0))), (v0_70, .inl (c_v0_70, 40000, .inl f_v0_70)), (v0_101, .inl (c_v0_101, 1501, .inl (upd f_v0_101 (p1).toNatClampNeg (vp_nar .boolean 1)))), (v0_102, .inl (c_v0_102, 1501, .inl f_v0_102))] H := hP
  have hD : va_D A [(h0, .inr (15, (fs0.set 109 (.int (v0_109 + 1))))), (v0_103, .inl (c_v0_103, 12000, .inl (upd f_v0_103 (v0_109).toNatClampNeg p1))), (v0_104, .inl (c_v0_104, 12000, .inl (upd f_v0_104 (v0_109).toNatClampNeg p2))), (v0_105, .inl (c_v0_105, 12000, .inl (upd f_v0_105 (v0_109).toNatClampNeg p0))), (v0_70, .inl (c_v0_70, 40000, .inl f_v0_70)), (v0_101, .inl (c_v0_101, 1501, .inl (upd f_v0_101 (p1).toNatClampNeg (vp_nar .boolean 1)))), (v0_102, .inl (c_v0_102, 1501, .inl f_v0_102))] := hD
  refine lv_aload_n hx hb dX13_knows_71 rfl (lv_at hl 0 rfl) ?_
  refine va_get (D := (dC, dI)) (ci := 15) (v := .ref v0_102) (C := RX13) (T := TX13) (N := 196) hx hb hts iw_X13_knows_X13 hown hK hP 0 rfl rfl 102 (by decide) (hts (.fieldLink RX13 219 "LiquidTongueModel" "isSize" "[Z") (by decide +kernel)) (fun _ h9 => h9) (zs_ne (by decide) hf0_102) dX13_knows_72 ?_
  refine lv_iload_n hx hb dX13_knows_75 rfl (lv_at hl 2 rfl) ?_
  refine lv_aload_n hx hb dX13_knows_76 rfl (lv_at hl 0 rfl) ?_
  refine va_get (D := (dC, dI)) (ci := 15) (v := .ref v0_70) (C := RX13) (T := TX13) (N := 196) hx hb hts iw_X13_knows_X13 hown hK hP 0 rfl rfl 70 (by decide) (hts (.fieldLink RX13 142 "LiquidTongueModel" "rKind" "[I") (by decide +kernel)) (fun _ h9 => h9) (zs_ne (by decide) hf0_70) dX13_knows_77 ?_
  refine lv_iload_n hx hb dX13_knows_80 rfl (lv_at hl 3 rfl) ?_
  refine va_iald hx hb hK hP 4 3 rfl rfl hi_5 dX13_knows_81 ?_
  refine lv_iconst (v := 5) hx hb dX13_knows_82 (by decide) ?_
  refine lv_icmp_ne (tgt := 90) hx hb dX13_knows_83 (by decide) (fun c_2 => absurd hc_1 c_2) (fun c_2 => ?_)
  refine lv_iconst (v := 1) hx hb dX13_knows_86 (by decide) ?_
  refine lv_goto (tgt := 91) hx hb dX13_knows_87 (by decide) ?_
  refine va_zast hx hb hK hP hD hS 6 5 rfl rfl hi_6 dX13_knows_91 (fun H locs hP hD hS => ?_)
  have hP : va_P (dC, dI) vwCl [(h0, .inr (15, (fs0.set 109 (.int (v0_109 + 1))))), (v0_103, .inl (c_v0_103, 12000, .inl (upd f_v0_103 (v0_109).toNatClampNeg p1))), (v0_104, .inl (c_v0_104, 12000, .inl (upd f_v0_104 (v0_109).toNatClampNeg p2))), (v0_105, .inl (c_v0_105, 12000, .inl (upd f_v0_105 (v0_109).toNatClampNeg p0))), (v0_70, .inl (c_v0_70, 40000, .inl f_v0_70)), (v0_101, .inl (c_v0_101, 1501, .inl (upd f_v0_101 (p1).toNatClampNeg (vp_nar .boolean 1)))), (v0_102, .inl (c_v0_102, 1501, .inl (upd f_v0_102 (p1).toNatClampNeg (vp_nar .boolean 1))))] H := hP
  have hD : va_D A [(h0, .inr (15, (fs0.set 109 (.int (v0_109 + 1))))), (v0_103, .inl (c_v0_103, 12000, .inl (upd f_v0_103 (v0_109).toNatClampNeg p1))), (v0_104, .inl (c_v0_104, 12000, .inl (upd f_v0_104 (v0_109).toNatClampNeg p2))), (v0_105, .inl (c_v0_105, 12000, .inl (upd f_v0_105 (v0_109).toNatClampNeg p0))), (v0_70, .inl (c_v0_70, 40000, .inl f_v0_70)), (v0_101, .inl (c_v0_101, 1501, .inl (upd f_v0_101 (p1).toNatClampNeg (vp_nar .boolean 1)))), (v0_102, .inl (c_v0_102, 1501, .inl (upd f_v0_102 (p1).toNatClampNeg (vp_nar .boolean 1))))] := hD
  refine lv_aload_n hx hb dX13_knows_92 rfl (lv_at hl 0 rfl) ?_
  refine va_get (D := (dC, dI)) (ci := 15) (v := .int (v0_109 + 1)) (C := RX13) (T := TX13) (N := 196) hx hb hts iw_X13_knows_X13 hown hK hP 0 rfl rfl 109 (by decide) (hts (.fieldLink RX13 791 "LiquidTongueModel" "envs" "I") (by decide +kernel)) (fun _ h9 => h9) (zs_eq (zs_lt hl0 (by decide))) dX13_knows_93 ?_
  refine lv_iconst (v := 1) hx hb dX13_knows_96 (by decide) ?_
  refine lv_isub hx hb dX13_knows_97 ?_
  have hP9 := hP.sub (ws' := [(h0, .inr (15, (fs0.set 109 (.int (v0_109 + 1))))), (v0_103, .inl (c_v0_103, 12000, .inl (upd f_v0_103 (v0_109).toNatClampNeg p1))), (v0_104, .inl (c_v0_104, 12000, .inl (upd f_v0_104 (v0_109).toNatClampNeg p2))), (v0_105, .inl (c_v0_105, 12000, .inl (upd f_v0_105 (v0_109).toNatClampNeg p0))), (v0_70, .inl (c_v0_70, 40000, .inl f_v0_70)), (v0_101, .inl (c_v0_101, 1501, .inl (upd f_v0_101 (p1).toNatClampNeg (vp_nar .boolean 1)))), (v0_102, .inl (c_v0_102, 1501, .inl (upd f_v0_102 (p1).toNatClampNeg (vp_nar .boolean 1))))]) [0, 1, 2, 3, 4, 5, 6] rfl
  have hD9 := hD.sub (ws' := [(h0, .inr (15, (fs0.set 109 (.int (v0_109 + 1))))), (v0_103, .inl (c_v0_103, 12000, .inl (upd f_v0_103 (v0_109).toNatClampNeg p1))), (v0_104, .inl (c_v0_104, 12000, .inl (upd f_v0_104 (v0_109).toNatClampNeg p2))), (v0_105, .inl (c_v0_105, 12000, .inl (upd f_v0_105 (v0_109).toNatClampNeg p0))), (v0_70, .inl (c_v0_70, 40000, .inl f_v0_70)), (v0_101, .inl (c_v0_101, 1501, .inl (upd f_v0_101 (p1).toNatClampNeg (vp_nar .boolean 1)))), (v0_102, .inl (c_v0_102, 1501, .inl (upd f_v0_102 (p1).toNatClampNeg (vp_nar .boolean 1))))]) [0, 1, 2, 3, 4, 5, 6] (by decide) rfl
  have hK9 := hK.sub (tys' := [(c_v0_103, .int), (c_v0_104, .int), (c_v0_105, .int), (c_v0_70, .int), (c_v0_101, .boolean), (c_v0_102, .boolean)]) [0, 1, 2, 3, 4, 5] rfl
  exact W.iret (v := ((v0_109 + 1) - 1)) hx hb hr (fun t ht hW => ⟨⟨((v0_109 + 1) - 1), (), rfl, rfl, (zB_mk (by rw [ht]; exact hP9) (va_K.moved hW.alike hK9) hD9)⟩, hS.F ht⟩) hS.2.2 dX13_knows_98
set_option maxHeartbeats 4000000 in
set_option maxRecDepth 100000 in
/-- X13_knows, a road -/
theorem c_X13_knows_r2 (l : Launch) (dC : Nat → ClassId) (dI : Nat → Nat → Nat) (sz : Nat) (h0 : Nat) (fs0 : List Value) (p0 : Int32) (p1 : Int32) (p2 : Int32) (v0_103 : Nat) (v0_109 : Int32) (c_v0_103 : ClassId) (f_v0_103 : Nat → Int32) (v0_104 : Nat) (c_v0_104 : ClassId) (f_v0_104 : Nat → Int32) (v0_105 : Nat) (c_v0_105 : ClassId) (f_v0_105 : Nat → Int32) (v0_101 : Nat) (v0_70 : Nat) (c_v0_70 : ClassId) (f_v0_70 : Nat → Int32) (c_v0_101 : ClassId) (f_v0_101 : Nat → Int32) (v0_102 : Nat) (c_v0_102 : ClassId) (f_v0_102 : Nat → Int32) (hl0 : fs0.length = 196) (hf0_103 : fs0[103]? = some (.ref v0_103)) (hf0_109 : fs0[109]? = some (.int v0_109)) (hf0_104 : fs0[104]? = some (.ref v0_104)) (hf0_105 : fs0[105]? = some (.ref v0_105)) (hf0_101 : fs0[101]? = some (.ref v0_101)) (hf0_70 : fs0[70]? = some (.ref v0_70)) (hf0_102 : fs0[102]? = some (.ref v0_102)) (hi_0 : vp_in v0_109 12000) (hi_1 : vp_in v0_109 12000) (hi_2 : vp_in v0_109 12000) (hi_3 : vp_in p2 40000) (hi_4 : vp_in p2 40000) (hi_5 : vp_in p1 1501) (hi_6 : vp_in p2 40000) (hi_7 : vp_in p1 1501) (hc_0 : ¬ (f_v0_70 (p2).toNatClampNeg) = 3) (hc_1 : ¬ (f_v0_70 (p2).toNatClampNeg) = 5) (hc_2 : ¬ (f_v0_70 (p2).toNatClampNeg) = 5) : Met l yX13_knows wsX13_knows ({ frames := 0, cells := 0, slots := 0, locals := 0 }) (zPc dC dI sz [.ref h0, .int p0, .int p1, .int p2] [(h0, .inr (15, fs0)), (v0_103, .inl (c_v0_103, 12000, .inl f_v0_103)), (v0_104, .inl (c_v0_104, 12000, .inl f_v0_104)), (v0_105, .inl (c_v0_105, 12000, .inl f_v0_105)), (v0_70, .inl (c_v0_70, 40000, .inl f_v0_70)), (v0_101, .inl (c_v0_101, 1501, .inl f_v0_101)), (v0_102, .inl (c_v0_102, 1501, .inl f_v0_102))] [(c_v0_103, .int), (c_v0_104, .int), (c_v0_105, .int), (c_v0_70, .int), (c_v0_101, .boolean), (c_v0_102, .boolean)]) (va_Qi (fun (r : Int32) (_ : Unit) => r = ((v0_109 + 1) - 1)) (zB dC dI (fun _ => [(c_v0_103, .int), (c_v0_104, .int), (c_v0_105, .int), (c_v0_70, .int), (c_v0_101, .boolean), (c_v0_102, .boolean)]) (fun _ : Unit => [(h0, .inr (15, (fs0.set 109 (.int (v0_109 + 1))))), (v0_103, .inl (c_v0_103, 12000, .inl (upd f_v0_103 (v0_109).toNatClampNeg p1))), (v0_104, .inl (c_v0_104, 12000, .inl (upd f_v0_104 (v0_109).toNatClampNeg p2))), (v0_105, .inl (c_v0_105, 12000, .inl (upd f_v0_105 (v0_109).toNatClampNeg p0))), (v0_70, .inl (c_v0_70, 40000, .inl f_v0_70)), (v0_101, .inl (c_v0_101, 1501, .inl (upd f_v0_101 (p1).toNatClampNeg (vp_nar .boolean 0)))), (v0_102, .inl (c_v0_102, 1501, .inl (upd f_v0_102 (p1).toNatClampNeg (vp_nar .boolean 0))))]) (va_A [(h0, .inr (15, fs0)), (v0_103, .inl (c_v0_103, 12000, .inl f_v0_103)), (v0_104, .inl (c_v0_104, 12000, .inl f_v0_104)), (v0_105, .inl (c_v0_105, 12000, .inl f_v0_105)), (v0_70, .inl (c_v0_70, 40000, .inl f_v0_70)), (v0_101, .inl (c_v0_101, 1501, .inl f_v0_101)), (v0_102, .inl (c_v0_102, 1501, .inl f_v0_102))] sz)) (va_A [(h0, .inr (15, fs0)), (v0_103, .inl (c_v0_103, 12000, .inl f_v0_103)), (v0_104, .inl (c_v0_104, 12000, .inl f_v0_104)), (v0_105, .inl (c_v0_105, 12000, .inl f_v0_105)), (v0_70, .inl (c_v0_70, 40000, .inl f_v0_70)), (v0_101, .inl (c_v0_101, 1501, .inl f_v0_101)), (v0_102, .inl (c_v0_102, 1501, .inl f_v0_102))] sz)) 0 0 (va_A [(h0, .inr (15, fs0)), (v0_103, .inl (c_v0_103, 12000, .inl f_v0_103)), (v0_104, .inl (c_v0_104, 12000, .inl f_v0_104)), (v0_105, .inl (c_v0_105, 12000, .inl f_v0_105)), (v0_70, .inl (c_v0_70, 40000, .inl f_v0_70)), (v0_101, .inl (c_v0_101, 1501, .inl f_v0_101)), (v0_102, .inl (c_v0_102, 1501, .inl f_v0_102))] sz) := by
  refine Met.ofW (cc := cX13_knows) (maxL := 4) (ret := (some .int)) (by decide) rfl ?_
  intro p e s m args below meth c s₁ B hml hv
  obtain ⟨rfl, hsz, hP, hK, hD0⟩ := hv
  have hx := B.exec
  have hb := B.bytes
  have hr := B.returns
  have hts := atoms_spec (ws := wsX13_knows) B.pre
  have hown : s.vm.findClass RX13 = some m.cls := findClass_of_methodNamed B.named
  have hlocks := B.notSynchronized
  subst hsz
  have hD := hD0.self (sz := s.heap.size)
  generalize hAe : va_A [(h0, .inr (15, fs0)), (v0_103, .inl (c_v0_103, 12000, .inl f_v0_103)), (v0_104, .inl (c_v0_104, 12000, .inl f_v0_104)), (v0_105, .inl (c_v0_105, 12000, .inl f_v0_105)), (v0_70, .inl (c_v0_70, 40000, .inl f_v0_70)), (v0_101, .inl (c_v0_101, 1501, .inl f_v0_101)), (v0_102, .inl (c_v0_102, 1501, .inl f_v0_102))] s.heap.size = A at hD ⊢
  have hA : ∀ q : Nat, s.heap.size ≤ q → A q := fun q h => by rw [← hAe]; exact Or.inr h
  have hS : va_S A s.heap s.heap [] := va_S.rf
  have hP : va_P (dC, dI) vwCl [(h0, .inr (15, fs0)), (v0_103, .inl (c_v0_103, 12000, .inl f_v0_103)), (v0_104, .inl (c_v0_104, 12000, .inl f_v0_104)), (v0_105, .inl (c_v0_105, 12000, .inl f_v0_105)), (v0_70, .inl (c_v0_70, 40000, .inl f_v0_70)), (v0_101, .inl (c_v0_101, 1501, .inl f_v0_101)), (v0_102, .inl (c_v0_102, 1501, .inl f_v0_102))] s.heap := hP
  have hl := lv_entry ([.ref h0, .int p0, .int p1, .int p2]) (n := 4) (Nat.le_of_ble_eq_true rfl)
  rw [lg_entry_eq]
  generalize (lg_sl ([.ref h0, .int p0, .int p1, .int p2]) ++ List.replicate (4 - (lg_sl ([.ref h0, .int p0, .int p1, .int p2])).length) Slot.unset).toArray = ls at hl ⊢
  have hl : lv_has ls 4 [(0, .ref h0), (1, .int p0), (2, .int p1), (3, .int p2)] := hl
  refine lv_aload_n hx hb dX13_knows_0 rfl (lv_at hl 0 rfl) ?_
  refine va_get (D := (dC, dI)) (ci := 15) (v := .ref v0_103) (C := RX13) (T := TX13) (N := 196) hx hb hts iw_X13_knows_X13 hown hK hP 0 rfl rfl 103 (by decide) (hts (.fieldLink RX13 222 "LiquidTongueModel" "envName" "[I") (by decide +kernel)) (fun _ h9 => h9) hf0_103 dX13_knows_1 ?_
  refine lv_aload_n hx hb dX13_knows_4 rfl (lv_at hl 0 rfl) ?_
  refine va_get (D := (dC, dI)) (ci := 15) (v := .int v0_109) (C := RX13) (T := TX13) (N := 196) hx hb hts iw_X13_knows_X13 hown hK hP 0 rfl rfl 109 (by decide) (hts (.fieldLink RX13 791 "LiquidTongueModel" "envs" "I") (by decide +kernel)) (fun _ h9 => h9) hf0_109 dX13_knows_5 ?_
  refine lv_iload_n hx hb dX13_knows_8 rfl (lv_at hl 2 rfl) ?_
  refine va_iast hx hb hK hP hD hS 1 0 rfl rfl hi_0 dX13_knows_9 (fun H locs hP hD hS => ?_)
  have hP : va_P (dC, dI) vwCl [(h0, .inr (15, fs0)), (v0_103, .inl (c_v0_103, 12000, .inl (upd f_v0_103 (v0_109).toNatClampNeg p1))), (v0_104, .inl (c_v0_104, 12000, .inl f_v0_104)), (v0_105, .inl (c_v0_105, 12000, .inl f_v0_105)), (v0_70, .inl (c_v0_70, 40000, .inl f_v0_70)), (v0_101, .inl (c_v0_101, 1501, .inl f_v0_101)), (v0_102, .inl (c_v0_102, 1501, .inl f_v0_102))] H := hP
  have hD : va_D A [(h0, .inr (15, fs0)), (v0_103, .inl (c_v0_103, 12000, .inl (upd f_v0_103 (v0_109).toNatClampNeg p1))), (v0_104, .inl (c_v0_104, 12000, .inl f_v0_104)), (v0_105, .inl (c_v0_105, 12000, .inl f_v0_105)), (v0_70, .inl (c_v0_70, 40000, .inl f_v0_70)), (v0_101, .inl (c_v0_101, 1501, .inl f_v0_101)), (v0_102, .inl (c_v0_102, 1501, .inl f_v0_102))] := hD
  refine lv_aload_n hx hb dX13_knows_10 rfl (lv_at hl 0 rfl) ?_
  refine va_get (D := (dC, dI)) (ci := 15) (v := .ref v0_104) (C := RX13) (T := TX13) (N := 196) hx hb hts iw_X13_knows_X13 hown hK hP 0 rfl rfl 104 (by decide) (hts (.fieldLink RX13 225 "LiquidTongueModel" "envType" "[I") (by decide +kernel)) (fun _ h9 => h9) hf0_104 dX13_knows_11 ?_
  refine lv_aload_n hx hb dX13_knows_14 rfl (lv_at hl 0 rfl) ?_
  refine va_get (D := (dC, dI)) (ci := 15) (v := .int v0_109) (C := RX13) (T := TX13) (N := 196) hx hb hts iw_X13_knows_X13 hown hK hP 0 rfl rfl 109 (by decide) (hts (.fieldLink RX13 791 "LiquidTongueModel" "envs" "I") (by decide +kernel)) (fun _ h9 => h9) hf0_109 dX13_knows_15 ?_
  refine lv_iload_n hx hb dX13_knows_18 rfl (lv_at hl 3 rfl) ?_
  refine va_iast hx hb hK hP hD hS 2 1 rfl rfl hi_1 dX13_knows_19 (fun H locs hP hD hS => ?_)
  have hP : va_P (dC, dI) vwCl [(h0, .inr (15, fs0)), (v0_103, .inl (c_v0_103, 12000, .inl (upd f_v0_103 (v0_109).toNatClampNeg p1))), (v0_104, .inl (c_v0_104, 12000, .inl (upd f_v0_104 (v0_109).toNatClampNeg p2))), (v0_105, .inl (c_v0_105, 12000, .inl f_v0_105)), (v0_70, .inl (c_v0_70, 40000, .inl f_v0_70)), (v0_101, .inl (c_v0_101, 1501, .inl f_v0_101)), (v0_102, .inl (c_v0_102, 1501, .inl f_v0_102))] H := hP
  have hD : va_D A [(h0, .inr (15, fs0)), (v0_103, .inl (c_v0_103, 12000, .inl (upd f_v0_103 (v0_109).toNatClampNeg p1))), (v0_104, .inl (c_v0_104, 12000, .inl (upd f_v0_104 (v0_109).toNatClampNeg p2))), (v0_105, .inl (c_v0_105, 12000, .inl f_v0_105)), (v0_70, .inl (c_v0_70, 40000, .inl f_v0_70)), (v0_101, .inl (c_v0_101, 1501, .inl f_v0_101)), (v0_102, .inl (c_v0_102, 1501, .inl f_v0_102))] := hD
  refine lv_aload_n hx hb dX13_knows_20 rfl (lv_at hl 0 rfl) ?_
  refine va_get (D := (dC, dI)) (ci := 15) (v := .ref v0_105) (C := RX13) (T := TX13) (N := 196) hx hb hts iw_X13_knows_X13 hown hK hP 0 rfl rfl 105 (by decide) (hts (.fieldLink RX13 228 "LiquidTongueModel" "envBefore" "[I") (by decide +kernel)) (fun _ h9 => h9) hf0_105 dX13_knows_21 ?_
  refine lv_aload_n hx hb dX13_knows_24 rfl (lv_at hl 0 rfl) ?_
  refine va_get (D := (dC, dI)) (ci := 15) (v := .int v0_109) (C := RX13) (T := TX13) (N := 196) hx hb hts iw_X13_knows_X13 hown hK hP 0 rfl rfl 109 (by decide) (hts (.fieldLink RX13 791 "LiquidTongueModel" "envs" "I") (by decide +kernel)) (fun _ h9 => h9) hf0_109 dX13_knows_25 ?_
  refine lv_iload_n hx hb dX13_knows_28 rfl (lv_at hl 1 rfl) ?_
  refine va_iast hx hb hK hP hD hS 3 2 rfl rfl hi_2 dX13_knows_29 (fun H locs hP hD hS => ?_)
  have hP : va_P (dC, dI) vwCl [(h0, .inr (15, fs0)), (v0_103, .inl (c_v0_103, 12000, .inl (upd f_v0_103 (v0_109).toNatClampNeg p1))), (v0_104, .inl (c_v0_104, 12000, .inl (upd f_v0_104 (v0_109).toNatClampNeg p2))), (v0_105, .inl (c_v0_105, 12000, .inl (upd f_v0_105 (v0_109).toNatClampNeg p0))), (v0_70, .inl (c_v0_70, 40000, .inl f_v0_70)), (v0_101, .inl (c_v0_101, 1501, .inl f_v0_101)), (v0_102, .inl (c_v0_102, 1501, .inl f_v0_102))] H := hP
  have hD : va_D A [(h0, .inr (15, fs0)), (v0_103, .inl (c_v0_103, 12000, .inl (upd f_v0_103 (v0_109).toNatClampNeg p1))), (v0_104, .inl (c_v0_104, 12000, .inl (upd f_v0_104 (v0_109).toNatClampNeg p2))), (v0_105, .inl (c_v0_105, 12000, .inl (upd f_v0_105 (v0_109).toNatClampNeg p0))), (v0_70, .inl (c_v0_70, 40000, .inl f_v0_70)), (v0_101, .inl (c_v0_101, 1501, .inl f_v0_101)), (v0_102, .inl (c_v0_102, 1501, .inl f_v0_102))] := hD
  refine lv_aload_n hx hb dX13_knows_30 rfl (lv_at hl 0 rfl) ?_
  refine lv_dup hx hb dX13_knows_31 rfl ?_
  refine va_get (D := (dC, dI)) (ci := 15) (v := .int v0_109) (C := RX13) (T := TX13) (N := 196) hx hb hts iw_X13_knows_X13 hown hK hP 0 rfl rfl 109 (by decide) (hts (.fieldLink RX13 791 "LiquidTongueModel" "envs" "I") (by decide +kernel)) (fun _ h9 => h9) hf0_109 dX13_knows_32 ?_
  refine lv_iconst (v := 1) hx hb dX13_knows_35 (by decide) ?_
  refine lv_iadd hx hb dX13_knows_36 ?_
  refine va_put (D := (dC, dI)) (ci := 15) (v := .int (v0_109 + 1)) (ty := .int) (C := RX13) (T := TX13) (N := 196) hx hb hts iw_X13_knows_X13 tyX13 tyX13_ok nmX13 hown hK hP hD hS 0 rfl rfl 109 (by decide) (hts (.fieldLink RX13 791 "LiquidTongueModel" "envs" "I") (by decide +kernel)) (fun _ h9 => h9) rfl (by decide +kernel) rfl rfl (zs_lt hl0 (by decide)) dX13_knows_37 (fun H locs hP hD hS => ?_)
  have hP : va_P (dC, dI) vwCl [(h0, .inr (15, (fs0.set 109 (.int (v0_109 + 1))))), (v0_103, .inl (c_v0_103, 12000, .inl (upd f_v0_103 (v0_109).toNatClampNeg p1))), (v0_104, .inl (c_v0_104, 12000, .inl (upd f_v0_104 (v0_109).toNatClampNeg p2))), (v0_105, .inl (c_v0_105, 12000, .inl (upd f_v0_105 (v0_109).toNatClampNeg p0))), (v0_70, .inl (c_v0_70, 40000, .inl f_v0_70)), (v0_101, .inl (c_v0_101, 1501, .inl f_v0_101)), (v0_102, .inl (c_v0_102, 1501, .inl f_v0_102))] H := hP
  have hD : va_D A [(h0, .inr (15, (fs0.set 109 (.int (v0_109 + 1))))), (v0_103, .inl (c_v0_103, 12000, .inl (upd f_v0_103 (v0_109).toNatClampNeg p1))), (v0_104, .inl (c_v0_104, 12000, .inl (upd f_v0_104 (v0_109).toNatClampNeg p2))), (v0_105, .inl (c_v0_105, 12000, .inl (upd f_v0_105 (v0_109).toNatClampNeg p0))), (v0_70, .inl (c_v0_70, 40000, .inl f_v0_70)), (v0_101, .inl (c_v0_101, 1501, .inl f_v0_101)), (v0_102, .inl (c_v0_102, 1501, .inl f_v0_102))] := hD
  refine lv_aload_n hx hb dX13_knows_40 rfl (lv_at hl 0 rfl) ?_
  refine va_get (D := (dC, dI)) (ci := 15) (v := .ref v0_101) (C := RX13) (T := TX13) (N := 196) hx hb hts iw_X13_knows_X13 hown hK hP 0 rfl rfl 101 (by decide) (hts (.fieldLink RX13 216 "LiquidTongueModel" "isLength" "[Z") (by decide +kernel)) (fun _ h9 => h9) (zs_ne (by decide) hf0_101) dX13_knows_41 ?_
  refine lv_iload_n hx hb dX13_knows_44 rfl (lv_at hl 2 rfl) ?_
  refine lv_aload_n hx hb dX13_knows_45 rfl (lv_at hl 0 rfl) ?_
  refine va_get (D := (dC, dI)) (ci := 15) (v := .ref v0_70) (C := RX13) (T := TX13) (N := 196) hx hb hts iw_X13_knows_X13 hown hK hP 0 rfl rfl 70 (by decide) (hts (.fieldLink RX13 142 "LiquidTongueModel" "rKind" "[I") (by decide +kernel)) (fun _ h9 => h9) (zs_ne (by decide) hf0_70) dX13_knows_46 ?_
  refine lv_iload_n hx hb dX13_knows_49 rfl (lv_at hl 3 rfl) ?_
  refine va_iald hx hb hK hP 4 3 rfl rfl hi_3 dX13_knows_50 ?_
  refine lv_iconst (v := 3) hx hb dX13_knows_51 (by decide) ?_
  refine lv_icmp_eq (tgt := 65) hx hb dX13_knows_52 (by decide) (fun c_1 => absurd c_1 hc_0) (fun c_1 => ?_)
  refine lv_aload_n hx hb dX13_knows_55 rfl (lv_at hl 0 rfl) ?_
  refine va_get (D := (dC, dI)) (ci := 15) (v := .ref v0_70) (C := RX13) (T := TX13) (N := 196) hx hb hts iw_X13_knows_X13 hown hK hP 0 rfl rfl 70 (by decide) (hts (.fieldLink RX13 142 "LiquidTongueModel" "rKind" "[I") (by decide +kernel)) (fun _ h9 => h9) (zs_ne (by decide) hf0_70) dX13_knows_56 ?_
  refine lv_iload_n hx hb dX13_knows_59 rfl (lv_at hl 3 rfl) ?_
  refine va_iald hx hb hK hP 4 3 rfl rfl hi_4 dX13_knows_60 ?_
  refine lv_iconst (v := 5) hx hb dX13_knows_61 (by decide) ?_
  refine lv_icmp_ne (tgt := 69) hx hb dX13_knows_62 (by decide) (fun c_2 => ?_) (fun c_2 => absurd c_2 hc_1)
  refine lv_iconst (v := 0) hx hb dX13_knows_69 (by decide) ?_
  refine va_zast hx hb hK hP hD hS 5 4 rfl rfl hi_5 dX13_knows_70 (fun H locs hP hD hS => ?_)
  have hP : va_P (dC, dI) vwCl [(h0, .inr (15, (fs0.set 109 (.int (v0_109 + 1))))), (v0_103, .inl (c_v0_103, 12000, .inl (upd f_v0_103 (v0_109).toNatClampNeg p1))), (v0_104, .inl (c_v0_104, 12000, .inl (upd f_v0_104 (v0_109).toNatClampNeg p2))), (v0_105, .inl (c_v0_105, 12000, .inl (upd f_v0_105 (v0_109).toNatClampNeg p0))), (v0_70, .inl (c_v0_70, 40000, .inl f_v0_70)), (v0_101, .inl (c_v0_101, 1501, .inl (upd f_v0_101 (p1).toNatClampNeg (vp_nar .boolean 0)))), (v0_102, .inl (c_v0_102, 1501, .inl f_v0_102))] H := hP
  have hD : va_D A [(h0, .inr (15, (fs0.set 109 (.int (v0_109 + 1))))), (v0_103, .inl (c_v0_103, 12000, .inl (upd f_v0_103 (v0_109).toNatClampNeg p1))), (v0_104, .inl (c_v0_104, 12000, .inl (upd f_v0_104 (v0_109).toNatClampNeg p2))), (v0_105, .inl (c_v0_105, 12000, .inl (upd f_v0_105 (v0_109).toNatClampNeg p0))), (v0_70, .inl (c_v0_70, 40000, .inl f_v0_70)), (v0_101, .inl (c_v0_101, 1501, .inl (upd f_v0_101 (p1).toNatClampNeg (vp_nar .boolean 0)))), (v0_102, .inl (c_v0_102, 1501, .inl f_v0_102))] := hD
  refine lv_aload_n hx hb dX13_knows_71 rfl (lv_at hl 0 rfl) ?_
  refine va_get (D := (dC, dI)) (ci := 15) (v := .ref v0_102) (C := RX13) (T := TX13) (N := 196) hx hb hts iw_X13_knows_X13 hown hK hP 0 rfl rfl 102 (by decide) (hts (.fieldLink RX13 219 "LiquidTongueModel" "isSize" "[Z") (by decide +kernel)) (fun _ h9 => h9) (zs_ne (by decide) hf0_102) dX13_knows_72 ?_
  refine lv_iload_n hx hb dX13_knows_75 rfl (lv_at hl 2 rfl) ?_
  refine lv_aload_n hx hb dX13_knows_76 rfl (lv_at hl 0 rfl) ?_
  refine va_get (D := (dC, dI)) (ci := 15) (v := .ref v0_70) (C := RX13) (T := TX13) (N := 196) hx hb hts iw_X13_knows_X13 hown hK hP 0 rfl rfl 70 (by decide) (hts (.fieldLink RX13 142 "LiquidTongueModel" "rKind" "[I") (by decide +kernel)) (fun _ h9 => h9) (zs_ne (by decide) hf0_70) dX13_knows_77 ?_
  refine lv_iload_n hx hb dX13_knows_80 rfl (lv_at hl 3 rfl) ?_
  refine va_iald hx hb hK hP 4 3 rfl rfl hi_6 dX13_knows_81 ?_
  refine lv_iconst (v := 5) hx hb dX13_knows_82 (by decide) ?_
  refine lv_icmp_ne (tgt := 90) hx hb dX13_knows_83 (by decide) (fun c_3 => ?_) (fun c_3 => absurd c_3 hc_2)
  refine lv_iconst (v := 0) hx hb dX13_knows_90 (by decide) ?_
  refine va_zast hx hb hK hP hD hS 6 5 rfl rfl hi_7 dX13_knows_91 (fun H locs hP hD hS => ?_)
  have hP : va_P (dC, dI) vwCl [(h0, .inr (15, (fs0.set 109 (.int (v0_109 + 1))))), (v0_103, .inl (c_v0_103, 12000, .inl (upd f_v0_103 (v0_109).toNatClampNeg p1))), (v0_104, .inl (c_v0_104, 12000, .inl (upd f_v0_104 (v0_109).toNatClampNeg p2))), (v0_105, .inl (c_v0_105, 12000, .inl (upd f_v0_105 (v0_109).toNatClampNeg p0))), (v0_70, .inl (c_v0_70, 40000, .inl f_v0_70)), (v0_101, .inl (c_v0_101, 1501, .inl (upd f_v0_101 (p1).toNatClampNeg (vp_nar .boolean 0)))), (v0_102, .inl (c_v0_102, 1501, .inl (upd f_v0_102 (p1).toNatClampNeg (vp_nar .boolean 0))))] H := hP
  have hD : va_D A [(h0, .inr (15, (fs0.set 109 (.int (v0_109 + 1))))), (v0_103, .inl (c_v0_103, 12000, .inl (upd f_v0_103 (v0_109).toNatClampNeg p1))), (v0_104, .inl (c_v0_104, 12000, .inl (upd f_v0_104 (v0_109).toNatClampNeg p2))), (v0_105, .inl (c_v0_105, 12000, .inl (upd f_v0_105 (v0_109).toNatClampNeg p0))), (v0_70, .inl (c_v0_70, 40000, .inl f_v0_70)), (v0_101, .inl (c_v0_101, 1501, .inl (upd f_v0_101 (p1).toNatClampNeg (vp_nar .boolean 0)))), (v0_102, .inl (c_v0_102, 1501, .inl (upd f_v0_102 (p1).toNatClampNeg (vp_nar .boolean 0))))] := hD
  refine lv_aload_n hx hb dX13_knows_92 rfl (lv_at hl 0 rfl) ?_
  refine va_get (D := (dC, dI)) (ci := 15) (v := .int (v0_109 + 1)) (C := RX13) (T := TX13) (N := 196) hx hb hts iw_X13_knows_X13 hown hK hP 0 rfl rfl 109 (by decide) (hts (.fieldLink RX13 791 "LiquidTongueModel" "envs" "I") (by decide +kernel)) (fun _ h9 => h9) (zs_eq (zs_lt hl0 (by decide))) dX13_knows_93 ?_
  refine lv_iconst (v := 1) hx hb dX13_knows_96 (by decide) ?_
  refine lv_isub hx hb dX13_knows_97 ?_
  have hP9 := hP.sub (ws' := [(h0, .inr (15, (fs0.set 109 (.int (v0_109 + 1))))), (v0_103, .inl (c_v0_103, 12000, .inl (upd f_v0_103 (v0_109).toNatClampNeg p1))), (v0_104, .inl (c_v0_104, 12000, .inl (upd f_v0_104 (v0_109).toNatClampNeg p2))), (v0_105, .inl (c_v0_105, 12000, .inl (upd f_v0_105 (v0_109).toNatClampNeg p0))), (v0_70, .inl (c_v0_70, 40000, .inl f_v0_70)), (v0_101, .inl (c_v0_101, 1501, .inl (upd f_v0_101 (p1).toNatClampNeg (vp_nar .boolean 0)))), (v0_102, .inl (c_v0_102, 1501, .inl (upd f_v0_102 (p1).toNatClampNeg (vp_nar .boolean 0))))]) [0, 1, 2, 3, 4, 5, 6] rfl
  have hD9 := hD.sub (ws' := [(h0, .inr (15, (fs0.set 109 (.int (v0_109 + 1))))), (v0_103, .inl (c_v0_103, 12000, .inl (upd f_v0_103 (v0_109).toNatClampNeg p1))), (v0_104, .inl (c_v0_104, 12000, .inl (upd f_v0_104 (v0_109).toNatClampNeg p2))), (v0_105, .inl (c_v0_105, 12000, .inl (upd f_v0_105 (v0_109).toNatClampNeg p0))), (v0_70, .inl (c_v0_70, 40000, .inl f_v0_70)), (v0_101, .inl (c_v0_101, 1501, .inl (upd f_v0_101 (p1).toNatClampNeg (vp_nar .boolean 0)))), (v0_102, .inl (c_v0_102, 1501, .inl (upd f_v0_102 (p1).toNatClampNeg (vp_nar .boolean 0))))]) [0, 1, 2, 3, 4, 5, 6] (by decide) rfl
  have hK9 := hK.sub (tys' := [(c_v0_103, .int), (c_v0_104, .int), (c_v0_105, .int), (c_v0_70, .int), (c_v0_101, .boolean), (c_v0_102, .boolean)]) [0, 1, 2, 3, 4, 5] rfl
  exact W.iret (v := ((v0_109 + 1) - 1)) hx hb hr (fun t ht hW => ⟨⟨((v0_109 + 1) - 1), (), rfl, rfl, (zB_mk (by rw [ht]; exact hP9) (va_K.moved hW.alike hK9) hD9)⟩, hS.F ht⟩) hS.2.2 dX13_knows_98
set_option maxHeartbeats 4000000 in
set_option maxRecDepth 100000 in
/-- X13_knows, a road -/
theorem c_X13_knows_r3 (l : Launch) (dC : Nat → ClassId) (dI : Nat → Nat → Nat) (sz : Nat) (h0 : Nat) (fs0 : List Value) (p0 : Int32) (p1 : Int32) (p2 : Int32) (v0_103 : Nat) (v0_109 : Int32) (c_v0_103 : ClassId) (f_v0_103 : Nat → Int32) (v0_104 : Nat) (c_v0_104 : ClassId) (f_v0_104 : Nat → Int32) (v0_105 : Nat) (c_v0_105 : ClassId) (f_v0_105 : Nat → Int32) (v0_101 : Nat) (v0_70 : Nat) (c_v0_70 : ClassId) (f_v0_70 : Nat → Int32) (c_v0_101 : ClassId) (f_v0_101 : Nat → Int32) (v0_102 : Nat) (c_v0_102 : ClassId) (f_v0_102 : Nat → Int32) (hl0 : fs0.length = 196) (hf0_103 : fs0[103]? = some (.ref v0_103)) (hf0_109 : fs0[109]? = some (.int v0_109)) (hf0_104 : fs0[104]? = some (.ref v0_104)) (hf0_105 : fs0[105]? = some (.ref v0_105)) (hf0_101 : fs0[101]? = some (.ref v0_101)) (hf0_70 : fs0[70]? = some (.ref v0_70)) (hf0_102 : fs0[102]? = some (.ref v0_102)) (hi_0 : vp_in v0_109 12000) (hi_1 : vp_in v0_109 12000) (hi_2 : vp_in v0_109 12000) (hi_3 : vp_in p2 40000) (hi_4 : vp_in p2 40000) (hi_5 : vp_in p1 1501) (hi_6 : vp_in p2 40000) (hi_7 : vp_in p1 1501) (hc_0 : ¬ (f_v0_70 (p2).toNatClampNeg) = 3) (hc_1 : ¬ (f_v0_70 (p2).toNatClampNeg) = 5) (hc_2 : (f_v0_70 (p2).toNatClampNeg) = 5) : Met l yX13_knows wsX13_knows ({ frames := 0, cells := 0, slots := 0, locals := 0 }) (zPc dC dI sz [.ref h0, .int p0, .int p1, .int p2] [(h0, .inr (15, fs0)), (v0_103, .inl (c_v0_103, 12000, .inl f_v0_103)), (v0_104, .inl (c_v0_104, 12000, .inl f_v0_104)), (v0_105, .inl (c_v0_105, 12000, .inl f_v0_105)), (v0_70, .inl (c_v0_70, 40000, .inl f_v0_70)), (v0_101, .inl (c_v0_101, 1501, .inl f_v0_101)), (v0_102, .inl (c_v0_102, 1501, .inl f_v0_102))] [(c_v0_103, .int), (c_v0_104, .int), (c_v0_105, .int), (c_v0_70, .int), (c_v0_101, .boolean), (c_v0_102, .boolean)]) (va_Qi (fun (r : Int32) (_ : Unit) => r = ((v0_109 + 1) - 1)) (zB dC dI (fun _ => [(c_v0_103, .int), (c_v0_104, .int), (c_v0_105, .int), (c_v0_70, .int), (c_v0_101, .boolean), (c_v0_102, .boolean)]) (fun _ : Unit => [(h0, .inr (15, (fs0.set 109 (.int (v0_109 + 1))))), (v0_103, .inl (c_v0_103, 12000, .inl (upd f_v0_103 (v0_109).toNatClampNeg p1))), (v0_104, .inl (c_v0_104, 12000, .inl (upd f_v0_104 (v0_109).toNatClampNeg p2))), (v0_105, .inl (c_v0_105, 12000, .inl (upd f_v0_105 (v0_109).toNatClampNeg p0))), (v0_70, .inl (c_v0_70, 40000, .inl f_v0_70)), (v0_101, .inl (c_v0_101, 1501, .inl (upd f_v0_101 (p1).toNatClampNeg (vp_nar .boolean 0)))), (v0_102, .inl (c_v0_102, 1501, .inl (upd f_v0_102 (p1).toNatClampNeg (vp_nar .boolean 1))))]) (va_A [(h0, .inr (15, fs0)), (v0_103, .inl (c_v0_103, 12000, .inl f_v0_103)), (v0_104, .inl (c_v0_104, 12000, .inl f_v0_104)), (v0_105, .inl (c_v0_105, 12000, .inl f_v0_105)), (v0_70, .inl (c_v0_70, 40000, .inl f_v0_70)), (v0_101, .inl (c_v0_101, 1501, .inl f_v0_101)), (v0_102, .inl (c_v0_102, 1501, .inl f_v0_102))] sz)) (va_A [(h0, .inr (15, fs0)), (v0_103, .inl (c_v0_103, 12000, .inl f_v0_103)), (v0_104, .inl (c_v0_104, 12000, .inl f_v0_104)), (v0_105, .inl (c_v0_105, 12000, .inl f_v0_105)), (v0_70, .inl (c_v0_70, 40000, .inl f_v0_70)), (v0_101, .inl (c_v0_101, 1501, .inl f_v0_101)), (v0_102, .inl (c_v0_102, 1501, .inl f_v0_102))] sz)) 0 0 (va_A [(h0, .inr (15, fs0)), (v0_103, .inl (c_v0_103, 12000, .inl f_v0_103)), (v0_104, .inl (c_v0_104, 12000, .inl f_v0_104)), (v0_105, .inl (c_v0_105, 12000, .inl f_v0_105)), (v0_70, .inl (c_v0_70, 40000, .inl f_v0_70)), (v0_101, .inl (c_v0_101, 1501, .inl f_v0_101)), (v0_102, .inl (c_v0_102, 1501, .inl f_v0_102))] sz) := by
  refine Met.ofW (cc := cX13_knows) (maxL := 4) (ret := (some .int)) (by decide) rfl ?_
  intro p e s m args below meth c s₁ B hml hv
  obtain ⟨rfl, hsz, hP, hK, hD0⟩ := hv
  have hx := B.exec
  have hb := B.bytes
  have hr := B.returns
  have hts := atoms_spec (ws := wsX13_knows) B.pre
  have hown : s.vm.findClass RX13 = some m.cls := findClass_of_methodNamed B.named
  have hlocks := B.notSynchronized
  subst hsz
  have hD := hD0.self (sz := s.heap.size)
  generalize hAe : va_A [(h0, .inr (15, fs0)), (v0_103, .inl (c_v0_103, 12000, .inl f_v0_103)), (v0_104, .inl (c_v0_104, 12000, .inl f_v0_104)), (v0_105, .inl (c_v0_105, 12000, .inl f_v0_105)), (v0_70, .inl (c_v0_70, 40000, .inl f_v0_70)), (v0_101, .inl (c_v0_101, 1501, .inl f_v0_101)), (v0_102, .inl (c_v0_102, 1501, .inl f_v0_102))] s.heap.size = A at hD ⊢
  have hA : ∀ q : Nat, s.heap.size ≤ q → A q := fun q h => by rw [← hAe]; exact Or.inr h
  have hS : va_S A s.heap s.heap [] := va_S.rf
  have hP : va_P (dC, dI) vwCl [(h0, .inr (15, fs0)), (v0_103, .inl (c_v0_103, 12000, .inl f_v0_103)), (v0_104, .inl (c_v0_104, 12000, .inl f_v0_104)), (v0_105, .inl (c_v0_105, 12000, .inl f_v0_105)), (v0_70, .inl (c_v0_70, 40000, .inl f_v0_70)), (v0_101, .inl (c_v0_101, 1501, .inl f_v0_101)), (v0_102, .inl (c_v0_102, 1501, .inl f_v0_102))] s.heap := hP
  have hl := lv_entry ([.ref h0, .int p0, .int p1, .int p2]) (n := 4) (Nat.le_of_ble_eq_true rfl)
  rw [lg_entry_eq]
  generalize (lg_sl ([.ref h0, .int p0, .int p1, .int p2]) ++ List.replicate (4 - (lg_sl ([.ref h0, .int p0, .int p1, .int p2])).length) Slot.unset).toArray = ls at hl ⊢
  have hl : lv_has ls 4 [(0, .ref h0), (1, .int p0), (2, .int p1), (3, .int p2)] := hl
  refine lv_aload_n hx hb dX13_knows_0 rfl (lv_at hl 0 rfl) ?_
  refine va_get (D := (dC, dI)) (ci := 15) (v := .ref v0_103) (C := RX13) (T := TX13) (N := 196) hx hb hts iw_X13_knows_X13 hown hK hP 0 rfl rfl 103 (by decide) (hts (.fieldLink RX13 222 "LiquidTongueModel" "envName" "[I") (by decide +kernel)) (fun _ h9 => h9) hf0_103 dX13_knows_1 ?_
  refine lv_aload_n hx hb dX13_knows_4 rfl (lv_at hl 0 rfl) ?_
  refine va_get (D := (dC, dI)) (ci := 15) (v := .int v0_109) (C := RX13) (T := TX13) (N := 196) hx hb hts iw_X13_knows_X13 hown hK hP 0 rfl rfl 109 (by decide) (hts (.fieldLink RX13 791 "LiquidTongueModel" "envs" "I") (by decide +kernel)) (fun _ h9 => h9) hf0_109 dX13_knows_5 ?_
  refine lv_iload_n hx hb dX13_knows_8 rfl (lv_at hl 2 rfl) ?_
  refine va_iast hx hb hK hP hD hS 1 0 rfl rfl hi_0 dX13_knows_9 (fun H locs hP hD hS => ?_)
  have hP : va_P (dC, dI) vwCl [(h0, .inr (15, fs0)), (v0_103, .inl (c_v0_103, 12000, .inl (upd f_v0_103 (v0_109).toNatClampNeg p1))), (v0_104, .inl (c_v0_104, 12000, .inl f_v0_104)), (v0_105, .inl (c_v0_105, 12000, .inl f_v0_105)), (v0_70, .inl (c_v0_70, 40000, .inl f_v0_70)), (v0_101, .inl (c_v0_101, 1501, .inl f_v0_101)), (v0_102, .inl (c_v0_102, 1501, .inl f_v0_102))] H := hP
  have hD : va_D A [(h0, .inr (15, fs0)), (v0_103, .inl (c_v0_103, 12000, .inl (upd f_v0_103 (v0_109).toNatClampNeg p1))), (v0_104, .inl (c_v0_104, 12000, .inl f_v0_104)), (v0_105, .inl (c_v0_105, 12000, .inl f_v0_105)), (v0_70, .inl (c_v0_70, 40000, .inl f_v0_70)), (v0_101, .inl (c_v0_101, 1501, .inl f_v0_101)), (v0_102, .inl (c_v0_102, 1501, .inl f_v0_102))] := hD
  refine lv_aload_n hx hb dX13_knows_10 rfl (lv_at hl 0 rfl) ?_
  refine va_get (D := (dC, dI)) (ci := 15) (v := .ref v0_104) (C := RX13) (T := TX13) (N := 196) hx hb hts iw_X13_knows_X13 hown hK hP 0 rfl rfl 104 (by decide) (hts (.fieldLink RX13 225 "LiquidTongueModel" "envType" "[I") (by decide +kernel)) (fun _ h9 => h9) hf0_104 dX13_knows_11 ?_
  refine lv_aload_n hx hb dX13_knows_14 rfl (lv_at hl 0 rfl) ?_
  refine va_get (D := (dC, dI)) (ci := 15) (v := .int v0_109) (C := RX13) (T := TX13) (N := 196) hx hb hts iw_X13_knows_X13 hown hK hP 0 rfl rfl 109 (by decide) (hts (.fieldLink RX13 791 "LiquidTongueModel" "envs" "I") (by decide +kernel)) (fun _ h9 => h9) hf0_109 dX13_knows_15 ?_
  refine lv_iload_n hx hb dX13_knows_18 rfl (lv_at hl 3 rfl) ?_
  refine va_iast hx hb hK hP hD hS 2 1 rfl rfl hi_1 dX13_knows_19 (fun H locs hP hD hS => ?_)
  have hP : va_P (dC, dI) vwCl [(h0, .inr (15, fs0)), (v0_103, .inl (c_v0_103, 12000, .inl (upd f_v0_103 (v0_109).toNatClampNeg p1))), (v0_104, .inl (c_v0_104, 12000, .inl (upd f_v0_104 (v0_109).toNatClampNeg p2))), (v0_105, .inl (c_v0_105, 12000, .inl f_v0_105)), (v0_70, .inl (c_v0_70, 40000, .inl f_v0_70)), (v0_101, .inl (c_v0_101, 1501, .inl f_v0_101)), (v0_102, .inl (c_v0_102, 1501, .inl f_v0_102))] H := hP
  have hD : va_D A [(h0, .inr (15, fs0)), (v0_103, .inl (c_v0_103, 12000, .inl (upd f_v0_103 (v0_109).toNatClampNeg p1))), (v0_104, .inl (c_v0_104, 12000, .inl (upd f_v0_104 (v0_109).toNatClampNeg p2))), (v0_105, .inl (c_v0_105, 12000, .inl f_v0_105)), (v0_70, .inl (c_v0_70, 40000, .inl f_v0_70)), (v0_101, .inl (c_v0_101, 1501, .inl f_v0_101)), (v0_102, .inl (c_v0_102, 1501, .inl f_v0_102))] := hD
  refine lv_aload_n hx hb dX13_knows_20 rfl (lv_at hl 0 rfl) ?_
  refine va_get (D := (dC, dI)) (ci := 15) (v := .ref v0_105) (C := RX13) (T := TX13) (N := 196) hx hb hts iw_X13_knows_X13 hown hK hP 0 rfl rfl 105 (by decide) (hts (.fieldLink RX13 228 "LiquidTongueModel" "envBefore" "[I") (by decide +kernel)) (fun _ h9 => h9) hf0_105 dX13_knows_21 ?_
  refine lv_aload_n hx hb dX13_knows_24 rfl (lv_at hl 0 rfl) ?_
  refine va_get (D := (dC, dI)) (ci := 15) (v := .int v0_109) (C := RX13) (T := TX13) (N := 196) hx hb hts iw_X13_knows_X13 hown hK hP 0 rfl rfl 109 (by decide) (hts (.fieldLink RX13 791 "LiquidTongueModel" "envs" "I") (by decide +kernel)) (fun _ h9 => h9) hf0_109 dX13_knows_25 ?_
  refine lv_iload_n hx hb dX13_knows_28 rfl (lv_at hl 1 rfl) ?_
  refine va_iast hx hb hK hP hD hS 3 2 rfl rfl hi_2 dX13_knows_29 (fun H locs hP hD hS => ?_)
  have hP : va_P (dC, dI) vwCl [(h0, .inr (15, fs0)), (v0_103, .inl (c_v0_103, 12000, .inl (upd f_v0_103 (v0_109).toNatClampNeg p1))), (v0_104, .inl (c_v0_104, 12000, .inl (upd f_v0_104 (v0_109).toNatClampNeg p2))), (v0_105, .inl (c_v0_105, 12000, .inl (upd f_v0_105 (v0_109).toNatClampNeg p0))), (v0_70, .inl (c_v0_70, 40000, .inl f_v0_70)), (v0_101, .inl (c_v0_101, 1501, .inl f_v0_101)), (v0_102, .inl (c_v0_102, 1501, .inl f_v0_102))] H := hP
  have hD : va_D A [(h0, .inr (15, fs0)), (v0_103, .inl (c_v0_103, 12000, .inl (upd f_v0_103 (v0_109).toNatClampNeg p1))), (v0_104, .inl (c_v0_104, 12000, .inl (upd f_v0_104 (v0_109).toNatClampNeg p2))), (v0_105, .inl (c_v0_105, 12000, .inl (upd f_v0_105 (v0_109).toNatClampNeg p0))), (v0_70, .inl (c_v0_70, 40000, .inl f_v0_70)), (v0_101, .inl (c_v0_101, 1501, .inl f_v0_101)), (v0_102, .inl (c_v0_102, 1501, .inl f_v0_102))] := hD
  refine lv_aload_n hx hb dX13_knows_30 rfl (lv_at hl 0 rfl) ?_
  refine lv_dup hx hb dX13_knows_31 rfl ?_
  refine va_get (D := (dC, dI)) (ci := 15) (v := .int v0_109) (C := RX13) (T := TX13) (N := 196) hx hb hts iw_X13_knows_X13 hown hK hP 0 rfl rfl 109 (by decide) (hts (.fieldLink RX13 791 "LiquidTongueModel" "envs" "I") (by decide +kernel)) (fun _ h9 => h9) hf0_109 dX13_knows_32 ?_
  refine lv_iconst (v := 1) hx hb dX13_knows_35 (by decide) ?_
  refine lv_iadd hx hb dX13_knows_36 ?_
  refine va_put (D := (dC, dI)) (ci := 15) (v := .int (v0_109 + 1)) (ty := .int) (C := RX13) (T := TX13) (N := 196) hx hb hts iw_X13_knows_X13 tyX13 tyX13_ok nmX13 hown hK hP hD hS 0 rfl rfl 109 (by decide) (hts (.fieldLink RX13 791 "LiquidTongueModel" "envs" "I") (by decide +kernel)) (fun _ h9 => h9) rfl (by decide +kernel) rfl rfl (zs_lt hl0 (by decide)) dX13_knows_37 (fun H locs hP hD hS => ?_)
  have hP : va_P (dC, dI) vwCl [(h0, .inr (15, (fs0.set 109 (.int (v0_109 + 1))))), (v0_103, .inl (c_v0_103, 12000, .inl (upd f_v0_103 (v0_109).toNatClampNeg p1))), (v0_104, .inl (c_v0_104, 12000, .inl (upd f_v0_104 (v0_109).toNatClampNeg p2))), (v0_105, .inl (c_v0_105, 12000, .inl (upd f_v0_105 (v0_109).toNatClampNeg p0))), (v0_70, .inl (c_v0_70, 40000, .inl f_v0_70)), (v0_101, .inl (c_v0_101, 1501, .inl f_v0_101)), (v0_102, .inl (c_v0_102, 1501, .inl f_v0_102))] H := hP
  have hD : va_D A [(h0, .inr (15, (fs0.set 109 (.int (v0_109 + 1))))), (v0_103, .inl (c_v0_103, 12000, .inl (upd f_v0_103 (v0_109).toNatClampNeg p1))), (v0_104, .inl (c_v0_104, 12000, .inl (upd f_v0_104 (v0_109).toNatClampNeg p2))), (v0_105, .inl (c_v0_105, 12000, .inl (upd f_v0_105 (v0_109).toNatClampNeg p0))), (v0_70, .inl (c_v0_70, 40000, .inl f_v0_70)), (v0_101, .inl (c_v0_101, 1501, .inl f_v0_101)), (v0_102, .inl (c_v0_102, 1501, .inl f_v0_102))] := hD
  refine lv_aload_n hx hb dX13_knows_40 rfl (lv_at hl 0 rfl) ?_
  refine va_get (D := (dC, dI)) (ci := 15) (v := .ref v0_101) (C := RX13) (T := TX13) (N := 196) hx hb hts iw_X13_knows_X13 hown hK hP 0 rfl rfl 101 (by decide) (hts (.fieldLink RX13 216 "LiquidTongueModel" "isLength" "[Z") (by decide +kernel)) (fun _ h9 => h9) (zs_ne (by decide) hf0_101) dX13_knows_41 ?_
  refine lv_iload_n hx hb dX13_knows_44 rfl (lv_at hl 2 rfl) ?_
  refine lv_aload_n hx hb dX13_knows_45 rfl (lv_at hl 0 rfl) ?_
  refine va_get (D := (dC, dI)) (ci := 15) (v := .ref v0_70) (C := RX13) (T := TX13) (N := 196) hx hb hts iw_X13_knows_X13 hown hK hP 0 rfl rfl 70 (by decide) (hts (.fieldLink RX13 142 "LiquidTongueModel" "rKind" "[I") (by decide +kernel)) (fun _ h9 => h9) (zs_ne (by decide) hf0_70) dX13_knows_46 ?_
  refine lv_iload_n hx hb dX13_knows_49 rfl (lv_at hl 3 rfl) ?_
  refine va_iald hx hb hK hP 4 3 rfl rfl hi_3 dX13_knows_50 ?_
  refine lv_iconst (v := 3) hx hb dX13_knows_51 (by decide) ?_
  refine lv_icmp_eq (tgt := 65) hx hb dX13_knows_52 (by decide) (fun c_1 => absurd c_1 hc_0) (fun c_1 => ?_)
  refine lv_aload_n hx hb dX13_knows_55 rfl (lv_at hl 0 rfl) ?_
  refine va_get (D := (dC, dI)) (ci := 15) (v := .ref v0_70) (C := RX13) (T := TX13) (N := 196) hx hb hts iw_X13_knows_X13 hown hK hP 0 rfl rfl 70 (by decide) (hts (.fieldLink RX13 142 "LiquidTongueModel" "rKind" "[I") (by decide +kernel)) (fun _ h9 => h9) (zs_ne (by decide) hf0_70) dX13_knows_56 ?_
  refine lv_iload_n hx hb dX13_knows_59 rfl (lv_at hl 3 rfl) ?_
  refine va_iald hx hb hK hP 4 3 rfl rfl hi_4 dX13_knows_60 ?_
  refine lv_iconst (v := 5) hx hb dX13_knows_61 (by decide) ?_
  refine lv_icmp_ne (tgt := 69) hx hb dX13_knows_62 (by decide) (fun c_2 => ?_) (fun c_2 => absurd c_2 hc_1)
  refine lv_iconst (v := 0) hx hb dX13_knows_69 (by decide) ?_
  refine va_zast hx hb hK hP hD hS 5 4 rfl rfl hi_5 dX13_knows_70 (fun H locs hP hD hS => ?_)
  have hP : va_P (dC, dI) vwCl [(h0, .inr (15, (fs0.set 109 (.int (v0_109 + 1))))), (v0_103, .inl (c_v0_103, 12000, .inl (upd f_v0_103 (v0_109).toNatClampNeg p1))), (v0_104, .inl (c_v0_104, 12000, .inl (upd f_v0_104 (v0_109).toNatClampNeg p2))), (v0_105, .inl (c_v0_105, 12000, .inl (upd f_v0_105 (v0_109).toNatClampNeg p0))), (v0_70, .inl (c_v0_70, 40000, .inl f_v0_70)), (v0_101, .inl (c_v0_101, 1501, .inl (upd f_v0_101 (p1).toNatClampNeg (vp_nar .boolean 0)))), (v0_102, .inl (c_v0_102, 1501, .inl f_v0_102))] H := hP
  have hD : va_D A [(h0, .inr (15, (fs0.set 109 (.int (v0_109 + 1))))), (v0_103, .inl (c_v0_103, 12000, .inl (upd f_v0_103 (v0_109).toNatClampNeg p1))), (v0_104, .inl (c_v0_104, 12000, .inl (upd f_v0_104 (v0_109).toNatClampNeg p2))), (v0_105, .inl (c_v0_105, 12000, .inl (upd f_v0_105 (v0_109).toNatClampNeg p0))), (v0_70, .inl (c_v0_70, 40000, .inl f_v0_70)), (v0_101, .inl (c_v0_101, 1501, .inl (upd f_v0_101 (p1).toNatClampNeg (vp_nar .boolean 0)))), (v0_102, .inl (c_v0_102, 1501, .inl f_v0_102))] := hD
  refine lv_aload_n hx hb dX13_knows_71 rfl (lv_at hl 0 rfl) ?_
  refine va_get (D := (dC, dI)) (ci := 15) (v := .ref v0_102) (C := RX13) (T := TX13) (N := 196) hx hb hts iw_X13_knows_X13 hown hK hP 0 rfl rfl 102 (by decide) (hts (.fieldLink RX13 219 "LiquidTongueModel" "isSize" "[Z") (by decide +kernel)) (fun _ h9 => h9) (zs_ne (by decide) hf0_102) dX13_knows_72 ?_
  refine lv_iload_n hx hb dX13_knows_75 rfl (lv_at hl 2 rfl) ?_
  refine lv_aload_n hx hb dX13_knows_76 rfl (lv_at hl 0 rfl) ?_
  refine va_get (D := (dC, dI)) (ci := 15) (v := .ref v0_70) (C := RX13) (T := TX13) (N := 196) hx hb hts iw_X13_knows_X13 hown hK hP 0 rfl rfl 70 (by decide) (hts (.fieldLink RX13 142 "LiquidTongueModel" "rKind" "[I") (by decide +kernel)) (fun _ h9 => h9) (zs_ne (by decide) hf0_70) dX13_knows_77 ?_
  refine lv_iload_n hx hb dX13_knows_80 rfl (lv_at hl 3 rfl) ?_
  refine va_iald hx hb hK hP 4 3 rfl rfl hi_6 dX13_knows_81 ?_
  refine lv_iconst (v := 5) hx hb dX13_knows_82 (by decide) ?_
  refine lv_icmp_ne (tgt := 90) hx hb dX13_knows_83 (by decide) (fun c_3 => absurd hc_2 c_3) (fun c_3 => ?_)
  refine lv_iconst (v := 1) hx hb dX13_knows_86 (by decide) ?_
  refine lv_goto (tgt := 91) hx hb dX13_knows_87 (by decide) ?_
  refine va_zast hx hb hK hP hD hS 6 5 rfl rfl hi_7 dX13_knows_91 (fun H locs hP hD hS => ?_)
  have hP : va_P (dC, dI) vwCl [(h0, .inr (15, (fs0.set 109 (.int (v0_109 + 1))))), (v0_103, .inl (c_v0_103, 12000, .inl (upd f_v0_103 (v0_109).toNatClampNeg p1))), (v0_104, .inl (c_v0_104, 12000, .inl (upd f_v0_104 (v0_109).toNatClampNeg p2))), (v0_105, .inl (c_v0_105, 12000, .inl (upd f_v0_105 (v0_109).toNatClampNeg p0))), (v0_70, .inl (c_v0_70, 40000, .inl f_v0_70)), (v0_101, .inl (c_v0_101, 1501, .inl (upd f_v0_101 (p1).toNatClampNeg (vp_nar .boolean 0)))), (v0_102, .inl (c_v0_102, 1501, .inl (upd f_v0_102 (p1).toNatClampNeg (vp_nar .boolean 1))))] H := hP
  have hD : va_D A [(h0, .inr (15, (fs0.set 109 (.int (v0_109 + 1))))), (v0_103, .inl (c_v0_103, 12000, .inl (upd f_v0_103 (v0_109).toNatClampNeg p1))), (v0_104, .inl (c_v0_104, 12000, .inl (upd f_v0_104 (v0_109).toNatClampNeg p2))), (v0_105, .inl (c_v0_105, 12000, .inl (upd f_v0_105 (v0_109).toNatClampNeg p0))), (v0_70, .inl (c_v0_70, 40000, .inl f_v0_70)), (v0_101, .inl (c_v0_101, 1501, .inl (upd f_v0_101 (p1).toNatClampNeg (vp_nar .boolean 0)))), (v0_102, .inl (c_v0_102, 1501, .inl (upd f_v0_102 (p1).toNatClampNeg (vp_nar .boolean 1))))] := hD
  refine lv_aload_n hx hb dX13_knows_92 rfl (lv_at hl 0 rfl) ?_
  refine va_get (D := (dC, dI)) (ci := 15) (v := .int (v0_109 + 1)) (C := RX13) (T := TX13) (N := 196) hx hb hts iw_X13_knows_X13 hown hK hP 0 rfl rfl 109 (by decide) (hts (.fieldLink RX13 791 "LiquidTongueModel" "envs" "I") (by decide +kernel)) (fun _ h9 => h9) (zs_eq (zs_lt hl0 (by decide))) dX13_knows_93 ?_
  refine lv_iconst (v := 1) hx hb dX13_knows_96 (by decide) ?_
  refine lv_isub hx hb dX13_knows_97 ?_
  have hP9 := hP.sub (ws' := [(h0, .inr (15, (fs0.set 109 (.int (v0_109 + 1))))), (v0_103, .inl (c_v0_103, 12000, .inl (upd f_v0_103 (v0_109).toNatClampNeg p1))), (v0_104, .inl (c_v0_104, 12000, .inl (upd f_v0_104 (v0_109).toNatClampNeg p2))), (v0_105, .inl (c_v0_105, 12000, .inl (upd f_v0_105 (v0_109).toNatClampNeg p0))), (v0_70, .inl (c_v0_70, 40000, .inl f_v0_70)), (v0_101, .inl (c_v0_101, 1501, .inl (upd f_v0_101 (p1).toNatClampNeg (vp_nar .boolean 0)))), (v0_102, .inl (c_v0_102, 1501, .inl (upd f_v0_102 (p1).toNatClampNeg (vp_nar .boolean 1))))]) [0, 1, 2, 3, 4, 5, 6] rfl
  have hD9 := hD.sub (ws' := [(h0, .inr (15, (fs0.set 109 (.int (v0_109 + 1))))), (v0_103, .inl (c_v0_103, 12000, .inl (upd f_v0_103 (v0_109).toNatClampNeg p1))), (v0_104, .inl (c_v0_104, 12000, .inl (upd f_v0_104 (v0_109).toNatClampNeg p2))), (v0_105, .inl (c_v0_105, 12000, .inl (upd f_v0_105 (v0_109).toNatClampNeg p0))), (v0_70, .inl (c_v0_70, 40000, .inl f_v0_70)), (v0_101, .inl (c_v0_101, 1501, .inl (upd f_v0_101 (p1).toNatClampNeg (vp_nar .boolean 0)))), (v0_102, .inl (c_v0_102, 1501, .inl (upd f_v0_102 (p1).toNatClampNeg (vp_nar .boolean 1))))]) [0, 1, 2, 3, 4, 5, 6] (by decide) rfl
  have hK9 := hK.sub (tys' := [(c_v0_103, .int), (c_v0_104, .int), (c_v0_105, .int), (c_v0_70, .int), (c_v0_101, .boolean), (c_v0_102, .boolean)]) [0, 1, 2, 3, 4, 5] rfl
  exact W.iret (v := ((v0_109 + 1) - 1)) hx hb hr (fun t ht hW => ⟨⟨((v0_109 + 1) - 1), (), rfl, rfl, (zB_mk (by rw [ht]; exact hP9) (va_K.moved hW.alike hK9) hD9)⟩, hS.F ht⟩) hS.2.2 dX13_knows_98
set_option maxHeartbeats 4000000 in
set_option maxRecDepth 100000 in
/-- X13_knows, a road -/
theorem c_X13_knows_r4 (l : Launch) (dC : Nat → ClassId) (dI : Nat → Nat → Nat) (sz : Nat) (h0 : Nat) (fs0 : List Value) (p0 : Int32) (p1 : Int32) (p2 : Int32) (v0_103 : Nat) (v0_109 : Int32) (c_v0_103 : ClassId) (f_v0_103 : Nat → Int32) (v0_104 : Nat) (c_v0_104 : ClassId) (f_v0_104 : Nat → Int32) (v0_105 : Nat) (c_v0_105 : ClassId) (f_v0_105 : Nat → Int32) (v0_101 : Nat) (v0_70 : Nat) (c_v0_70 : ClassId) (f_v0_70 : Nat → Int32) (c_v0_101 : ClassId) (f_v0_101 : Nat → Int32) (v0_102 : Nat) (c_v0_102 : ClassId) (f_v0_102 : Nat → Int32) (hl0 : fs0.length = 196) (hf0_103 : fs0[103]? = some (.ref v0_103)) (hf0_109 : fs0[109]? = some (.int v0_109)) (hf0_104 : fs0[104]? = some (.ref v0_104)) (hf0_105 : fs0[105]? = some (.ref v0_105)) (hf0_101 : fs0[101]? = some (.ref v0_101)) (hf0_70 : fs0[70]? = some (.ref v0_70)) (hf0_102 : fs0[102]? = some (.ref v0_102)) (hi_0 : vp_in v0_109 12000) (hi_1 : vp_in v0_109 12000) (hi_2 : vp_in v0_109 12000) (hi_3 : vp_in p2 40000) (hi_4 : vp_in p2 40000) (hi_5 : vp_in p1 1501) (hi_6 : vp_in p2 40000) (hi_7 : vp_in p1 1501) (hc_0 : ¬ (f_v0_70 (p2).toNatClampNeg) = 3) (hc_1 : (f_v0_70 (p2).toNatClampNeg) = 5) (hc_2 : ¬ (f_v0_70 (p2).toNatClampNeg) = 5) : Met l yX13_knows wsX13_knows ({ frames := 0, cells := 0, slots := 0, locals := 0 }) (zPc dC dI sz [.ref h0, .int p0, .int p1, .int p2] [(h0, .inr (15, fs0)), (v0_103, .inl (c_v0_103, 12000, .inl f_v0_103)), (v0_104, .inl (c_v0_104, 12000, .inl f_v0_104)), (v0_105, .inl (c_v0_105, 12000, .inl f_v0_105)), (v0_70, .inl (c_v0_70, 40000, .inl f_v0_70)), (v0_101, .inl (c_v0_101, 1501, .inl f_v0_101)), (v0_102, .inl (c_v0_102, 1501, .inl f_v0_102))] [(c_v0_103, .int), (c_v0_104, .int), (c_v0_105, .int), (c_v0_70, .int), (c_v0_101, .boolean), (c_v0_102, .boolean)]) (va_Qi (fun (r : Int32) (_ : Unit) => r = ((v0_109 + 1) - 1)) (zB dC dI (fun _ => [(c_v0_103, .int), (c_v0_104, .int), (c_v0_105, .int), (c_v0_70, .int), (c_v0_101, .boolean), (c_v0_102, .boolean)]) (fun _ : Unit => [(h0, .inr (15, (fs0.set 109 (.int (v0_109 + 1))))), (v0_103, .inl (c_v0_103, 12000, .inl (upd f_v0_103 (v0_109).toNatClampNeg p1))), (v0_104, .inl (c_v0_104, 12000, .inl (upd f_v0_104 (v0_109).toNatClampNeg p2))), (v0_105, .inl (c_v0_105, 12000, .inl (upd f_v0_105 (v0_109).toNatClampNeg p0))), (v0_70, .inl (c_v0_70, 40000, .inl f_v0_70)), (v0_101, .inl (c_v0_101, 1501, .inl (upd f_v0_101 (p1).toNatClampNeg (vp_nar .boolean 1)))), (v0_102, .inl (c_v0_102, 1501, .inl (upd f_v0_102 (p1).toNatClampNeg (vp_nar .boolean 0))))]) (va_A [(h0, .inr (15, fs0)), (v0_103, .inl (c_v0_103, 12000, .inl f_v0_103)), (v0_104, .inl (c_v0_104, 12000, .inl f_v0_104)), (v0_105, .inl (c_v0_105, 12000, .inl f_v0_105)), (v0_70, .inl (c_v0_70, 40000, .inl f_v0_70)), (v0_101, .inl (c_v0_101, 1501, .inl f_v0_101)), (v0_102, .inl (c_v0_102, 1501, .inl f_v0_102))] sz)) (va_A [(h0, .inr (15, fs0)), (v0_103, .inl (c_v0_103, 12000, .inl f_v0_103)), (v0_104, .inl (c_v0_104, 12000, .inl f_v0_104)), (v0_105, .inl (c_v0_105, 12000, .inl f_v0_105)), (v0_70, .inl (c_v0_70, 40000, .inl f_v0_70)), (v0_101, .inl (c_v0_101, 1501, .inl f_v0_101)), (v0_102, .inl (c_v0_102, 1501, .inl f_v0_102))] sz)) 0 0 (va_A [(h0, .inr (15, fs0)), (v0_103, .inl (c_v0_103, 12000, .inl f_v0_103)), (v0_104, .inl (c_v0_104, 12000, .inl f_v0_104)), (v0_105, .inl (c_v0_105, 12000, .inl f_v0_105)), (v0_70, .inl (c_v0_70, 40000, .inl f_v0_70)), (v0_101, .inl (c_v0_101, 1501, .inl f_v0_101)), (v0_102, .inl (c_v0_102, 1501, .inl f_v0_102))] sz) := by
  refine Met.ofW (cc := cX13_knows) (maxL := 4) (ret := (some .int)) (by decide) rfl ?_
  intro p e s m args below meth c s₁ B hml hv
  obtain ⟨rfl, hsz, hP, hK, hD0⟩ := hv
  have hx := B.exec
  have hb := B.bytes
  have hr := B.returns
  have hts := atoms_spec (ws := wsX13_knows) B.pre
  have hown : s.vm.findClass RX13 = some m.cls := findClass_of_methodNamed B.named
  have hlocks := B.notSynchronized
  subst hsz
  have hD := hD0.self (sz := s.heap.size)
  generalize hAe : va_A [(h0, .inr (15, fs0)), (v0_103, .inl (c_v0_103, 12000, .inl f_v0_103)), (v0_104, .inl (c_v0_104, 12000, .inl f_v0_104)), (v0_105, .inl (c_v0_105, 12000, .inl f_v0_105)), (v0_70, .inl (c_v0_70, 40000, .inl f_v0_70)), (v0_101, .inl (c_v0_101, 1501, .inl f_v0_101)), (v0_102, .inl (c_v0_102, 1501, .inl f_v0_102))] s.heap.size = A at hD ⊢
  have hA : ∀ q : Nat, s.heap.size ≤ q → A q := fun q h => by rw [← hAe]; exact Or.inr h
  have hS : va_S A s.heap s.heap [] := va_S.rf
  have hP : va_P (dC, dI) vwCl [(h0, .inr (15, fs0)), (v0_103, .inl (c_v0_103, 12000, .inl f_v0_103)), (v0_104, .inl (c_v0_104, 12000, .inl f_v0_104)), (v0_105, .inl (c_v0_105, 12000, .inl f_v0_105)), (v0_70, .inl (c_v0_70, 40000, .inl f_v0_70)), (v0_101, .inl (c_v0_101, 1501, .inl f_v0_101)), (v0_102, .inl (c_v0_102, 1501, .inl f_v0_102))] s.heap := hP
  have hl := lv_entry ([.ref h0, .int p0, .int p1, .int p2]) (n := 4) (Nat.le_of_ble_eq_true rfl)
  rw [lg_entry_eq]
  generalize (lg_sl ([.ref h0, .int p0, .int p1, .int p2]) ++ List.replicate (4 - (lg_sl ([.ref h0, .int p0, .int p1, .int p2])).length) Slot.unset).toArray = ls at hl ⊢
  have hl : lv_has ls 4 [(0, .ref h0), (1, .int p0), (2, .int p1), (3, .int p2)] := hl
  refine lv_aload_n hx hb dX13_knows_0 rfl (lv_at hl 0 rfl) ?_
  refine va_get (D := (dC, dI)) (ci := 15) (v := .ref v0_103) (C := RX13) (T := TX13) (N := 196) hx hb hts iw_X13_knows_X13 hown hK hP 0 rfl rfl 103 (by decide) (hts (.fieldLink RX13 222 "LiquidTongueModel" "envName" "[I") (by decide +kernel)) (fun _ h9 => h9) hf0_103 dX13_knows_1 ?_
  refine lv_aload_n hx hb dX13_knows_4 rfl (lv_at hl 0 rfl) ?_
  refine va_get (D := (dC, dI)) (ci := 15) (v := .int v0_109) (C := RX13) (T := TX13) (N := 196) hx hb hts iw_X13_knows_X13 hown hK hP 0 rfl rfl 109 (by decide) (hts (.fieldLink RX13 791 "LiquidTongueModel" "envs" "I") (by decide +kernel)) (fun _ h9 => h9) hf0_109 dX13_knows_5 ?_
  refine lv_iload_n hx hb dX13_knows_8 rfl (lv_at hl 2 rfl) ?_
  refine va_iast hx hb hK hP hD hS 1 0 rfl rfl hi_0 dX13_knows_9 (fun H locs hP hD hS => ?_)
  have hP : va_P (dC, dI) vwCl [(h0, .inr (15, fs0)), (v0_103, .inl (c_v0_103, 12000, .inl (upd f_v0_103 (v0_109).toNatClampNeg p1))), (v0_104, .inl (c_v0_104, 12000, .inl f_v0_104)), (v0_105, .inl (c_v0_105, 12000, .inl f_v0_105)), (v0_70, .inl (c_v0_70, 40000, .inl f_v0_70)), (v0_101, .inl (c_v0_101, 1501, .inl f_v0_101)), (v0_102, .inl (c_v0_102, 1501, .inl f_v0_102))] H := hP
  have hD : va_D A [(h0, .inr (15, fs0)), (v0_103, .inl (c_v0_103, 12000, .inl (upd f_v0_103 (v0_109).toNatClampNeg p1))), (v0_104, .inl (c_v0_104, 12000, .inl f_v0_104)), (v0_105, .inl (c_v0_105, 12000, .inl f_v0_105)), (v0_70, .inl (c_v0_70, 40000, .inl f_v0_70)), (v0_101, .inl (c_v0_101, 1501, .inl f_v0_101)), (v0_102, .inl (c_v0_102, 1501, .inl f_v0_102))] := hD
  refine lv_aload_n hx hb dX13_knows_10 rfl (lv_at hl 0 rfl) ?_
  refine va_get (D := (dC, dI)) (ci := 15) (v := .ref v0_104) (C := RX13) (T := TX13) (N := 196) hx hb hts iw_X13_knows_X13 hown hK hP 0 rfl rfl 104 (by decide) (hts (.fieldLink RX13 225 "LiquidTongueModel" "envType" "[I") (by decide +kernel)) (fun _ h9 => h9) hf0_104 dX13_knows_11 ?_
  refine lv_aload_n hx hb dX13_knows_14 rfl (lv_at hl 0 rfl) ?_
  refine va_get (D := (dC, dI)) (ci := 15) (v := .int v0_109) (C := RX13) (T := TX13) (N := 196) hx hb hts iw_X13_knows_X13 hown hK hP 0 rfl rfl 109 (by decide) (hts (.fieldLink RX13 791 "LiquidTongueModel" "envs" "I") (by decide +kernel)) (fun _ h9 => h9) hf0_109 dX13_knows_15 ?_
  refine lv_iload_n hx hb dX13_knows_18 rfl (lv_at hl 3 rfl) ?_
  refine va_iast hx hb hK hP hD hS 2 1 rfl rfl hi_1 dX13_knows_19 (fun H locs hP hD hS => ?_)
  have hP : va_P (dC, dI) vwCl [(h0, .inr (15, fs0)), (v0_103, .inl (c_v0_103, 12000, .inl (upd f_v0_103 (v0_109).toNatClampNeg p1))), (v0_104, .inl (c_v0_104, 12000, .inl (upd f_v0_104 (v0_109).toNatClampNeg p2))), (v0_105, .inl (c_v0_105, 12000, .inl f_v0_105)), (v0_70, .inl (c_v0_70, 40000, .inl f_v0_70)), (v0_101, .inl (c_v0_101, 1501, .inl f_v0_101)), (v0_102, .inl (c_v0_102, 1501, .inl f_v0_102))] H := hP
  have hD : va_D A [(h0, .inr (15, fs0)), (v0_103, .inl (c_v0_103, 12000, .inl (upd f_v0_103 (v0_109).toNatClampNeg p1))), (v0_104, .inl (c_v0_104, 12000, .inl (upd f_v0_104 (v0_109).toNatClampNeg p2))), (v0_105, .inl (c_v0_105, 12000, .inl f_v0_105)), (v0_70, .inl (c_v0_70, 40000, .inl f_v0_70)), (v0_101, .inl (c_v0_101, 1501, .inl f_v0_101)), (v0_102, .inl (c_v0_102, 1501, .inl f_v0_102))] := hD
  refine lv_aload_n hx hb dX13_knows_20 rfl (lv_at hl 0 rfl) ?_
  refine va_get (D := (dC, dI)) (ci := 15) (v := .ref v0_105) (C := RX13) (T := TX13) (N := 196) hx hb hts iw_X13_knows_X13 hown hK hP 0 rfl rfl 105 (by decide) (hts (.fieldLink RX13 228 "LiquidTongueModel" "envBefore" "[I") (by decide +kernel)) (fun _ h9 => h9) hf0_105 dX13_knows_21 ?_
  refine lv_aload_n hx hb dX13_knows_24 rfl (lv_at hl 0 rfl) ?_
  refine va_get (D := (dC, dI)) (ci := 15) (v := .int v0_109) (C := RX13) (T := TX13) (N := 196) hx hb hts iw_X13_knows_X13 hown hK hP 0 rfl rfl 109 (by decide) (hts (.fieldLink RX13 791 "LiquidTongueModel" "envs" "I") (by decide +kernel)) (fun _ h9 => h9) hf0_109 dX13_knows_25 ?_
  refine lv_iload_n hx hb dX13_knows_28 rfl (lv_at hl 1 rfl) ?_
  refine va_iast hx hb hK hP hD hS 3 2 rfl rfl hi_2 dX13_knows_29 (fun H locs hP hD hS => ?_)
  have hP : va_P (dC, dI) vwCl [(h0, .inr (15, fs0)), (v0_103, .inl (c_v0_103, 12000, .inl (upd f_v0_103 (v0_109).toNatClampNeg p1))), (v0_104, .inl (c_v0_104, 12000, .inl (upd f_v0_104 (v0_109).toNatClampNeg p2))), (v0_105, .inl (c_v0_105, 12000, .inl (upd f_v0_105 (v0_109).toNatClampNeg p0))), (v0_70, .inl (c_v0_70, 40000, .inl f_v0_70)), (v0_101, .inl (c_v0_101, 1501, .inl f_v0_101)), (v0_102, .inl (c_v0_102, 1501, .inl f_v0_102))] H := hP
  have hD : va_D A [(h0, .inr (15, fs0)), (v0_103, .inl (c_v0_103, 12000, .inl (upd f_v0_103 (v0_109).toNatClampNeg p1))), (v0_104, .inl (c_v0_104, 12000, .inl (upd f_v0_104 (v0_109).toNatClampNeg p2))), (v0_105, .inl (c_v0_105, 12000, .inl (upd f_v0_105 (v0_109).toNatClampNeg p0))), (v0_70, .inl (c_v0_70, 40000, .inl f_v0_70)), (v0_101, .inl (c_v0_101, 1501, .inl f_v0_101)), (v0_102, .inl (c_v0_102, 1501, .inl f_v0_102))] := hD
  refine lv_aload_n hx hb dX13_knows_30 rfl (lv_at hl 0 rfl) ?_
  refine lv_dup hx hb dX13_knows_31 rfl ?_
  refine va_get (D := (dC, dI)) (ci := 15) (v := .int v0_109) (C := RX13) (T := TX13) (N := 196) hx hb hts iw_X13_knows_X13 hown hK hP 0 rfl rfl 109 (by decide) (hts (.fieldLink RX13 791 "LiquidTongueModel" "envs" "I") (by decide +kernel)) (fun _ h9 => h9) hf0_109 dX13_knows_32 ?_
  refine lv_iconst (v := 1) hx hb dX13_knows_35 (by decide) ?_
  refine lv_iadd hx hb dX13_knows_36 ?_
  refine va_put (D := (dC, dI)) (ci := 15) (v := .int (v0_109 + 1)) (ty := .int) (C := RX13) (T := TX13) (N := 196) hx hb hts iw_X13_knows_X13 tyX13 tyX13_ok nmX13 hown hK hP hD hS 0 rfl rfl 109 (by decide) (hts (.fieldLink RX13 791 "LiquidTongueModel" "envs" "I") (by decide +kernel)) (fun _ h9 => h9) rfl (by decide +kernel) rfl rfl (zs_lt hl0 (by decide)) dX13_knows_37 (fun H locs hP hD hS => ?_)
  have hP : va_P (dC, dI) vwCl [(h0, .inr (15, (fs0.set 109 (.int (v0_109 + 1))))), (v0_103, .inl (c_v0_103, 12000, .inl (upd f_v0_103 (v0_109).toNatClampNeg p1))), (v0_104, .inl (c_v0_104, 12000, .inl (upd f_v0_104 (v0_109).toNatClampNeg p2))), (v0_105, .inl (c_v0_105, 12000, .inl (upd f_v0_105 (v0_109).toNatClampNeg p0))), (v0_70, .inl (c_v0_70, 40000, .inl f_v0_70)), (v0_101, .inl (c_v0_101, 1501, .inl f_v0_101)), (v0_102, .inl (c_v0_102, 1501, .inl f_v0_102))] H := hP
  have hD : va_D A [(h0, .inr (15, (fs0.set 109 (.int (v0_109 + 1))))), (v0_103, .inl (c_v0_103, 12000, .inl (upd f_v0_103 (v0_109).toNatClampNeg p1))), (v0_104, .inl (c_v0_104, 12000, .inl (upd f_v0_104 (v0_109).toNatClampNeg p2))), (v0_105, .inl (c_v0_105, 12000, .inl (upd f_v0_105 (v0_109).toNatClampNeg p0))), (v0_70, .inl (c_v0_70, 40000, .inl f_v0_70)), (v0_101, .inl (c_v0_101, 1501, .inl f_v0_101)), (v0_102, .inl (c_v0_102, 1501, .inl f_v0_102))] := hD
  refine lv_aload_n hx hb dX13_knows_40 rfl (lv_at hl 0 rfl) ?_
  refine va_get (D := (dC, dI)) (ci := 15) (v := .ref v0_101) (C := RX13) (T := TX13) (N := 196) hx hb hts iw_X13_knows_X13 hown hK hP 0 rfl rfl 101 (by decide) (hts (.fieldLink RX13 216 "LiquidTongueModel" "isLength" "[Z") (by decide +kernel)) (fun _ h9 => h9) (zs_ne (by decide) hf0_101) dX13_knows_41 ?_
  refine lv_iload_n hx hb dX13_knows_44 rfl (lv_at hl 2 rfl) ?_
  refine lv_aload_n hx hb dX13_knows_45 rfl (lv_at hl 0 rfl) ?_
  refine va_get (D := (dC, dI)) (ci := 15) (v := .ref v0_70) (C := RX13) (T := TX13) (N := 196) hx hb hts iw_X13_knows_X13 hown hK hP 0 rfl rfl 70 (by decide) (hts (.fieldLink RX13 142 "LiquidTongueModel" "rKind" "[I") (by decide +kernel)) (fun _ h9 => h9) (zs_ne (by decide) hf0_70) dX13_knows_46 ?_
  refine lv_iload_n hx hb dX13_knows_49 rfl (lv_at hl 3 rfl) ?_
  refine va_iald hx hb hK hP 4 3 rfl rfl hi_3 dX13_knows_50 ?_
  refine lv_iconst (v := 3) hx hb dX13_knows_51 (by decide) ?_
  refine lv_icmp_eq (tgt := 65) hx hb dX13_knows_52 (by decide) (fun c_1 => absurd c_1 hc_0) (fun c_1 => ?_)
  refine lv_aload_n hx hb dX13_knows_55 rfl (lv_at hl 0 rfl) ?_
  refine va_get (D := (dC, dI)) (ci := 15) (v := .ref v0_70) (C := RX13) (T := TX13) (N := 196) hx hb hts iw_X13_knows_X13 hown hK hP 0 rfl rfl 70 (by decide) (hts (.fieldLink RX13 142 "LiquidTongueModel" "rKind" "[I") (by decide +kernel)) (fun _ h9 => h9) (zs_ne (by decide) hf0_70) dX13_knows_56 ?_
  refine lv_iload_n hx hb dX13_knows_59 rfl (lv_at hl 3 rfl) ?_
  refine va_iald hx hb hK hP 4 3 rfl rfl hi_4 dX13_knows_60 ?_
  refine lv_iconst (v := 5) hx hb dX13_knows_61 (by decide) ?_
  refine lv_icmp_ne (tgt := 69) hx hb dX13_knows_62 (by decide) (fun c_2 => absurd hc_1 c_2) (fun c_2 => ?_)
  refine lv_iconst (v := 1) hx hb dX13_knows_65 (by decide) ?_
  refine lv_goto (tgt := 70) hx hb dX13_knows_66 (by decide) ?_
  refine va_zast hx hb hK hP hD hS 5 4 rfl rfl hi_5 dX13_knows_70 (fun H locs hP hD hS => ?_)
  have hP : va_P (dC, dI) vwCl [(h0, .inr (15, (fs0.set 109 (.int (v0_109 + 1))))), (v0_103, .inl (c_v0_103, 12000, .inl (upd f_v0_103 (v0_109).toNatClampNeg p1))), (v0_104, .inl (c_v0_104, 12000, .inl (upd f_v0_104 (v0_109).toNatClampNeg p2))), (v0_105, .inl (c_v0_105, 12000, .inl (upd f_v0_105 (v0_109).toNatClampNeg p0))), (v0_70, .inl (c_v0_70, 40000, .inl f_v0_70)), (v0_101, .inl (c_v0_101, 1501, .inl (upd f_v0_101 (p1).toNatClampNeg (vp_nar .boolean 1)))), (v0_102, .inl (c_v0_102, 1501, .inl f_v0_102))] H := hP
  have hD : va_D A [(h0, .inr (15, (fs0.set 109 (.int (v0_109 + 1))))), (v0_103, .inl (c_v0_103, 12000, .inl (upd f_v0_103 (v0_109).toNatClampNeg p1))), (v0_104, .inl (c_v0_104, 12000, .inl (upd f_v0_104 (v0_109).toNatClampNeg p2))), (v0_105, .inl (c_v0_105, 12000, .inl (upd f_v0_105 (v0_109).toNatClampNeg p0))), (v0_70, .inl (c_v0_70, 40000, .inl f_v0_70)), (v0_101, .inl (c_v0_101, 1501, .inl (upd f_v0_101 (p1).toNatClampNeg (vp_nar .boolean 1)))), (v0_102, .inl (c_v0_102, 1501, .inl f_v0_102))] := hD
  refine lv_aload_n hx hb dX13_knows_71 rfl (lv_at hl 0 rfl) ?_
  refine va_get (D := (dC, dI)) (ci := 15) (v := .ref v0_102) (C := RX13) (T := TX13) (N := 196) hx hb hts iw_X13_knows_X13 hown hK hP 0 rfl rfl 102 (by decide) (hts (.fieldLink RX13 219 "LiquidTongueModel" "isSize" "[Z") (by decide +kernel)) (fun _ h9 => h9) (zs_ne (by decide) hf0_102) dX13_knows_72 ?_
  refine lv_iload_n hx hb dX13_knows_75 rfl (lv_at hl 2 rfl) ?_
  refine lv_aload_n hx hb dX13_knows_76 rfl (lv_at hl 0 rfl) ?_
  refine va_get (D := (dC, dI)) (ci := 15) (v := .ref v0_70) (C := RX13) (T := TX13) (N := 196) hx hb hts iw_X13_knows_X13 hown hK hP 0 rfl rfl 70 (by decide) (hts (.fieldLink RX13 142 "LiquidTongueModel" "rKind" "[I") (by decide +kernel)) (fun _ h9 => h9) (zs_ne (by decide) hf0_70) dX13_knows_77 ?_
  refine lv_iload_n hx hb dX13_knows_80 rfl (lv_at hl 3 rfl) ?_
  refine va_iald hx hb hK hP 4 3 rfl rfl hi_6 dX13_knows_81 ?_
  refine lv_iconst (v := 5) hx hb dX13_knows_82 (by decide) ?_
  refine lv_icmp_ne (tgt := 90) hx hb dX13_knows_83 (by decide) (fun c_3 => ?_) (fun c_3 => absurd c_3 hc_2)
  refine lv_iconst (v := 0) hx hb dX13_knows_90 (by decide) ?_
  refine va_zast hx hb hK hP hD hS 6 5 rfl rfl hi_7 dX13_knows_91 (fun H locs hP hD hS => ?_)
  have hP : va_P (dC, dI) vwCl [(h0, .inr (15, (fs0.set 109 (.int (v0_109 + 1))))), (v0_103, .inl (c_v0_103, 12000, .inl (upd f_v0_103 (v0_109).toNatClampNeg p1))), (v0_104, .inl (c_v0_104, 12000, .inl (upd f_v0_104 (v0_109).toNatClampNeg p2))), (v0_105, .inl (c_v0_105, 12000, .inl (upd f_v0_105 (v0_109).toNatClampNeg p0))), (v0_70, .inl (c_v0_70, 40000, .inl f_v0_70)), (v0_101, .inl (c_v0_101, 1501, .inl (upd f_v0_101 (p1).toNatClampNeg (vp_nar .boolean 1)))), (v0_102, .inl (c_v0_102, 1501, .inl (upd f_v0_102 (p1).toNatClampNeg (vp_nar .boolean 0))))] H := hP
  have hD : va_D A [(h0, .inr (15, (fs0.set 109 (.int (v0_109 + 1))))), (v0_103, .inl (c_v0_103, 12000, .inl (upd f_v0_103 (v0_109).toNatClampNeg p1))), (v0_104, .inl (c_v0_104, 12000, .inl (upd f_v0_104 (v0_109).toNatClampNeg p2))), (v0_105, .inl (c_v0_105, 12000, .inl (upd f_v0_105 (v0_109).toNatClampNeg p0))), (v0_70, .inl (c_v0_70, 40000, .inl f_v0_70)), (v0_101, .inl (c_v0_101, 1501, .inl (upd f_v0_101 (p1).toNatClampNeg (vp_nar .boolean 1)))), (v0_102, .inl (c_v0_102, 1501, .inl (upd f_v0_102 (p1).toNatClampNeg (vp_nar .boolean 0))))] := hD
  refine lv_aload_n hx hb dX13_knows_92 rfl (lv_at hl 0 rfl) ?_
  refine va_get (D := (dC, dI)) (ci := 15) (v := .int (v0_109 + 1)) (C := RX13) (T := TX13) (N := 196) hx hb hts iw_X13_knows_X13 hown hK hP 0 rfl rfl 109 (by decide) (hts (.fieldLink RX13 791 "LiquidTongueModel" "envs" "I") (by decide +kernel)) (fun _ h9 => h9) (zs_eq (zs_lt hl0 (by decide))) dX13_knows_93 ?_
  refine lv_iconst (v := 1) hx hb dX13_knows_96 (by decide) ?_
  refine lv_isub hx hb dX13_knows_97 ?_
  have hP9 := hP.sub (ws' := [(h0, .inr (15, (fs0.set 109 (.int (v0_109 + 1))))), (v0_103, .inl (c_v0_103, 12000, .inl (upd f_v0_103 (v0_109).toNatClampNeg p1))), (v0_104, .inl (c_v0_104, 12000, .inl (upd f_v0_104 (v0_109).toNatClampNeg p2))), (v0_105, .inl (c_v0_105, 12000, .inl (upd f_v0_105 (v0_109).toNatClampNeg p0))), (v0_70, .inl (c_v0_70, 40000, .inl f_v0_70)), (v0_101, .inl (c_v0_101, 1501, .inl (upd f_v0_101 (p1).toNatClampNeg (vp_nar .boolean 1)))), (v0_102, .inl (c_v0_102, 1501, .inl (upd f_v0_102 (p1).toNatClampNeg (vp_nar .boolean 0))))]) [0, 1, 2, 3, 4, 5, 6] rfl
  have hD9 := hD.sub (ws' := [(h0, .inr (15, (fs0.set 109 (.int (v0_109 + 1))))), (v0_103, .inl (c_v0_103, 12000, .inl (upd f_v0_103 (v0_109).toNatClampNeg p1))), (v0_104, .inl (c_v0_104, 12000, .inl (upd f_v0_104 (v0_109).toNatClampNeg p2))), (v0_105, .inl (c_v0_105, 12000, .inl (upd f_v0_105 (v0_109).toNatClampNeg p0))), (v0_70, .inl (c_v0_70, 40000, .inl f_v0_70)), (v0_101, .inl (c_v0_101, 1501, .inl (upd f_v0_101 (p1).toNatClampNeg (vp_nar .boolean 1)))), (v0_102, .inl (c_v0_102, 1501, .inl (upd f_v0_102 (p1).toNatClampNeg (vp_nar .boolean 0))))]) [0, 1, 2, 3, 4, 5, 6] (by decide) rfl
  have hK9 := hK.sub (tys' := [(c_v0_103, .int), (c_v0_104, .int), (c_v0_105, .int), (c_v0_70, .int), (c_v0_101, .boolean), (c_v0_102, .boolean)]) [0, 1, 2, 3, 4, 5] rfl
  exact W.iret (v := ((v0_109 + 1) - 1)) hx hb hr (fun t ht hW => ⟨⟨((v0_109 + 1) - 1), (), rfl, rfl, (zB_mk (by rw [ht]; exact hP9) (va_K.moved hW.alike hK9) hD9)⟩, hS.F ht⟩) hS.2.2 dX13_knows_98
set_option maxHeartbeats 4000000 in
set_option maxRecDepth 100000 in
/-- X13_knows, a road -/
theorem c_X13_knows_r5 (l : Launch) (dC : Nat → ClassId) (dI : Nat → Nat → Nat) (sz : Nat) (h0 : Nat) (fs0 : List Value) (p0 : Int32) (p1 : Int32) (p2 : Int32) (v0_103 : Nat) (v0_109 : Int32) (c_v0_103 : ClassId) (f_v0_103 : Nat → Int32) (v0_104 : Nat) (c_v0_104 : ClassId) (f_v0_104 : Nat → Int32) (v0_105 : Nat) (c_v0_105 : ClassId) (f_v0_105 : Nat → Int32) (v0_101 : Nat) (v0_70 : Nat) (c_v0_70 : ClassId) (f_v0_70 : Nat → Int32) (c_v0_101 : ClassId) (f_v0_101 : Nat → Int32) (v0_102 : Nat) (c_v0_102 : ClassId) (f_v0_102 : Nat → Int32) (hl0 : fs0.length = 196) (hf0_103 : fs0[103]? = some (.ref v0_103)) (hf0_109 : fs0[109]? = some (.int v0_109)) (hf0_104 : fs0[104]? = some (.ref v0_104)) (hf0_105 : fs0[105]? = some (.ref v0_105)) (hf0_101 : fs0[101]? = some (.ref v0_101)) (hf0_70 : fs0[70]? = some (.ref v0_70)) (hf0_102 : fs0[102]? = some (.ref v0_102)) (hi_0 : vp_in v0_109 12000) (hi_1 : vp_in v0_109 12000) (hi_2 : vp_in v0_109 12000) (hi_3 : vp_in p2 40000) (hi_4 : vp_in p2 40000) (hi_5 : vp_in p1 1501) (hi_6 : vp_in p2 40000) (hi_7 : vp_in p1 1501) (hc_0 : ¬ (f_v0_70 (p2).toNatClampNeg) = 3) (hc_1 : (f_v0_70 (p2).toNatClampNeg) = 5) (hc_2 : (f_v0_70 (p2).toNatClampNeg) = 5) : Met l yX13_knows wsX13_knows ({ frames := 0, cells := 0, slots := 0, locals := 0 }) (zPc dC dI sz [.ref h0, .int p0, .int p1, .int p2] [(h0, .inr (15, fs0)), (v0_103, .inl (c_v0_103, 12000, .inl f_v0_103)), (v0_104, .inl (c_v0_104, 12000, .inl f_v0_104)), (v0_105, .inl (c_v0_105, 12000, .inl f_v0_105)), (v0_70, .inl (c_v0_70, 40000, .inl f_v0_70)), (v0_101, .inl (c_v0_101, 1501, .inl f_v0_101)), (v0_102, .inl (c_v0_102, 1501, .inl f_v0_102))] [(c_v0_103, .int), (c_v0_104, .int), (c_v0_105, .int), (c_v0_70, .int), (c_v0_101, .boolean), (c_v0_102, .boolean)]) (va_Qi (fun (r : Int32) (_ : Unit) => r = ((v0_109 + 1) - 1)) (zB dC dI (fun _ => [(c_v0_103, .int), (c_v0_104, .int), (c_v0_105, .int), (c_v0_70, .int), (c_v0_101, .boolean), (c_v0_102, .boolean)]) (fun _ : Unit => [(h0, .inr (15, (fs0.set 109 (.int (v0_109 + 1))))), (v0_103, .inl (c_v0_103, 12000, .inl (upd f_v0_103 (v0_109).toNatClampNeg p1))), (v0_104, .inl (c_v0_104, 12000, .inl (upd f_v0_104 (v0_109).toNatClampNeg p2))), (v0_105, .inl (c_v0_105, 12000, .inl (upd f_v0_105 (v0_109).toNatClampNeg p0))), (v0_70, .inl (c_v0_70, 40000, .inl f_v0_70)), (v0_101, .inl (c_v0_101, 1501, .inl (upd f_v0_101 (p1).toNatClampNeg (vp_nar .boolean 1)))), (v0_102, .inl (c_v0_102, 1501, .inl (upd f_v0_102 (p1).toNatClampNeg (vp_nar .boolean 1))))]) (va_A [(h0, .inr (15, fs0)), (v0_103, .inl (c_v0_103, 12000, .inl f_v0_103)), (v0_104, .inl (c_v0_104, 12000, .inl f_v0_104)), (v0_105, .inl (c_v0_105, 12000, .inl f_v0_105)), (v0_70, .inl (c_v0_70, 40000, .inl f_v0_70)), (v0_101, .inl (c_v0_101, 1501, .inl f_v0_101)), (v0_102, .inl (c_v0_102, 1501, .inl f_v0_102))] sz)) (va_A [(h0, .inr (15, fs0)), (v0_103, .inl (c_v0_103, 12000, .inl f_v0_103)), (v0_104, .inl (c_v0_104, 12000, .inl f_v0_104)), (v0_105, .inl (c_v0_105, 12000, .inl f_v0_105)), (v0_70, .inl (c_v0_70, 40000, .inl f_v0_70)), (v0_101, .inl (c_v0_101, 1501, .inl f_v0_101)), (v0_102, .inl (c_v0_102, 1501, .inl f_v0_102))] sz)) 0 0 (va_A [(h0, .inr (15, fs0)), (v0_103, .inl (c_v0_103, 12000, .inl f_v0_103)), (v0_104, .inl (c_v0_104, 12000, .inl f_v0_104)), (v0_105, .inl (c_v0_105, 12000, .inl f_v0_105)), (v0_70, .inl (c_v0_70, 40000, .inl f_v0_70)), (v0_101, .inl (c_v0_101, 1501, .inl f_v0_101)), (v0_102, .inl (c_v0_102, 1501, .inl f_v0_102))] sz) := by
  refine Met.ofW (cc := cX13_knows) (maxL := 4) (ret := (some .int)) (by decide) rfl ?_
  intro p e s m args below meth c s₁ B hml hv
  obtain ⟨rfl, hsz, hP, hK, hD0⟩ := hv
  have hx := B.exec
  have hb := B.bytes
  have hr := B.returns
  have hts := atoms_spec (ws := wsX13_knows) B.pre
  have hown : s.vm.findClass RX13 = some m.cls := findClass_of_methodNamed B.named
  have hlocks := B.notSynchronized
  subst hsz
  have hD := hD0.self (sz := s.heap.size)
  generalize hAe : va_A [(h0, .inr (15, fs0)), (v0_103, .inl (c_v0_103, 12000, .inl f_v0_103)), (v0_104, .inl (c_v0_104, 12000, .inl f_v0_104)), (v0_105, .inl (c_v0_105, 12000, .inl f_v0_105)), (v0_70, .inl (c_v0_70, 40000, .inl f_v0_70)), (v0_101, .inl (c_v0_101, 1501, .inl f_v0_101)), (v0_102, .inl (c_v0_102, 1501, .inl f_v0_102))] s.heap.size = A at hD ⊢
  have hA : ∀ q : Nat, s.heap.size ≤ q → A q := fun q h => by rw [← hAe]; exact Or.inr h
  have hS : va_S A s.heap s.heap [] := va_S.rf
  have hP : va_P (dC, dI) vwCl [(h0, .inr (15, fs0)), (v0_103, .inl (c_v0_103, 12000, .inl f_v0_103)), (v0_104, .inl (c_v0_104, 12000, .inl f_v0_104)), (v0_105, .inl (c_v0_105, 12000, .inl f_v0_105)), (v0_70, .inl (c_v0_70, 40000, .inl f_v0_70)), (v0_101, .inl (c_v0_101, 1501, .inl f_v0_101)), (v0_102, .inl (c_v0_102, 1501, .inl f_v0_102))] s.heap := hP
  have hl := lv_entry ([.ref h0, .int p0, .int p1, .int p2]) (n := 4) (Nat.le_of_ble_eq_true rfl)
  rw [lg_entry_eq]
  generalize (lg_sl ([.ref h0, .int p0, .int p1, .int p2]) ++ List.replicate (4 - (lg_sl ([.ref h0, .int p0, .int p1, .int p2])).length) Slot.unset).toArray = ls at hl ⊢
  have hl : lv_has ls 4 [(0, .ref h0), (1, .int p0), (2, .int p1), (3, .int p2)] := hl
  refine lv_aload_n hx hb dX13_knows_0 rfl (lv_at hl 0 rfl) ?_
  refine va_get (D := (dC, dI)) (ci := 15) (v := .ref v0_103) (C := RX13) (T := TX13) (N := 196) hx hb hts iw_X13_knows_X13 hown hK hP 0 rfl rfl 103 (by decide) (hts (.fieldLink RX13 222 "LiquidTongueModel" "envName" "[I") (by decide +kernel)) (fun _ h9 => h9) hf0_103 dX13_knows_1 ?_
  refine lv_aload_n hx hb dX13_knows_4 rfl (lv_at hl 0 rfl) ?_
  refine va_get (D := (dC, dI)) (ci := 15) (v := .int v0_109) (C := RX13) (T := TX13) (N := 196) hx hb hts iw_X13_knows_X13 hown hK hP 0 rfl rfl 109 (by decide) (hts (.fieldLink RX13 791 "LiquidTongueModel" "envs" "I") (by decide +kernel)) (fun _ h9 => h9) hf0_109 dX13_knows_5 ?_
  refine lv_iload_n hx hb dX13_knows_8 rfl (lv_at hl 2 rfl) ?_
  refine va_iast hx hb hK hP hD hS 1 0 rfl rfl hi_0 dX13_knows_9 (fun H locs hP hD hS => ?_)
  have hP : va_P (dC, dI) vwCl [(h0, .inr (15, fs0)), (v0_103, .inl (c_v0_103, 12000, .inl (upd f_v0_103 (v0_109).toNatClampNeg p1))), (v0_104, .inl (c_v0_104, 12000, .inl f_v0_104)), (v0_105, .inl (c_v0_105, 12000, .inl f_v0_105)), (v0_70, .inl (c_v0_70, 40000, .inl f_v0_70)), (v0_101, .inl (c_v0_101, 1501, .inl f_v0_101)), (v0_102, .inl (c_v0_102, 1501, .inl f_v0_102))] H := hP
  have hD : va_D A [(h0, .inr (15, fs0)), (v0_103, .inl (c_v0_103, 12000, .inl (upd f_v0_103 (v0_109).toNatClampNeg p1))), (v0_104, .inl (c_v0_104, 12000, .inl f_v0_104)), (v0_105, .inl (c_v0_105, 12000, .inl f_v0_105)), (v0_70, .inl (c_v0_70, 40000, .inl f_v0_70)), (v0_101, .inl (c_v0_101, 1501, .inl f_v0_101)), (v0_102, .inl (c_v0_102, 1501, .inl f_v0_102))] := hD
  refine lv_aload_n hx hb dX13_knows_10 rfl (lv_at hl 0 rfl) ?_
  refine va_get (D := (dC, dI)) (ci := 15) (v := .ref v0_104) (C := RX13) (T := TX13) (N := 196) hx hb hts iw_X13_knows_X13 hown hK hP 0 rfl rfl 104 (by decide) (hts (.fieldLink RX13 225 "LiquidTongueModel" "envType" "[I") (by decide +kernel)) (fun _ h9 => h9) hf0_104 dX13_knows_11 ?_
  refine lv_aload_n hx hb dX13_knows_14 rfl (lv_at hl 0 rfl) ?_
  refine va_get (D := (dC, dI)) (ci := 15) (v := .int v0_109) (C := RX13) (T := TX13) (N := 196) hx hb hts iw_X13_knows_X13 hown hK hP 0 rfl rfl 109 (by decide) (hts (.fieldLink RX13 791 "LiquidTongueModel" "envs" "I") (by decide +kernel)) (fun _ h9 => h9) hf0_109 dX13_knows_15 ?_
  refine lv_iload_n hx hb dX13_knows_18 rfl (lv_at hl 3 rfl) ?_
  refine va_iast hx hb hK hP hD hS 2 1 rfl rfl hi_1 dX13_knows_19 (fun H locs hP hD hS => ?_)
  have hP : va_P (dC, dI) vwCl [(h0, .inr (15, fs0)), (v0_103, .inl (c_v0_103, 12000, .inl (upd f_v0_103 (v0_109).toNatClampNeg p1))), (v0_104, .inl (c_v0_104, 12000, .inl (upd f_v0_104 (v0_109).toNatClampNeg p2))), (v0_105, .inl (c_v0_105, 12000, .inl f_v0_105)), (v0_70, .inl (c_v0_70, 40000, .inl f_v0_70)), (v0_101, .inl (c_v0_101, 1501, .inl f_v0_101)), (v0_102, .inl (c_v0_102, 1501, .inl f_v0_102))] H := hP
  have hD : va_D A [(h0, .inr (15, fs0)), (v0_103, .inl (c_v0_103, 12000, .inl (upd f_v0_103 (v0_109).toNatClampNeg p1))), (v0_104, .inl (c_v0_104, 12000, .inl (upd f_v0_104 (v0_109).toNatClampNeg p2))), (v0_105, .inl (c_v0_105, 12000, .inl f_v0_105)), (v0_70, .inl (c_v0_70, 40000, .inl f_v0_70)), (v0_101, .inl (c_v0_101, 1501, .inl f_v0_101)), (v0_102, .inl (c_v0_102, 1501, .inl f_v0_102))] := hD
  refine lv_aload_n hx hb dX13_knows_20 rfl (lv_at hl 0 rfl) ?_
  refine va_get (D := (dC, dI)) (ci := 15) (v := .ref v0_105) (C := RX13) (T := TX13) (N := 196) hx hb hts iw_X13_knows_X13 hown hK hP 0 rfl rfl 105 (by decide) (hts (.fieldLink RX13 228 "LiquidTongueModel" "envBefore" "[I") (by decide +kernel)) (fun _ h9 => h9) hf0_105 dX13_knows_21 ?_
  refine lv_aload_n hx hb dX13_knows_24 rfl (lv_at hl 0 rfl) ?_
  refine va_get (D := (dC, dI)) (ci := 15) (v := .int v0_109) (C := RX13) (T := TX13) (N := 196) hx hb hts iw_X13_knows_X13 hown hK hP 0 rfl rfl 109 (by decide) (hts (.fieldLink RX13 791 "LiquidTongueModel" "envs" "I") (by decide +kernel)) (fun _ h9 => h9) hf0_109 dX13_knows_25 ?_
  refine lv_iload_n hx hb dX13_knows_28 rfl (lv_at hl 1 rfl) ?_
  refine va_iast hx hb hK hP hD hS 3 2 rfl rfl hi_2 dX13_knows_29 (fun H locs hP hD hS => ?_)
  have hP : va_P (dC, dI) vwCl [(h0, .inr (15, fs0)), (v0_103, .inl (c_v0_103, 12000, .inl (upd f_v0_103 (v0_109).toNatClampNeg p1))), (v0_104, .inl (c_v0_104, 12000, .inl (upd f_v0_104 (v0_109).toNatClampNeg p2))), (v0_105, .inl (c_v0_105, 12000, .inl (upd f_v0_105 (v0_109).toNatClampNeg p0))), (v0_70, .inl (c_v0_70, 40000, .inl f_v0_70)), (v0_101, .inl (c_v0_101, 1501, .inl f_v0_101)), (v0_102, .inl (c_v0_102, 1501, .inl f_v0_102))] H := hP
  have hD : va_D A [(h0, .inr (15, fs0)), (v0_103, .inl (c_v0_103, 12000, .inl (upd f_v0_103 (v0_109).toNatClampNeg p1))), (v0_104, .inl (c_v0_104, 12000, .inl (upd f_v0_104 (v0_109).toNatClampNeg p2))), (v0_105, .inl (c_v0_105, 12000, .inl (upd f_v0_105 (v0_109).toNatClampNeg p0))), (v0_70, .inl (c_v0_70, 40000, .inl f_v0_70)), (v0_101, .inl (c_v0_101, 1501, .inl f_v0_101)), (v0_102, .inl (c_v0_102, 1501, .inl f_v0_102))] := hD
  refine lv_aload_n hx hb dX13_knows_30 rfl (lv_at hl 0 rfl) ?_
  refine lv_dup hx hb dX13_knows_31 rfl ?_
  refine va_get (D := (dC, dI)) (ci := 15) (v := .int v0_109) (C := RX13) (T := TX13) (N := 196) hx hb hts iw_X13_knows_X13 hown hK hP 0 rfl rfl 109 (by decide) (hts (.fieldLink RX13 791 "LiquidTongueModel" "envs" "I") (by decide +kernel)) (fun _ h9 => h9) hf0_109 dX13_knows_32 ?_
  refine lv_iconst (v := 1) hx hb dX13_knows_35 (by decide) ?_
  refine lv_iadd hx hb dX13_knows_36 ?_
  refine va_put (D := (dC, dI)) (ci := 15) (v := .int (v0_109 + 1)) (ty := .int) (C := RX13) (T := TX13) (N := 196) hx hb hts iw_X13_knows_X13 tyX13 tyX13_ok nmX13 hown hK hP hD hS 0 rfl rfl 109 (by decide) (hts (.fieldLink RX13 791 "LiquidTongueModel" "envs" "I") (by decide +kernel)) (fun _ h9 => h9) rfl (by decide +kernel) rfl rfl (zs_lt hl0 (by decide)) dX13_knows_37 (fun H locs hP hD hS => ?_)
  have hP : va_P (dC, dI) vwCl [(h0, .inr (15, (fs0.set 109 (.int (v0_109 + 1))))), (v0_103, .inl (c_v0_103, 12000, .inl (upd f_v0_103 (v0_109).toNatClampNeg p1))), (v0_104, .inl (c_v0_104, 12000, .inl (upd f_v0_104 (v0_109).toNatClampNeg p2))), (v0_105, .inl (c_v0_105, 12000, .inl (upd f_v0_105 (v0_109).toNatClampNeg p0))), (v0_70, .inl (c_v0_70, 40000, .inl f_v0_70)), (v0_101, .inl (c_v0_101, 1501, .inl f_v0_101)), (v0_102, .inl (c_v0_102, 1501, .inl f_v0_102))] H := hP
  have hD : va_D A [(h0, .inr (15, (fs0.set 109 (.int (v0_109 + 1))))), (v0_103, .inl (c_v0_103, 12000, .inl (upd f_v0_103 (v0_109).toNatClampNeg p1))), (v0_104, .inl (c_v0_104, 12000, .inl (upd f_v0_104 (v0_109).toNatClampNeg p2))), (v0_105, .inl (c_v0_105, 12000, .inl (upd f_v0_105 (v0_109).toNatClampNeg p0))), (v0_70, .inl (c_v0_70, 40000, .inl f_v0_70)), (v0_101, .inl (c_v0_101, 1501, .inl f_v0_101)), (v0_102, .inl (c_v0_102, 1501, .inl f_v0_102))] := hD
  refine lv_aload_n hx hb dX13_knows_40 rfl (lv_at hl 0 rfl) ?_
  refine va_get (D := (dC, dI)) (ci := 15) (v := .ref v0_101) (C := RX13) (T := TX13) (N := 196) hx hb hts iw_X13_knows_X13 hown hK hP 0 rfl rfl 101 (by decide) (hts (.fieldLink RX13 216 "LiquidTongueModel" "isLength" "[Z") (by decide +kernel)) (fun _ h9 => h9) (zs_ne (by decide) hf0_101) dX13_knows_41 ?_
  refine lv_iload_n hx hb dX13_knows_44 rfl (lv_at hl 2 rfl) ?_
  refine lv_aload_n hx hb dX13_knows_45 rfl (lv_at hl 0 rfl) ?_
  refine va_get (D := (dC, dI)) (ci := 15) (v := .ref v0_70) (C := RX13) (T := TX13) (N := 196) hx hb hts iw_X13_knows_X13 hown hK hP 0 rfl rfl 70 (by decide) (hts (.fieldLink RX13 142 "LiquidTongueModel" "rKind" "[I") (by decide +kernel)) (fun _ h9 => h9) (zs_ne (by decide) hf0_70) dX13_knows_46 ?_
  refine lv_iload_n hx hb dX13_knows_49 rfl (lv_at hl 3 rfl) ?_
  refine va_iald hx hb hK hP 4 3 rfl rfl hi_3 dX13_knows_50 ?_
  refine lv_iconst (v := 3) hx hb dX13_knows_51 (by decide) ?_
  refine lv_icmp_eq (tgt := 65) hx hb dX13_knows_52 (by decide) (fun c_1 => absurd c_1 hc_0) (fun c_1 => ?_)
  refine lv_aload_n hx hb dX13_knows_55 rfl (lv_at hl 0 rfl) ?_
  refine va_get (D := (dC, dI)) (ci := 15) (v := .ref v0_70) (C := RX13) (T := TX13) (N := 196) hx hb hts iw_X13_knows_X13 hown hK hP 0 rfl rfl 70 (by decide) (hts (.fieldLink RX13 142 "LiquidTongueModel" "rKind" "[I") (by decide +kernel)) (fun _ h9 => h9) (zs_ne (by decide) hf0_70) dX13_knows_56 ?_
  refine lv_iload_n hx hb dX13_knows_59 rfl (lv_at hl 3 rfl) ?_
  refine va_iald hx hb hK hP 4 3 rfl rfl hi_4 dX13_knows_60 ?_
  refine lv_iconst (v := 5) hx hb dX13_knows_61 (by decide) ?_
  refine lv_icmp_ne (tgt := 69) hx hb dX13_knows_62 (by decide) (fun c_2 => absurd hc_1 c_2) (fun c_2 => ?_)
  refine lv_iconst (v := 1) hx hb dX13_knows_65 (by decide) ?_
  refine lv_goto (tgt := 70) hx hb dX13_knows_66 (by decide) ?_
  refine va_zast hx hb hK hP hD hS 5 4 rfl rfl hi_5 dX13_knows_70 (fun H locs hP hD hS => ?_)
  have hP : va_P (dC, dI) vwCl [(h0, .inr (15, (fs0.set 109 (.int (v0_109 + 1))))), (v0_103, .inl (c_v0_103, 12000, .inl (upd f_v0_103 (v0_109).toNatClampNeg p1))), (v0_104, .inl (c_v0_104, 12000, .inl (upd f_v0_104 (v0_109).toNatClampNeg p2))), (v0_105, .inl (c_v0_105, 12000, .inl (upd f_v0_105 (v0_109).toNatClampNeg p0))), (v0_70, .inl (c_v0_70, 40000, .inl f_v0_70)), (v0_101, .inl (c_v0_101, 1501, .inl (upd f_v0_101 (p1).toNatClampNeg (vp_nar .boolean 1)))), (v0_102, .inl (c_v0_102, 1501, .inl f_v0_102))] H := hP
  have hD : va_D A [(h0, .inr (15, (fs0.set 109 (.int (v0_109 + 1))))), (v0_103, .inl (c_v0_103, 12000, .inl (upd f_v0_103 (v0_109).toNatClampNeg p1))), (v0_104, .inl (c_v0_104, 12000, .inl (upd f_v0_104 (v0_109).toNatClampNeg p2))), (v0_105, .inl (c_v0_105, 12000, .inl (upd f_v0_105 (v0_109).toNatClampNeg p0))), (v0_70, .inl (c_v0_70, 40000, .inl f_v0_70)), (v0_101, .inl (c_v0_101, 1501, .inl (upd f_v0_101 (p1).toNatClampNeg (vp_nar .boolean 1)))), (v0_102, .inl (c_v0_102, 1501, .inl f_v0_102))] := hD
  refine lv_aload_n hx hb dX13_knows_71 rfl (lv_at hl 0 rfl) ?_
  refine va_get (D := (dC, dI)) (ci := 15) (v := .ref v0_102) (C := RX13) (T := TX13) (N := 196) hx hb hts iw_X13_knows_X13 hown hK hP 0 rfl rfl 102 (by decide) (hts (.fieldLink RX13 219 "LiquidTongueModel" "isSize" "[Z") (by decide +kernel)) (fun _ h9 => h9) (zs_ne (by decide) hf0_102) dX13_knows_72 ?_
  refine lv_iload_n hx hb dX13_knows_75 rfl (lv_at hl 2 rfl) ?_
  refine lv_aload_n hx hb dX13_knows_76 rfl (lv_at hl 0 rfl) ?_
  refine va_get (D := (dC, dI)) (ci := 15) (v := .ref v0_70) (C := RX13) (T := TX13) (N := 196) hx hb hts iw_X13_knows_X13 hown hK hP 0 rfl rfl 70 (by decide) (hts (.fieldLink RX13 142 "LiquidTongueModel" "rKind" "[I") (by decide +kernel)) (fun _ h9 => h9) (zs_ne (by decide) hf0_70) dX13_knows_77 ?_
  refine lv_iload_n hx hb dX13_knows_80 rfl (lv_at hl 3 rfl) ?_
  refine va_iald hx hb hK hP 4 3 rfl rfl hi_6 dX13_knows_81 ?_
  refine lv_iconst (v := 5) hx hb dX13_knows_82 (by decide) ?_
  refine lv_icmp_ne (tgt := 90) hx hb dX13_knows_83 (by decide) (fun c_3 => absurd hc_2 c_3) (fun c_3 => ?_)
  refine lv_iconst (v := 1) hx hb dX13_knows_86 (by decide) ?_
  refine lv_goto (tgt := 91) hx hb dX13_knows_87 (by decide) ?_
  refine va_zast hx hb hK hP hD hS 6 5 rfl rfl hi_7 dX13_knows_91 (fun H locs hP hD hS => ?_)
  have hP : va_P (dC, dI) vwCl [(h0, .inr (15, (fs0.set 109 (.int (v0_109 + 1))))), (v0_103, .inl (c_v0_103, 12000, .inl (upd f_v0_103 (v0_109).toNatClampNeg p1))), (v0_104, .inl (c_v0_104, 12000, .inl (upd f_v0_104 (v0_109).toNatClampNeg p2))), (v0_105, .inl (c_v0_105, 12000, .inl (upd f_v0_105 (v0_109).toNatClampNeg p0))), (v0_70, .inl (c_v0_70, 40000, .inl f_v0_70)), (v0_101, .inl (c_v0_101, 1501, .inl (upd f_v0_101 (p1).toNatClampNeg (vp_nar .boolean 1)))), (v0_102, .inl (c_v0_102, 1501, .inl (upd f_v0_102 (p1).toNatClampNeg (vp_nar .boolean 1))))] H := hP
  have hD : va_D A [(h0, .inr (15, (fs0.set 109 (.int (v0_109 + 1))))), (v0_103, .inl (c_v0_103, 12000, .inl (upd f_v0_103 (v0_109).toNatClampNeg p1))), (v0_104, .inl (c_v0_104, 12000, .inl (upd f_v0_104 (v0_109).toNatClampNeg p2))), (v0_105, .inl (c_v0_105, 12000, .inl (upd f_v0_105 (v0_109).toNatClampNeg p0))), (v0_70, .inl (c_v0_70, 40000, .inl f_v0_70)), (v0_101, .inl (c_v0_101, 1501, .inl (upd f_v0_101 (p1).toNatClampNeg (vp_nar .boolean 1)))), (v0_102, .inl (c_v0_102, 1501, .inl (upd f_v0_102 (p1).toNatClampNeg (vp_nar .boolean 1))))] := hD
  refine lv_aload_n hx hb dX13_knows_92 rfl (lv_at hl 0 rfl) ?_
  refine va_get (D := (dC, dI)) (ci := 15) (v := .int (v0_109 + 1)) (C := RX13) (T := TX13) (N := 196) hx hb hts iw_X13_knows_X13 hown hK hP 0 rfl rfl 109 (by decide) (hts (.fieldLink RX13 791 "LiquidTongueModel" "envs" "I") (by decide +kernel)) (fun _ h9 => h9) (zs_eq (zs_lt hl0 (by decide))) dX13_knows_93 ?_
  refine lv_iconst (v := 1) hx hb dX13_knows_96 (by decide) ?_
  refine lv_isub hx hb dX13_knows_97 ?_
  have hP9 := hP.sub (ws' := [(h0, .inr (15, (fs0.set 109 (.int (v0_109 + 1))))), (v0_103, .inl (c_v0_103, 12000, .inl (upd f_v0_103 (v0_109).toNatClampNeg p1))), (v0_104, .inl (c_v0_104, 12000, .inl (upd f_v0_104 (v0_109).toNatClampNeg p2))), (v0_105, .inl (c_v0_105, 12000, .inl (upd f_v0_105 (v0_109).toNatClampNeg p0))), (v0_70, .inl (c_v0_70, 40000, .inl f_v0_70)), (v0_101, .inl (c_v0_101, 1501, .inl (upd f_v0_101 (p1).toNatClampNeg (vp_nar .boolean 1)))), (v0_102, .inl (c_v0_102, 1501, .inl (upd f_v0_102 (p1).toNatClampNeg (vp_nar .boolean 1))))]) [0, 1, 2, 3, 4, 5, 6] rfl
  have hD9 := hD.sub (ws' := [(h0, .inr (15, (fs0.set 109 (.int (v0_109 + 1))))), (v0_103, .inl (c_v0_103, 12000, .inl (upd f_v0_103 (v0_109).toNatClampNeg p1))), (v0_104, .inl (c_v0_104, 12000, .inl (upd f_v0_104 (v0_109).toNatClampNeg p2))), (v0_105, .inl (c_v0_105, 12000, .inl (upd f_v0_105 (v0_109).toNatClampNeg p0))), (v0_70, .inl (c_v0_70, 40000, .inl f_v0_70)), (v0_101, .inl (c_v0_101, 1501, .inl (upd f_v0_101 (p1).toNatClampNeg (vp_nar .boolean 1)))), (v0_102, .inl (c_v0_102, 1501, .inl (upd f_v0_102 (p1).toNatClampNeg (vp_nar .boolean 1))))]) [0, 1, 2, 3, 4, 5, 6] (by decide) rfl
  have hK9 := hK.sub (tys' := [(c_v0_103, .int), (c_v0_104, .int), (c_v0_105, .int), (c_v0_70, .int), (c_v0_101, .boolean), (c_v0_102, .boolean)]) [0, 1, 2, 3, 4, 5] rfl
  exact W.iret (v := ((v0_109 + 1) - 1)) hx hb hr (fun t ht hW => ⟨⟨((v0_109 + 1) - 1), (), rfl, rfl, (zB_mk (by rw [ht]; exact hP9) (va_K.moved hW.alike hK9) hD9)⟩, hS.F ht⟩) hS.2.2 dX13_knows_98
set_option maxHeartbeats 4000000 in
set_option maxRecDepth 100000 in
/-- X13_lower, a road -/
theorem c_X13_lower_r0 (l : Launch) (dC : Nat → ClassId) (dI : Nat → Nat → Nat) (sz : Nat) (h0 : Nat) (fs0 : List Value) (p0 : Nat) (p1 : Int32) (p2 : Int32) (p3 : Int64) (n_p0 : Nat) (c_p0 : ClassId) (f_p0 : Nat → Int64) (hl0 : fs0.length = 196) (hi_0 : vp_in ((160 * p1) + p2) n_p0) (hc_0 : 0 ≤ (lg_cmp p3 (f_p0 (((160 * p1) + p2)).toNatClampNeg))) : Met l yX13_lower wsX13_lower ({ frames := 0, cells := 0, slots := 0, locals := 0 }) (zPc dC dI sz [.ref h0, .ref p0, .int p1, .int p2, .long p3] [(h0, .inr (15, fs0)), (p0, .inl (c_p0, n_p0, .inr (.inl f_p0)))] [(c_p0, .long)]) (va_Qv (fun _ : Unit => True) (zB dC dI (fun _ => [(c_p0, .long)]) (fun _ : Unit => [(h0, .inr (15, fs0)), (p0, .inl (c_p0, n_p0, .inr (.inl f_p0)))]) (va_A [(h0, .inr (15, fs0)), (p0, .inl (c_p0, n_p0, .inr (.inl f_p0)))] sz)) (va_A [(h0, .inr (15, fs0)), (p0, .inl (c_p0, n_p0, .inr (.inl f_p0)))] sz)) 0 0 (va_A [(h0, .inr (15, fs0)), (p0, .inl (c_p0, n_p0, .inr (.inl f_p0)))] sz) := by
  refine Met.ofW (cc := cX13_lower) (maxL := 6) (ret := none) (by decide) rfl ?_
  intro p e s m args below meth c s₁ B hml hv
  obtain ⟨rfl, hsz, hP, hK, hD0⟩ := hv
  have hx := B.exec
  have hb := B.bytes
  have hr := B.returns
  have hts := atoms_spec (ws := wsX13_lower) B.pre
  have hown : s.vm.findClass RX13 = some m.cls := findClass_of_methodNamed B.named
  have hlocks := B.notSynchronized
  subst hsz
  have hD := hD0.self (sz := s.heap.size)
  generalize hAe : va_A [(h0, .inr (15, fs0)), (p0, .inl (c_p0, n_p0, .inr (.inl f_p0)))] s.heap.size = A at hD ⊢
  have hA : ∀ q : Nat, s.heap.size ≤ q → A q := fun q h => by rw [← hAe]; exact Or.inr h
  have hS : va_S A s.heap s.heap [] := va_S.rf
  have hP : va_P (dC, dI) vwCl [(h0, .inr (15, fs0)), (p0, .inl (c_p0, n_p0, .inr (.inl f_p0)))] s.heap := hP
  have hl := lv_entry ([.ref h0, .ref p0, .int p1, .int p2, .long p3]) (n := 6) (Nat.le_of_ble_eq_true rfl)
  rw [lg_entry_eq]
  generalize (lg_sl ([.ref h0, .ref p0, .int p1, .int p2, .long p3]) ++ List.replicate (6 - (lg_sl ([.ref h0, .ref p0, .int p1, .int p2, .long p3])).length) Slot.unset).toArray = ls at hl ⊢
  have hl : lv_has ls 6 [(0, .ref h0), (1, .ref p0), (2, .int p1), (3, .int p2), (4, .long p3)] := hl
  refine lv_lload hx hb dX13_lower_0 (lv_at hl 4 rfl) ?_
  refine lv_aload_n hx hb dX13_lower_2 rfl (lv_at hl 1 rfl) ?_
  refine lv_sipush (v := 160) hx hb dX13_lower_3 (by decide) ?_
  refine lv_iload_n hx hb dX13_lower_6 rfl (lv_at hl 2 rfl) ?_
  refine lv_imul hx hb dX13_lower_7 ?_
  refine lv_iload_n hx hb dX13_lower_8 rfl (lv_at hl 3 rfl) ?_
  refine lv_iadd hx hb dX13_lower_9 ?_
  refine va_lald hx hb hK hP 1 0 rfl rfl hi_0 dX13_lower_10 ?_
  refine W.lcmp hx hb dX13_lower_11 ?_
  refine lv_if_ge (tgt := 26) hx hb dX13_lower_12 (by decide) (fun c_1 => ?_) (fun c_1 => absurd hc_0 c_1)
  have hP9 := hP.sub (ws' := [(h0, .inr (15, fs0)), (p0, .inl (c_p0, n_p0, .inr (.inl f_p0)))]) [0, 1] rfl
  have hD9 := hD.sub (ws' := [(h0, .inr (15, fs0)), (p0, .inl (c_p0, n_p0, .inr (.inl f_p0)))]) [0, 1] (by decide) rfl
  have hK9 := hK.sub (tys' := [(c_p0, .long)]) [0] rfl
  exact W.vret hx hb hr (fun t ht hW => ⟨⟨(), rfl, trivial, (zB_mk (by rw [ht]; exact hP9) (va_K.moved hW.alike hK9) hD9)⟩, hS.F ht⟩) hS.2.2 dX13_lower_26
set_option maxHeartbeats 4000000 in
set_option maxRecDepth 100000 in
/-- X13_lower, a road -/
theorem c_X13_lower_r1 (l : Launch) (dC : Nat → ClassId) (dI : Nat → Nat → Nat) (sz : Nat) (h0 : Nat) (fs0 : List Value) (p0 : Nat) (p1 : Int32) (p2 : Int32) (p3 : Int64) (n_p0 : Nat) (c_p0 : ClassId) (f_p0 : Nat → Int64) (hl0 : fs0.length = 196) (hi_0 : vp_in ((160 * p1) + p2) n_p0) (hi_1 : vp_in ((160 * p1) + p2) n_p0) (hc_0 : ¬ 0 ≤ (lg_cmp p3 (f_p0 (((160 * p1) + p2)).toNatClampNeg))) : Met l yX13_lower wsX13_lower ({ frames := 0, cells := 0, slots := 0, locals := 0 }) (zPc dC dI sz [.ref h0, .ref p0, .int p1, .int p2, .long p3] [(h0, .inr (15, fs0)), (p0, .inl (c_p0, n_p0, .inr (.inl f_p0)))] [(c_p0, .long)]) (va_Qv (fun _ : Unit => True) (zB dC dI (fun _ => [(c_p0, .long)]) (fun _ : Unit => [(h0, .inr (15, fs0)), (p0, .inl (c_p0, n_p0, .inr (.inl (vp_updL f_p0 (((160 * p1) + p2)).toNatClampNeg p3))))]) (va_A [(h0, .inr (15, fs0)), (p0, .inl (c_p0, n_p0, .inr (.inl f_p0)))] sz)) (va_A [(h0, .inr (15, fs0)), (p0, .inl (c_p0, n_p0, .inr (.inl f_p0)))] sz)) 0 0 (va_A [(h0, .inr (15, fs0)), (p0, .inl (c_p0, n_p0, .inr (.inl f_p0)))] sz) := by
  refine Met.ofW (cc := cX13_lower) (maxL := 6) (ret := none) (by decide) rfl ?_
  intro p e s m args below meth c s₁ B hml hv
  obtain ⟨rfl, hsz, hP, hK, hD0⟩ := hv
  have hx := B.exec
  have hb := B.bytes
  have hr := B.returns
  have hts := atoms_spec (ws := wsX13_lower) B.pre
  have hown : s.vm.findClass RX13 = some m.cls := findClass_of_methodNamed B.named
  have hlocks := B.notSynchronized
  subst hsz
  have hD := hD0.self (sz := s.heap.size)
  generalize hAe : va_A [(h0, .inr (15, fs0)), (p0, .inl (c_p0, n_p0, .inr (.inl f_p0)))] s.heap.size = A at hD ⊢
  have hA : ∀ q : Nat, s.heap.size ≤ q → A q := fun q h => by rw [← hAe]; exact Or.inr h
  have hS : va_S A s.heap s.heap [] := va_S.rf
  have hP : va_P (dC, dI) vwCl [(h0, .inr (15, fs0)), (p0, .inl (c_p0, n_p0, .inr (.inl f_p0)))] s.heap := hP
  have hl := lv_entry ([.ref h0, .ref p0, .int p1, .int p2, .long p3]) (n := 6) (Nat.le_of_ble_eq_true rfl)
  rw [lg_entry_eq]
  generalize (lg_sl ([.ref h0, .ref p0, .int p1, .int p2, .long p3]) ++ List.replicate (6 - (lg_sl ([.ref h0, .ref p0, .int p1, .int p2, .long p3])).length) Slot.unset).toArray = ls at hl ⊢
  have hl : lv_has ls 6 [(0, .ref h0), (1, .ref p0), (2, .int p1), (3, .int p2), (4, .long p3)] := hl
  refine lv_lload hx hb dX13_lower_0 (lv_at hl 4 rfl) ?_
  refine lv_aload_n hx hb dX13_lower_2 rfl (lv_at hl 1 rfl) ?_
  refine lv_sipush (v := 160) hx hb dX13_lower_3 (by decide) ?_
  refine lv_iload_n hx hb dX13_lower_6 rfl (lv_at hl 2 rfl) ?_
  refine lv_imul hx hb dX13_lower_7 ?_
  refine lv_iload_n hx hb dX13_lower_8 rfl (lv_at hl 3 rfl) ?_
  refine lv_iadd hx hb dX13_lower_9 ?_
  refine va_lald hx hb hK hP 1 0 rfl rfl hi_0 dX13_lower_10 ?_
  refine W.lcmp hx hb dX13_lower_11 ?_
  refine lv_if_ge (tgt := 26) hx hb dX13_lower_12 (by decide) (fun c_1 => absurd c_1 hc_0) (fun c_1 => ?_)
  refine lv_aload_n hx hb dX13_lower_15 rfl (lv_at hl 1 rfl) ?_
  refine lv_sipush (v := 160) hx hb dX13_lower_16 (by decide) ?_
  refine lv_iload_n hx hb dX13_lower_19 rfl (lv_at hl 2 rfl) ?_
  refine lv_imul hx hb dX13_lower_20 ?_
  refine lv_iload_n hx hb dX13_lower_21 rfl (lv_at hl 3 rfl) ?_
  refine lv_iadd hx hb dX13_lower_22 ?_
  refine lv_lload hx hb dX13_lower_23 (lv_at hl 4 rfl) ?_
  refine va_last hx hb hK hP hD hS 1 0 rfl rfl hi_1 dX13_lower_25 (fun H locs hP hD hS => ?_)
  have hP : va_P (dC, dI) vwCl [(h0, .inr (15, fs0)), (p0, .inl (c_p0, n_p0, .inr (.inl (vp_updL f_p0 (((160 * p1) + p2)).toNatClampNeg p3))))] H := hP
  have hD : va_D A [(h0, .inr (15, fs0)), (p0, .inl (c_p0, n_p0, .inr (.inl (vp_updL f_p0 (((160 * p1) + p2)).toNatClampNeg p3))))] := hD
  have hP9 := hP.sub (ws' := [(h0, .inr (15, fs0)), (p0, .inl (c_p0, n_p0, .inr (.inl (vp_updL f_p0 (((160 * p1) + p2)).toNatClampNeg p3))))]) [0, 1] rfl
  have hD9 := hD.sub (ws' := [(h0, .inr (15, fs0)), (p0, .inl (c_p0, n_p0, .inr (.inl (vp_updL f_p0 (((160 * p1) + p2)).toNatClampNeg p3))))]) [0, 1] (by decide) rfl
  have hK9 := hK.sub (tys' := [(c_p0, .long)]) [0] rfl
  exact W.vret hx hb hr (fun t ht hW => ⟨⟨(), rfl, trivial, (zB_mk (by rw [ht]; exact hP9) (va_K.moved hW.alike hK9) hD9)⟩, hS.F ht⟩) hS.2.2 dX13_lower_26
theorem iw_X13_mustBeSo_X13 : ∀ w ∈ wsX130, w ∈ wsX13_mustBeSo := fun w h => List.mem_cons_of_mem _ (List.mem_append_right _ h)
set_option maxHeartbeats 4000000 in
set_option maxRecDepth 100000 in
/-- X13_mustBeSo, a road -/
theorem c_X13_mustBeSo_r0 (l : Launch) (dC : Nat → ClassId) (dI : Nat → Nat → Nat) (sz : Nat) (h0 : Nat) (fs0 : List Value) (p0 : Int32) (p1 : Int32) (p2 : Int32) (p3 : Int32) (p4 : Int32) (p5 : Int32) (v0_117 : Nat) (v0_123 : Int32) (c_v0_117 : ClassId) (f_v0_117 : Nat → Int32) (v0_118 : Nat) (c_v0_118 : ClassId) (f_v0_118 : Nat → Int32) (v0_119 : Nat) (c_v0_119 : ClassId) (f_v0_119 : Nat → Int32) (v0_120 : Nat) (c_v0_120 : ClassId) (f_v0_120 : Nat → Int32) (v0_121 : Nat) (c_v0_121 : ClassId) (f_v0_121 : Nat → Int32) (v0_122 : Nat) (c_v0_122 : ClassId) (f_v0_122 : Nat → Int32) (hl0 : fs0.length = 196) (hf0_117 : fs0[117]? = some (.ref v0_117)) (hf0_123 : fs0[123]? = some (.int v0_123)) (hf0_118 : fs0[118]? = some (.ref v0_118)) (hf0_119 : fs0[119]? = some (.ref v0_119)) (hf0_120 : fs0[120]? = some (.ref v0_120)) (hf0_121 : fs0[121]? = some (.ref v0_121)) (hf0_122 : fs0[122]? = some (.ref v0_122)) (hi_0 : vp_in v0_123 2100) (hi_1 : vp_in v0_123 2100) (hi_2 : vp_in v0_123 2100) (hi_3 : vp_in v0_123 2100) (hi_4 : vp_in v0_123 2100) (hi_5 : vp_in v0_123 2100) : Met l yX13_mustBeSo wsX13_mustBeSo ({ frames := 0, cells := 0, slots := 0, locals := 0 }) (zPc dC dI sz [.ref h0, .int p0, .int p1, .int p2, .int p3, .int p4, .int p5] [(h0, .inr (15, fs0)), (v0_117, .inl (c_v0_117, 2100, .inl f_v0_117)), (v0_118, .inl (c_v0_118, 2100, .inl f_v0_118)), (v0_119, .inl (c_v0_119, 2100, .inl f_v0_119)), (v0_120, .inl (c_v0_120, 2100, .inl f_v0_120)), (v0_121, .inl (c_v0_121, 2100, .inl f_v0_121)), (v0_122, .inl (c_v0_122, 2100, .inl f_v0_122))] [(c_v0_117, .int), (c_v0_118, .int), (c_v0_119, .int), (c_v0_120, .int), (c_v0_121, .int), (c_v0_122, .int)]) (va_Qv (fun _ : Unit => True) (zB dC dI (fun _ => [(c_v0_117, .int), (c_v0_118, .int), (c_v0_119, .int), (c_v0_120, .int), (c_v0_121, .int), (c_v0_122, .int)]) (fun _ : Unit => [(h0, .inr (15, (fs0.set 123 (.int (v0_123 + 1))))), (v0_117, .inl (c_v0_117, 2100, .inl (upd f_v0_117 (v0_123).toNatClampNeg p0))), (v0_118, .inl (c_v0_118, 2100, .inl (upd f_v0_118 (v0_123).toNatClampNeg p1))), (v0_119, .inl (c_v0_119, 2100, .inl (upd f_v0_119 (v0_123).toNatClampNeg p2))), (v0_120, .inl (c_v0_120, 2100, .inl (upd f_v0_120 (v0_123).toNatClampNeg p3))), (v0_121, .inl (c_v0_121, 2100, .inl (upd f_v0_121 (v0_123).toNatClampNeg p4))), (v0_122, .inl (c_v0_122, 2100, .inl (upd f_v0_122 (v0_123).toNatClampNeg p5)))]) (va_A [(h0, .inr (15, fs0)), (v0_117, .inl (c_v0_117, 2100, .inl f_v0_117)), (v0_118, .inl (c_v0_118, 2100, .inl f_v0_118)), (v0_119, .inl (c_v0_119, 2100, .inl f_v0_119)), (v0_120, .inl (c_v0_120, 2100, .inl f_v0_120)), (v0_121, .inl (c_v0_121, 2100, .inl f_v0_121)), (v0_122, .inl (c_v0_122, 2100, .inl f_v0_122))] sz)) (va_A [(h0, .inr (15, fs0)), (v0_117, .inl (c_v0_117, 2100, .inl f_v0_117)), (v0_118, .inl (c_v0_118, 2100, .inl f_v0_118)), (v0_119, .inl (c_v0_119, 2100, .inl f_v0_119)), (v0_120, .inl (c_v0_120, 2100, .inl f_v0_120)), (v0_121, .inl (c_v0_121, 2100, .inl f_v0_121)), (v0_122, .inl (c_v0_122, 2100, .inl f_v0_122))] sz)) 0 0 (va_A [(h0, .inr (15, fs0)), (v0_117, .inl (c_v0_117, 2100, .inl f_v0_117)), (v0_118, .inl (c_v0_118, 2100, .inl f_v0_118)), (v0_119, .inl (c_v0_119, 2100, .inl f_v0_119)), (v0_120, .inl (c_v0_120, 2100, .inl f_v0_120)), (v0_121, .inl (c_v0_121, 2100, .inl f_v0_121)), (v0_122, .inl (c_v0_122, 2100, .inl f_v0_122))] sz) := by
  refine Met.ofW (cc := cX13_mustBeSo) (maxL := 7) (ret := none) (by decide) rfl ?_
  intro p e s m args below meth c s₁ B hml hv
  obtain ⟨rfl, hsz, hP, hK, hD0⟩ := hv
  have hx := B.exec
  have hb := B.bytes
  have hr := B.returns
  have hts := atoms_spec (ws := wsX13_mustBeSo) B.pre
  have hown : s.vm.findClass RX13 = some m.cls := findClass_of_methodNamed B.named
  have hlocks := B.notSynchronized
  subst hsz
  have hD := hD0.self (sz := s.heap.size)
  generalize hAe : va_A [(h0, .inr (15, fs0)), (v0_117, .inl (c_v0_117, 2100, .inl f_v0_117)), (v0_118, .inl (c_v0_118, 2100, .inl f_v0_118)), (v0_119, .inl (c_v0_119, 2100, .inl f_v0_119)), (v0_120, .inl (c_v0_120, 2100, .inl f_v0_120)), (v0_121, .inl (c_v0_121, 2100, .inl f_v0_121)), (v0_122, .inl (c_v0_122, 2100, .inl f_v0_122))] s.heap.size = A at hD ⊢
  have hA : ∀ q : Nat, s.heap.size ≤ q → A q := fun q h => by rw [← hAe]; exact Or.inr h
  have hS : va_S A s.heap s.heap [] := va_S.rf
  have hP : va_P (dC, dI) vwCl [(h0, .inr (15, fs0)), (v0_117, .inl (c_v0_117, 2100, .inl f_v0_117)), (v0_118, .inl (c_v0_118, 2100, .inl f_v0_118)), (v0_119, .inl (c_v0_119, 2100, .inl f_v0_119)), (v0_120, .inl (c_v0_120, 2100, .inl f_v0_120)), (v0_121, .inl (c_v0_121, 2100, .inl f_v0_121)), (v0_122, .inl (c_v0_122, 2100, .inl f_v0_122))] s.heap := hP
  have hl := lv_entry ([.ref h0, .int p0, .int p1, .int p2, .int p3, .int p4, .int p5]) (n := 7) (Nat.le_of_ble_eq_true rfl)
  rw [lg_entry_eq]
  generalize (lg_sl ([.ref h0, .int p0, .int p1, .int p2, .int p3, .int p4, .int p5]) ++ List.replicate (7 - (lg_sl ([.ref h0, .int p0, .int p1, .int p2, .int p3, .int p4, .int p5])).length) Slot.unset).toArray = ls at hl ⊢
  have hl : lv_has ls 7 [(0, .ref h0), (1, .int p0), (2, .int p1), (3, .int p2), (4, .int p3), (5, .int p4), (6, .int p5)] := hl
  refine lv_aload_n hx hb dX13_mustBeSo_0 rfl (lv_at hl 0 rfl) ?_
  refine va_get (D := (dC, dI)) (ci := 15) (v := .ref v0_117) (C := RX13) (T := TX13) (N := 196) hx hb hts iw_X13_mustBeSo_X13 hown hK hP 0 rfl rfl 117 (by decide) (hts (.fieldLink RX13 255 "LiquidTongueModel" "soKind" "[I") (by decide +kernel)) (fun _ h9 => h9) hf0_117 dX13_mustBeSo_1 ?_
  refine lv_aload_n hx hb dX13_mustBeSo_4 rfl (lv_at hl 0 rfl) ?_
  refine va_get (D := (dC, dI)) (ci := 15) (v := .int v0_123) (C := RX13) (T := TX13) (N := 196) hx hb hts iw_X13_mustBeSo_X13 hown hK hP 0 rfl rfl 123 (by decide) (hts (.fieldLink RX13 832 "LiquidTongueModel" "sos" "I") (by decide +kernel)) (fun _ h9 => h9) hf0_123 dX13_mustBeSo_5 ?_
  refine lv_iload_n hx hb dX13_mustBeSo_8 rfl (lv_at hl 1 rfl) ?_
  refine va_iast hx hb hK hP hD hS 1 0 rfl rfl hi_0 dX13_mustBeSo_9 (fun H locs hP hD hS => ?_)
  have hP : va_P (dC, dI) vwCl [(h0, .inr (15, fs0)), (v0_117, .inl (c_v0_117, 2100, .inl (upd f_v0_117 (v0_123).toNatClampNeg p0))), (v0_118, .inl (c_v0_118, 2100, .inl f_v0_118)), (v0_119, .inl (c_v0_119, 2100, .inl f_v0_119)), (v0_120, .inl (c_v0_120, 2100, .inl f_v0_120)), (v0_121, .inl (c_v0_121, 2100, .inl f_v0_121)), (v0_122, .inl (c_v0_122, 2100, .inl f_v0_122))] H := hP
  have hD : va_D A [(h0, .inr (15, fs0)), (v0_117, .inl (c_v0_117, 2100, .inl (upd f_v0_117 (v0_123).toNatClampNeg p0))), (v0_118, .inl (c_v0_118, 2100, .inl f_v0_118)), (v0_119, .inl (c_v0_119, 2100, .inl f_v0_119)), (v0_120, .inl (c_v0_120, 2100, .inl f_v0_120)), (v0_121, .inl (c_v0_121, 2100, .inl f_v0_121)), (v0_122, .inl (c_v0_122, 2100, .inl f_v0_122))] := hD
  refine lv_aload_n hx hb dX13_mustBeSo_10 rfl (lv_at hl 0 rfl) ?_
  refine va_get (D := (dC, dI)) (ci := 15) (v := .ref v0_118) (C := RX13) (T := TX13) (N := 196) hx hb hts iw_X13_mustBeSo_X13 hown hK hP 0 rfl rfl 118 (by decide) (hts (.fieldLink RX13 258 "LiquidTongueModel" "soWhat" "[I") (by decide +kernel)) (fun _ h9 => h9) hf0_118 dX13_mustBeSo_11 ?_
  refine lv_aload_n hx hb dX13_mustBeSo_14 rfl (lv_at hl 0 rfl) ?_
  refine va_get (D := (dC, dI)) (ci := 15) (v := .int v0_123) (C := RX13) (T := TX13) (N := 196) hx hb hts iw_X13_mustBeSo_X13 hown hK hP 0 rfl rfl 123 (by decide) (hts (.fieldLink RX13 832 "LiquidTongueModel" "sos" "I") (by decide +kernel)) (fun _ h9 => h9) hf0_123 dX13_mustBeSo_15 ?_
  refine lv_iload_n hx hb dX13_mustBeSo_18 rfl (lv_at hl 2 rfl) ?_
  refine va_iast hx hb hK hP hD hS 2 1 rfl rfl hi_1 dX13_mustBeSo_19 (fun H locs hP hD hS => ?_)
  have hP : va_P (dC, dI) vwCl [(h0, .inr (15, fs0)), (v0_117, .inl (c_v0_117, 2100, .inl (upd f_v0_117 (v0_123).toNatClampNeg p0))), (v0_118, .inl (c_v0_118, 2100, .inl (upd f_v0_118 (v0_123).toNatClampNeg p1))), (v0_119, .inl (c_v0_119, 2100, .inl f_v0_119)), (v0_120, .inl (c_v0_120, 2100, .inl f_v0_120)), (v0_121, .inl (c_v0_121, 2100, .inl f_v0_121)), (v0_122, .inl (c_v0_122, 2100, .inl f_v0_122))] H := hP
  have hD : va_D A [(h0, .inr (15, fs0)), (v0_117, .inl (c_v0_117, 2100, .inl (upd f_v0_117 (v0_123).toNatClampNeg p0))), (v0_118, .inl (c_v0_118, 2100, .inl (upd f_v0_118 (v0_123).toNatClampNeg p1))), (v0_119, .inl (c_v0_119, 2100, .inl f_v0_119)), (v0_120, .inl (c_v0_120, 2100, .inl f_v0_120)), (v0_121, .inl (c_v0_121, 2100, .inl f_v0_121)), (v0_122, .inl (c_v0_122, 2100, .inl f_v0_122))] := hD
  refine lv_aload_n hx hb dX13_mustBeSo_20 rfl (lv_at hl 0 rfl) ?_
  refine va_get (D := (dC, dI)) (ci := 15) (v := .ref v0_119) (C := RX13) (T := TX13) (N := 196) hx hb hts iw_X13_mustBeSo_X13 hown hK hP 0 rfl rfl 119 (by decide) (hts (.fieldLink RX13 261 "LiquidTongueModel" "soName" "[I") (by decide +kernel)) (fun _ h9 => h9) hf0_119 dX13_mustBeSo_21 ?_
  refine lv_aload_n hx hb dX13_mustBeSo_24 rfl (lv_at hl 0 rfl) ?_
  refine va_get (D := (dC, dI)) (ci := 15) (v := .int v0_123) (C := RX13) (T := TX13) (N := 196) hx hb hts iw_X13_mustBeSo_X13 hown hK hP 0 rfl rfl 123 (by decide) (hts (.fieldLink RX13 832 "LiquidTongueModel" "sos" "I") (by decide +kernel)) (fun _ h9 => h9) hf0_123 dX13_mustBeSo_25 ?_
  refine lv_iload_n hx hb dX13_mustBeSo_28 rfl (lv_at hl 3 rfl) ?_
  refine va_iast hx hb hK hP hD hS 3 2 rfl rfl hi_2 dX13_mustBeSo_29 (fun H locs hP hD hS => ?_)
  have hP : va_P (dC, dI) vwCl [(h0, .inr (15, fs0)), (v0_117, .inl (c_v0_117, 2100, .inl (upd f_v0_117 (v0_123).toNatClampNeg p0))), (v0_118, .inl (c_v0_118, 2100, .inl (upd f_v0_118 (v0_123).toNatClampNeg p1))), (v0_119, .inl (c_v0_119, 2100, .inl (upd f_v0_119 (v0_123).toNatClampNeg p2))), (v0_120, .inl (c_v0_120, 2100, .inl f_v0_120)), (v0_121, .inl (c_v0_121, 2100, .inl f_v0_121)), (v0_122, .inl (c_v0_122, 2100, .inl f_v0_122))] H := hP
  have hD : va_D A [(h0, .inr (15, fs0)), (v0_117, .inl (c_v0_117, 2100, .inl (upd f_v0_117 (v0_123).toNatClampNeg p0))), (v0_118, .inl (c_v0_118, 2100, .inl (upd f_v0_118 (v0_123).toNatClampNeg p1))), (v0_119, .inl (c_v0_119, 2100, .inl (upd f_v0_119 (v0_123).toNatClampNeg p2))), (v0_120, .inl (c_v0_120, 2100, .inl f_v0_120)), (v0_121, .inl (c_v0_121, 2100, .inl f_v0_121)), (v0_122, .inl (c_v0_122, 2100, .inl f_v0_122))] := hD
  refine lv_aload_n hx hb dX13_mustBeSo_30 rfl (lv_at hl 0 rfl) ?_
  refine va_get (D := (dC, dI)) (ci := 15) (v := .ref v0_120) (C := RX13) (T := TX13) (N := 196) hx hb hts iw_X13_mustBeSo_X13 hown hK hP 0 rfl rfl 120 (by decide) (hts (.fieldLink RX13 264 "LiquidTongueModel" "soEnv" "[I") (by decide +kernel)) (fun _ h9 => h9) hf0_120 dX13_mustBeSo_31 ?_
  refine lv_aload_n hx hb dX13_mustBeSo_34 rfl (lv_at hl 0 rfl) ?_
  refine va_get (D := (dC, dI)) (ci := 15) (v := .int v0_123) (C := RX13) (T := TX13) (N := 196) hx hb hts iw_X13_mustBeSo_X13 hown hK hP 0 rfl rfl 123 (by decide) (hts (.fieldLink RX13 832 "LiquidTongueModel" "sos" "I") (by decide +kernel)) (fun _ h9 => h9) hf0_123 dX13_mustBeSo_35 ?_
  refine lv_iload hx hb dX13_mustBeSo_38 (lv_at hl 4 rfl) ?_
  refine va_iast hx hb hK hP hD hS 4 3 rfl rfl hi_3 dX13_mustBeSo_40 (fun H locs hP hD hS => ?_)
  have hP : va_P (dC, dI) vwCl [(h0, .inr (15, fs0)), (v0_117, .inl (c_v0_117, 2100, .inl (upd f_v0_117 (v0_123).toNatClampNeg p0))), (v0_118, .inl (c_v0_118, 2100, .inl (upd f_v0_118 (v0_123).toNatClampNeg p1))), (v0_119, .inl (c_v0_119, 2100, .inl (upd f_v0_119 (v0_123).toNatClampNeg p2))), (v0_120, .inl (c_v0_120, 2100, .inl (upd f_v0_120 (v0_123).toNatClampNeg p3))), (v0_121, .inl (c_v0_121, 2100, .inl f_v0_121)), (v0_122, .inl (c_v0_122, 2100, .inl f_v0_122))] H := hP
  have hD : va_D A [(h0, .inr (15, fs0)), (v0_117, .inl (c_v0_117, 2100, .inl (upd f_v0_117 (v0_123).toNatClampNeg p0))), (v0_118, .inl (c_v0_118, 2100, .inl (upd f_v0_118 (v0_123).toNatClampNeg p1))), (v0_119, .inl (c_v0_119, 2100, .inl (upd f_v0_119 (v0_123).toNatClampNeg p2))), (v0_120, .inl (c_v0_120, 2100, .inl (upd f_v0_120 (v0_123).toNatClampNeg p3))), (v0_121, .inl (c_v0_121, 2100, .inl f_v0_121)), (v0_122, .inl (c_v0_122, 2100, .inl f_v0_122))] := hD
  refine lv_aload_n hx hb dX13_mustBeSo_41 rfl (lv_at hl 0 rfl) ?_
  refine va_get (D := (dC, dI)) (ci := 15) (v := .ref v0_121) (C := RX13) (T := TX13) (N := 196) hx hb hts iw_X13_mustBeSo_X13 hown hK hP 0 rfl rfl 121 (by decide) (hts (.fieldLink RX13 267 "LiquidTongueModel" "soGone" "[I") (by decide +kernel)) (fun _ h9 => h9) hf0_121 dX13_mustBeSo_42 ?_
  refine lv_aload_n hx hb dX13_mustBeSo_45 rfl (lv_at hl 0 rfl) ?_
  refine va_get (D := (dC, dI)) (ci := 15) (v := .int v0_123) (C := RX13) (T := TX13) (N := 196) hx hb hts iw_X13_mustBeSo_X13 hown hK hP 0 rfl rfl 123 (by decide) (hts (.fieldLink RX13 832 "LiquidTongueModel" "sos" "I") (by decide +kernel)) (fun _ h9 => h9) hf0_123 dX13_mustBeSo_46 ?_
  refine lv_iload hx hb dX13_mustBeSo_49 (lv_at hl 5 rfl) ?_
  refine va_iast hx hb hK hP hD hS 5 4 rfl rfl hi_4 dX13_mustBeSo_51 (fun H locs hP hD hS => ?_)
  have hP : va_P (dC, dI) vwCl [(h0, .inr (15, fs0)), (v0_117, .inl (c_v0_117, 2100, .inl (upd f_v0_117 (v0_123).toNatClampNeg p0))), (v0_118, .inl (c_v0_118, 2100, .inl (upd f_v0_118 (v0_123).toNatClampNeg p1))), (v0_119, .inl (c_v0_119, 2100, .inl (upd f_v0_119 (v0_123).toNatClampNeg p2))), (v0_120, .inl (c_v0_120, 2100, .inl (upd f_v0_120 (v0_123).toNatClampNeg p3))), (v0_121, .inl (c_v0_121, 2100, .inl (upd f_v0_121 (v0_123).toNatClampNeg p4))), (v0_122, .inl (c_v0_122, 2100, .inl f_v0_122))] H := hP
  have hD : va_D A [(h0, .inr (15, fs0)), (v0_117, .inl (c_v0_117, 2100, .inl (upd f_v0_117 (v0_123).toNatClampNeg p0))), (v0_118, .inl (c_v0_118, 2100, .inl (upd f_v0_118 (v0_123).toNatClampNeg p1))), (v0_119, .inl (c_v0_119, 2100, .inl (upd f_v0_119 (v0_123).toNatClampNeg p2))), (v0_120, .inl (c_v0_120, 2100, .inl (upd f_v0_120 (v0_123).toNatClampNeg p3))), (v0_121, .inl (c_v0_121, 2100, .inl (upd f_v0_121 (v0_123).toNatClampNeg p4))), (v0_122, .inl (c_v0_122, 2100, .inl f_v0_122))] := hD
  refine lv_aload_n hx hb dX13_mustBeSo_52 rfl (lv_at hl 0 rfl) ?_
  refine va_get (D := (dC, dI)) (ci := 15) (v := .ref v0_122) (C := RX13) (T := TX13) (N := 196) hx hb hts iw_X13_mustBeSo_X13 hown hK hP 0 rfl rfl 122 (by decide) (hts (.fieldLink RX13 270 "LiquidTongueModel" "soAt" "[I") (by decide +kernel)) (fun _ h9 => h9) hf0_122 dX13_mustBeSo_53 ?_
  refine lv_aload_n hx hb dX13_mustBeSo_56 rfl (lv_at hl 0 rfl) ?_
  refine va_get (D := (dC, dI)) (ci := 15) (v := .int v0_123) (C := RX13) (T := TX13) (N := 196) hx hb hts iw_X13_mustBeSo_X13 hown hK hP 0 rfl rfl 123 (by decide) (hts (.fieldLink RX13 832 "LiquidTongueModel" "sos" "I") (by decide +kernel)) (fun _ h9 => h9) hf0_123 dX13_mustBeSo_57 ?_
  refine lv_iload hx hb dX13_mustBeSo_60 (lv_at hl 6 rfl) ?_
  refine va_iast hx hb hK hP hD hS 6 5 rfl rfl hi_5 dX13_mustBeSo_62 (fun H locs hP hD hS => ?_)
  have hP : va_P (dC, dI) vwCl [(h0, .inr (15, fs0)), (v0_117, .inl (c_v0_117, 2100, .inl (upd f_v0_117 (v0_123).toNatClampNeg p0))), (v0_118, .inl (c_v0_118, 2100, .inl (upd f_v0_118 (v0_123).toNatClampNeg p1))), (v0_119, .inl (c_v0_119, 2100, .inl (upd f_v0_119 (v0_123).toNatClampNeg p2))), (v0_120, .inl (c_v0_120, 2100, .inl (upd f_v0_120 (v0_123).toNatClampNeg p3))), (v0_121, .inl (c_v0_121, 2100, .inl (upd f_v0_121 (v0_123).toNatClampNeg p4))), (v0_122, .inl (c_v0_122, 2100, .inl (upd f_v0_122 (v0_123).toNatClampNeg p5)))] H := hP
  have hD : va_D A [(h0, .inr (15, fs0)), (v0_117, .inl (c_v0_117, 2100, .inl (upd f_v0_117 (v0_123).toNatClampNeg p0))), (v0_118, .inl (c_v0_118, 2100, .inl (upd f_v0_118 (v0_123).toNatClampNeg p1))), (v0_119, .inl (c_v0_119, 2100, .inl (upd f_v0_119 (v0_123).toNatClampNeg p2))), (v0_120, .inl (c_v0_120, 2100, .inl (upd f_v0_120 (v0_123).toNatClampNeg p3))), (v0_121, .inl (c_v0_121, 2100, .inl (upd f_v0_121 (v0_123).toNatClampNeg p4))), (v0_122, .inl (c_v0_122, 2100, .inl (upd f_v0_122 (v0_123).toNatClampNeg p5)))] := hD
  refine lv_aload_n hx hb dX13_mustBeSo_63 rfl (lv_at hl 0 rfl) ?_
  refine lv_dup hx hb dX13_mustBeSo_64 rfl ?_
  refine va_get (D := (dC, dI)) (ci := 15) (v := .int v0_123) (C := RX13) (T := TX13) (N := 196) hx hb hts iw_X13_mustBeSo_X13 hown hK hP 0 rfl rfl 123 (by decide) (hts (.fieldLink RX13 832 "LiquidTongueModel" "sos" "I") (by decide +kernel)) (fun _ h9 => h9) hf0_123 dX13_mustBeSo_65 ?_
  refine lv_iconst (v := 1) hx hb dX13_mustBeSo_68 (by decide) ?_
  refine lv_iadd hx hb dX13_mustBeSo_69 ?_
  refine va_put (D := (dC, dI)) (ci := 15) (v := .int (v0_123 + 1)) (ty := .int) (C := RX13) (T := TX13) (N := 196) hx hb hts iw_X13_mustBeSo_X13 tyX13 tyX13_ok nmX13 hown hK hP hD hS 0 rfl rfl 123 (by decide) (hts (.fieldLink RX13 832 "LiquidTongueModel" "sos" "I") (by decide +kernel)) (fun _ h9 => h9) rfl (by decide +kernel) rfl rfl (zs_lt hl0 (by decide)) dX13_mustBeSo_70 (fun H locs hP hD hS => ?_)
  have hP : va_P (dC, dI) vwCl [(h0, .inr (15, (fs0.set 123 (.int (v0_123 + 1))))), (v0_117, .inl (c_v0_117, 2100, .inl (upd f_v0_117 (v0_123).toNatClampNeg p0))), (v0_118, .inl (c_v0_118, 2100, .inl (upd f_v0_118 (v0_123).toNatClampNeg p1))), (v0_119, .inl (c_v0_119, 2100, .inl (upd f_v0_119 (v0_123).toNatClampNeg p2))), (v0_120, .inl (c_v0_120, 2100, .inl (upd f_v0_120 (v0_123).toNatClampNeg p3))), (v0_121, .inl (c_v0_121, 2100, .inl (upd f_v0_121 (v0_123).toNatClampNeg p4))), (v0_122, .inl (c_v0_122, 2100, .inl (upd f_v0_122 (v0_123).toNatClampNeg p5)))] H := hP
  have hD : va_D A [(h0, .inr (15, (fs0.set 123 (.int (v0_123 + 1))))), (v0_117, .inl (c_v0_117, 2100, .inl (upd f_v0_117 (v0_123).toNatClampNeg p0))), (v0_118, .inl (c_v0_118, 2100, .inl (upd f_v0_118 (v0_123).toNatClampNeg p1))), (v0_119, .inl (c_v0_119, 2100, .inl (upd f_v0_119 (v0_123).toNatClampNeg p2))), (v0_120, .inl (c_v0_120, 2100, .inl (upd f_v0_120 (v0_123).toNatClampNeg p3))), (v0_121, .inl (c_v0_121, 2100, .inl (upd f_v0_121 (v0_123).toNatClampNeg p4))), (v0_122, .inl (c_v0_122, 2100, .inl (upd f_v0_122 (v0_123).toNatClampNeg p5)))] := hD
  have hP9 := hP.sub (ws' := [(h0, .inr (15, (fs0.set 123 (.int (v0_123 + 1))))), (v0_117, .inl (c_v0_117, 2100, .inl (upd f_v0_117 (v0_123).toNatClampNeg p0))), (v0_118, .inl (c_v0_118, 2100, .inl (upd f_v0_118 (v0_123).toNatClampNeg p1))), (v0_119, .inl (c_v0_119, 2100, .inl (upd f_v0_119 (v0_123).toNatClampNeg p2))), (v0_120, .inl (c_v0_120, 2100, .inl (upd f_v0_120 (v0_123).toNatClampNeg p3))), (v0_121, .inl (c_v0_121, 2100, .inl (upd f_v0_121 (v0_123).toNatClampNeg p4))), (v0_122, .inl (c_v0_122, 2100, .inl (upd f_v0_122 (v0_123).toNatClampNeg p5)))]) [0, 1, 2, 3, 4, 5, 6] rfl
  have hD9 := hD.sub (ws' := [(h0, .inr (15, (fs0.set 123 (.int (v0_123 + 1))))), (v0_117, .inl (c_v0_117, 2100, .inl (upd f_v0_117 (v0_123).toNatClampNeg p0))), (v0_118, .inl (c_v0_118, 2100, .inl (upd f_v0_118 (v0_123).toNatClampNeg p1))), (v0_119, .inl (c_v0_119, 2100, .inl (upd f_v0_119 (v0_123).toNatClampNeg p2))), (v0_120, .inl (c_v0_120, 2100, .inl (upd f_v0_120 (v0_123).toNatClampNeg p3))), (v0_121, .inl (c_v0_121, 2100, .inl (upd f_v0_121 (v0_123).toNatClampNeg p4))), (v0_122, .inl (c_v0_122, 2100, .inl (upd f_v0_122 (v0_123).toNatClampNeg p5)))]) [0, 1, 2, 3, 4, 5, 6] (by decide) rfl
  have hK9 := hK.sub (tys' := [(c_v0_117, .int), (c_v0_118, .int), (c_v0_119, .int), (c_v0_120, .int), (c_v0_121, .int), (c_v0_122, .int)]) [0, 1, 2, 3, 4, 5] rfl
  exact W.vret hx hb hr (fun t ht hW => ⟨⟨(), rfl, trivial, (zB_mk (by rw [ht]; exact hP9) (va_K.moved hW.alike hK9) hD9)⟩, hS.F ht⟩) hS.2.2 dX13_mustBeSo_73
theorem iw_X13_newType_X13 : ∀ w ∈ wsX130, w ∈ wsX13_newType := fun w h => List.mem_cons_of_mem _ (List.mem_append_right _ h)
set_option maxHeartbeats 4000000 in
set_option maxRecDepth 100000 in
/-- X13_newType, a road -/
theorem c_X13_newType_r0 (l : Launch) (dC : Nat → ClassId) (dI : Nat → Nat → Nat) (sz : Nat) (h0 : Nat) (fs0 : List Value) (p0 : Int32) (p1 : Int32) (p2 : Int32) (v0_53 : Nat) (v0_59 : Int32) (c_v0_53 : ClassId) (f_v0_53 : Nat → Int32) (v0_54 : Nat) (c_v0_54 : ClassId) (f_v0_54 : Nat → Int32) (v0_55 : Nat) (c_v0_55 : ClassId) (f_v0_55 : Nat → Int32) (v0_56 : Nat) (c_v0_56 : ClassId) (f_v0_56 : Nat → Int32) (v0_57 : Nat) (c_v0_57 : ClassId) (f_v0_57 : Nat → Int32) (hl0 : fs0.length = 196) (hf0_53 : fs0[53]? = some (.ref v0_53)) (hf0_59 : fs0[59]? = some (.int v0_59)) (hf0_54 : fs0[54]? = some (.ref v0_54)) (hf0_55 : fs0[55]? = some (.ref v0_55)) (hf0_56 : fs0[56]? = some (.ref v0_56)) (hf0_57 : fs0[57]? = some (.ref v0_57)) (hi_0 : vp_in v0_59 9000) (hi_1 : vp_in v0_59 9000) (hi_2 : vp_in v0_59 9000) (hi_3 : vp_in v0_59 9000) (hi_4 : vp_in v0_59 9000) : Met l yX13_newType wsX13_newType ({ frames := 0, cells := 0, slots := 0, locals := 0 }) (zPc dC dI sz [.ref h0, .int p0, .int p1, .int p2] [(h0, .inr (15, fs0)), (v0_53, .inl (c_v0_53, 9000, .inl f_v0_53)), (v0_54, .inl (c_v0_54, 9000, .inl f_v0_54)), (v0_55, .inl (c_v0_55, 9000, .inl f_v0_55)), (v0_56, .inl (c_v0_56, 9000, .inl f_v0_56)), (v0_57, .inl (c_v0_57, 9000, .inl f_v0_57))] [(c_v0_53, .int), (c_v0_54, .int), (c_v0_55, .int), (c_v0_56, .int), (c_v0_57, .int)]) (va_Qi (fun (r : Int32) (_ : Unit) => r = ((v0_59 + 1) - 1)) (zB dC dI (fun _ => [(c_v0_53, .int), (c_v0_54, .int), (c_v0_55, .int), (c_v0_56, .int), (c_v0_57, .int)]) (fun _ : Unit => [(h0, .inr (15, (fs0.set 59 (.int (v0_59 + 1))))), (v0_53, .inl (c_v0_53, 9000, .inl (upd f_v0_53 (v0_59).toNatClampNeg p0))), (v0_54, .inl (c_v0_54, 9000, .inl (upd f_v0_54 (v0_59).toNatClampNeg p1))), (v0_55, .inl (c_v0_55, 9000, .inl (upd f_v0_55 (v0_59).toNatClampNeg p2))), (v0_56, .inl (c_v0_56, 9000, .inl (upd f_v0_56 (v0_59).toNatClampNeg (-1)))), (v0_57, .inl (c_v0_57, 9000, .inl (upd f_v0_57 (v0_59).toNatClampNeg 0)))]) (va_A [(h0, .inr (15, fs0)), (v0_53, .inl (c_v0_53, 9000, .inl f_v0_53)), (v0_54, .inl (c_v0_54, 9000, .inl f_v0_54)), (v0_55, .inl (c_v0_55, 9000, .inl f_v0_55)), (v0_56, .inl (c_v0_56, 9000, .inl f_v0_56)), (v0_57, .inl (c_v0_57, 9000, .inl f_v0_57))] sz)) (va_A [(h0, .inr (15, fs0)), (v0_53, .inl (c_v0_53, 9000, .inl f_v0_53)), (v0_54, .inl (c_v0_54, 9000, .inl f_v0_54)), (v0_55, .inl (c_v0_55, 9000, .inl f_v0_55)), (v0_56, .inl (c_v0_56, 9000, .inl f_v0_56)), (v0_57, .inl (c_v0_57, 9000, .inl f_v0_57))] sz)) 0 0 (va_A [(h0, .inr (15, fs0)), (v0_53, .inl (c_v0_53, 9000, .inl f_v0_53)), (v0_54, .inl (c_v0_54, 9000, .inl f_v0_54)), (v0_55, .inl (c_v0_55, 9000, .inl f_v0_55)), (v0_56, .inl (c_v0_56, 9000, .inl f_v0_56)), (v0_57, .inl (c_v0_57, 9000, .inl f_v0_57))] sz) := by
  refine Met.ofW (cc := cX13_newType) (maxL := 4) (ret := (some .int)) (by decide) rfl ?_
  intro p e s m args below meth c s₁ B hml hv
  obtain ⟨rfl, hsz, hP, hK, hD0⟩ := hv
  have hx := B.exec
  have hb := B.bytes
  have hr := B.returns
  have hts := atoms_spec (ws := wsX13_newType) B.pre
  have hown : s.vm.findClass RX13 = some m.cls := findClass_of_methodNamed B.named
  have hlocks := B.notSynchronized
  subst hsz
  have hD := hD0.self (sz := s.heap.size)
  generalize hAe : va_A [(h0, .inr (15, fs0)), (v0_53, .inl (c_v0_53, 9000, .inl f_v0_53)), (v0_54, .inl (c_v0_54, 9000, .inl f_v0_54)), (v0_55, .inl (c_v0_55, 9000, .inl f_v0_55)), (v0_56, .inl (c_v0_56, 9000, .inl f_v0_56)), (v0_57, .inl (c_v0_57, 9000, .inl f_v0_57))] s.heap.size = A at hD ⊢
  have hA : ∀ q : Nat, s.heap.size ≤ q → A q := fun q h => by rw [← hAe]; exact Or.inr h
  have hS : va_S A s.heap s.heap [] := va_S.rf
  have hP : va_P (dC, dI) vwCl [(h0, .inr (15, fs0)), (v0_53, .inl (c_v0_53, 9000, .inl f_v0_53)), (v0_54, .inl (c_v0_54, 9000, .inl f_v0_54)), (v0_55, .inl (c_v0_55, 9000, .inl f_v0_55)), (v0_56, .inl (c_v0_56, 9000, .inl f_v0_56)), (v0_57, .inl (c_v0_57, 9000, .inl f_v0_57))] s.heap := hP
  have hl := lv_entry ([.ref h0, .int p0, .int p1, .int p2]) (n := 4) (Nat.le_of_ble_eq_true rfl)
  rw [lg_entry_eq]
  generalize (lg_sl ([.ref h0, .int p0, .int p1, .int p2]) ++ List.replicate (4 - (lg_sl ([.ref h0, .int p0, .int p1, .int p2])).length) Slot.unset).toArray = ls at hl ⊢
  have hl : lv_has ls 4 [(0, .ref h0), (1, .int p0), (2, .int p1), (3, .int p2)] := hl
  refine lv_aload_n hx hb dX13_newType_0 rfl (lv_at hl 0 rfl) ?_
  refine va_get (D := (dC, dI)) (ci := 15) (v := .ref v0_53) (C := RX13) (T := TX13) (N := 196) hx hb hts iw_X13_newType_X13 hown hK hP 0 rfl rfl 53 (by decide) (hts (.fieldLink RX13 113 "LiquidTongueModel" "tKind" "[I") (by decide +kernel)) (fun _ h9 => h9) hf0_53 dX13_newType_1 ?_
  refine lv_aload_n hx hb dX13_newType_4 rfl (lv_at hl 0 rfl) ?_
  refine va_get (D := (dC, dI)) (ci := 15) (v := .int v0_59) (C := RX13) (T := TX13) (N := 196) hx hb hts iw_X13_newType_X13 hown hK hP 0 rfl rfl 59 (by decide) (hts (.fieldLink RX13 661 "LiquidTongueModel" "types" "I") (by decide +kernel)) (fun _ h9 => h9) hf0_59 dX13_newType_5 ?_
  refine lv_iload_n hx hb dX13_newType_8 rfl (lv_at hl 1 rfl) ?_
  refine va_iast hx hb hK hP hD hS 1 0 rfl rfl hi_0 dX13_newType_9 (fun H locs hP hD hS => ?_)
  have hP : va_P (dC, dI) vwCl [(h0, .inr (15, fs0)), (v0_53, .inl (c_v0_53, 9000, .inl (upd f_v0_53 (v0_59).toNatClampNeg p0))), (v0_54, .inl (c_v0_54, 9000, .inl f_v0_54)), (v0_55, .inl (c_v0_55, 9000, .inl f_v0_55)), (v0_56, .inl (c_v0_56, 9000, .inl f_v0_56)), (v0_57, .inl (c_v0_57, 9000, .inl f_v0_57))] H := hP
  have hD : va_D A [(h0, .inr (15, fs0)), (v0_53, .inl (c_v0_53, 9000, .inl (upd f_v0_53 (v0_59).toNatClampNeg p0))), (v0_54, .inl (c_v0_54, 9000, .inl f_v0_54)), (v0_55, .inl (c_v0_55, 9000, .inl f_v0_55)), (v0_56, .inl (c_v0_56, 9000, .inl f_v0_56)), (v0_57, .inl (c_v0_57, 9000, .inl f_v0_57))] := hD
  refine lv_aload_n hx hb dX13_newType_10 rfl (lv_at hl 0 rfl) ?_
  refine va_get (D := (dC, dI)) (ci := 15) (v := .ref v0_54) (C := RX13) (T := TX13) (N := 196) hx hb hts iw_X13_newType_X13 hown hK hP 0 rfl rfl 54 (by decide) (hts (.fieldLink RX13 116 "LiquidTongueModel" "tLeft" "[I") (by decide +kernel)) (fun _ h9 => h9) hf0_54 dX13_newType_11 ?_
  refine lv_aload_n hx hb dX13_newType_14 rfl (lv_at hl 0 rfl) ?_
  refine va_get (D := (dC, dI)) (ci := 15) (v := .int v0_59) (C := RX13) (T := TX13) (N := 196) hx hb hts iw_X13_newType_X13 hown hK hP 0 rfl rfl 59 (by decide) (hts (.fieldLink RX13 661 "LiquidTongueModel" "types" "I") (by decide +kernel)) (fun _ h9 => h9) hf0_59 dX13_newType_15 ?_
  refine lv_iload_n hx hb dX13_newType_18 rfl (lv_at hl 2 rfl) ?_
  refine va_iast hx hb hK hP hD hS 2 1 rfl rfl hi_1 dX13_newType_19 (fun H locs hP hD hS => ?_)
  have hP : va_P (dC, dI) vwCl [(h0, .inr (15, fs0)), (v0_53, .inl (c_v0_53, 9000, .inl (upd f_v0_53 (v0_59).toNatClampNeg p0))), (v0_54, .inl (c_v0_54, 9000, .inl (upd f_v0_54 (v0_59).toNatClampNeg p1))), (v0_55, .inl (c_v0_55, 9000, .inl f_v0_55)), (v0_56, .inl (c_v0_56, 9000, .inl f_v0_56)), (v0_57, .inl (c_v0_57, 9000, .inl f_v0_57))] H := hP
  have hD : va_D A [(h0, .inr (15, fs0)), (v0_53, .inl (c_v0_53, 9000, .inl (upd f_v0_53 (v0_59).toNatClampNeg p0))), (v0_54, .inl (c_v0_54, 9000, .inl (upd f_v0_54 (v0_59).toNatClampNeg p1))), (v0_55, .inl (c_v0_55, 9000, .inl f_v0_55)), (v0_56, .inl (c_v0_56, 9000, .inl f_v0_56)), (v0_57, .inl (c_v0_57, 9000, .inl f_v0_57))] := hD
  refine lv_aload_n hx hb dX13_newType_20 rfl (lv_at hl 0 rfl) ?_
  refine va_get (D := (dC, dI)) (ci := 15) (v := .ref v0_55) (C := RX13) (T := TX13) (N := 196) hx hb hts iw_X13_newType_X13 hown hK hP 0 rfl rfl 55 (by decide) (hts (.fieldLink RX13 119 "LiquidTongueModel" "tRight" "[I") (by decide +kernel)) (fun _ h9 => h9) hf0_55 dX13_newType_21 ?_
  refine lv_aload_n hx hb dX13_newType_24 rfl (lv_at hl 0 rfl) ?_
  refine va_get (D := (dC, dI)) (ci := 15) (v := .int v0_59) (C := RX13) (T := TX13) (N := 196) hx hb hts iw_X13_newType_X13 hown hK hP 0 rfl rfl 59 (by decide) (hts (.fieldLink RX13 661 "LiquidTongueModel" "types" "I") (by decide +kernel)) (fun _ h9 => h9) hf0_59 dX13_newType_25 ?_
  refine lv_iload_n hx hb dX13_newType_28 rfl (lv_at hl 3 rfl) ?_
  refine va_iast hx hb hK hP hD hS 3 2 rfl rfl hi_2 dX13_newType_29 (fun H locs hP hD hS => ?_)
  have hP : va_P (dC, dI) vwCl [(h0, .inr (15, fs0)), (v0_53, .inl (c_v0_53, 9000, .inl (upd f_v0_53 (v0_59).toNatClampNeg p0))), (v0_54, .inl (c_v0_54, 9000, .inl (upd f_v0_54 (v0_59).toNatClampNeg p1))), (v0_55, .inl (c_v0_55, 9000, .inl (upd f_v0_55 (v0_59).toNatClampNeg p2))), (v0_56, .inl (c_v0_56, 9000, .inl f_v0_56)), (v0_57, .inl (c_v0_57, 9000, .inl f_v0_57))] H := hP
  have hD : va_D A [(h0, .inr (15, fs0)), (v0_53, .inl (c_v0_53, 9000, .inl (upd f_v0_53 (v0_59).toNatClampNeg p0))), (v0_54, .inl (c_v0_54, 9000, .inl (upd f_v0_54 (v0_59).toNatClampNeg p1))), (v0_55, .inl (c_v0_55, 9000, .inl (upd f_v0_55 (v0_59).toNatClampNeg p2))), (v0_56, .inl (c_v0_56, 9000, .inl f_v0_56)), (v0_57, .inl (c_v0_57, 9000, .inl f_v0_57))] := hD
  refine lv_aload_n hx hb dX13_newType_30 rfl (lv_at hl 0 rfl) ?_
  refine va_get (D := (dC, dI)) (ci := 15) (v := .ref v0_56) (C := RX13) (T := TX13) (N := 196) hx hb hts iw_X13_newType_X13 hown hK hP 0 rfl rfl 56 (by decide) (hts (.fieldLink RX13 122 "LiquidTongueModel" "tLink" "[I") (by decide +kernel)) (fun _ h9 => h9) hf0_56 dX13_newType_31 ?_
  refine lv_aload_n hx hb dX13_newType_34 rfl (lv_at hl 0 rfl) ?_
  refine va_get (D := (dC, dI)) (ci := 15) (v := .int v0_59) (C := RX13) (T := TX13) (N := 196) hx hb hts iw_X13_newType_X13 hown hK hP 0 rfl rfl 59 (by decide) (hts (.fieldLink RX13 661 "LiquidTongueModel" "types" "I") (by decide +kernel)) (fun _ h9 => h9) hf0_59 dX13_newType_35 ?_
  refine lv_iconst (v := -1) hx hb dX13_newType_38 (by decide) ?_
  refine va_iast hx hb hK hP hD hS 4 3 rfl rfl hi_3 dX13_newType_39 (fun H locs hP hD hS => ?_)
  have hP : va_P (dC, dI) vwCl [(h0, .inr (15, fs0)), (v0_53, .inl (c_v0_53, 9000, .inl (upd f_v0_53 (v0_59).toNatClampNeg p0))), (v0_54, .inl (c_v0_54, 9000, .inl (upd f_v0_54 (v0_59).toNatClampNeg p1))), (v0_55, .inl (c_v0_55, 9000, .inl (upd f_v0_55 (v0_59).toNatClampNeg p2))), (v0_56, .inl (c_v0_56, 9000, .inl (upd f_v0_56 (v0_59).toNatClampNeg (-1)))), (v0_57, .inl (c_v0_57, 9000, .inl f_v0_57))] H := hP
  have hD : va_D A [(h0, .inr (15, fs0)), (v0_53, .inl (c_v0_53, 9000, .inl (upd f_v0_53 (v0_59).toNatClampNeg p0))), (v0_54, .inl (c_v0_54, 9000, .inl (upd f_v0_54 (v0_59).toNatClampNeg p1))), (v0_55, .inl (c_v0_55, 9000, .inl (upd f_v0_55 (v0_59).toNatClampNeg p2))), (v0_56, .inl (c_v0_56, 9000, .inl (upd f_v0_56 (v0_59).toNatClampNeg (-1)))), (v0_57, .inl (c_v0_57, 9000, .inl f_v0_57))] := hD
  refine lv_aload_n hx hb dX13_newType_40 rfl (lv_at hl 0 rfl) ?_
  refine va_get (D := (dC, dI)) (ci := 15) (v := .ref v0_57) (C := RX13) (T := TX13) (N := 196) hx hb hts iw_X13_newType_X13 hown hK hP 0 rfl rfl 57 (by decide) (hts (.fieldLink RX13 125 "LiquidTongueModel" "tSeen" "[I") (by decide +kernel)) (fun _ h9 => h9) hf0_57 dX13_newType_41 ?_
  refine lv_aload_n hx hb dX13_newType_44 rfl (lv_at hl 0 rfl) ?_
  refine va_get (D := (dC, dI)) (ci := 15) (v := .int v0_59) (C := RX13) (T := TX13) (N := 196) hx hb hts iw_X13_newType_X13 hown hK hP 0 rfl rfl 59 (by decide) (hts (.fieldLink RX13 661 "LiquidTongueModel" "types" "I") (by decide +kernel)) (fun _ h9 => h9) hf0_59 dX13_newType_45 ?_
  refine lv_iconst (v := 0) hx hb dX13_newType_48 (by decide) ?_
  refine va_iast hx hb hK hP hD hS 5 4 rfl rfl hi_4 dX13_newType_49 (fun H locs hP hD hS => ?_)
  have hP : va_P (dC, dI) vwCl [(h0, .inr (15, fs0)), (v0_53, .inl (c_v0_53, 9000, .inl (upd f_v0_53 (v0_59).toNatClampNeg p0))), (v0_54, .inl (c_v0_54, 9000, .inl (upd f_v0_54 (v0_59).toNatClampNeg p1))), (v0_55, .inl (c_v0_55, 9000, .inl (upd f_v0_55 (v0_59).toNatClampNeg p2))), (v0_56, .inl (c_v0_56, 9000, .inl (upd f_v0_56 (v0_59).toNatClampNeg (-1)))), (v0_57, .inl (c_v0_57, 9000, .inl (upd f_v0_57 (v0_59).toNatClampNeg 0)))] H := hP
  have hD : va_D A [(h0, .inr (15, fs0)), (v0_53, .inl (c_v0_53, 9000, .inl (upd f_v0_53 (v0_59).toNatClampNeg p0))), (v0_54, .inl (c_v0_54, 9000, .inl (upd f_v0_54 (v0_59).toNatClampNeg p1))), (v0_55, .inl (c_v0_55, 9000, .inl (upd f_v0_55 (v0_59).toNatClampNeg p2))), (v0_56, .inl (c_v0_56, 9000, .inl (upd f_v0_56 (v0_59).toNatClampNeg (-1)))), (v0_57, .inl (c_v0_57, 9000, .inl (upd f_v0_57 (v0_59).toNatClampNeg 0)))] := hD
  refine lv_aload_n hx hb dX13_newType_50 rfl (lv_at hl 0 rfl) ?_
  refine lv_dup hx hb dX13_newType_51 rfl ?_
  refine va_get (D := (dC, dI)) (ci := 15) (v := .int v0_59) (C := RX13) (T := TX13) (N := 196) hx hb hts iw_X13_newType_X13 hown hK hP 0 rfl rfl 59 (by decide) (hts (.fieldLink RX13 661 "LiquidTongueModel" "types" "I") (by decide +kernel)) (fun _ h9 => h9) hf0_59 dX13_newType_52 ?_
  refine lv_iconst (v := 1) hx hb dX13_newType_55 (by decide) ?_
  refine lv_iadd hx hb dX13_newType_56 ?_
  refine va_put (D := (dC, dI)) (ci := 15) (v := .int (v0_59 + 1)) (ty := .int) (C := RX13) (T := TX13) (N := 196) hx hb hts iw_X13_newType_X13 tyX13 tyX13_ok nmX13 hown hK hP hD hS 0 rfl rfl 59 (by decide) (hts (.fieldLink RX13 661 "LiquidTongueModel" "types" "I") (by decide +kernel)) (fun _ h9 => h9) rfl (by decide +kernel) rfl rfl (zs_lt hl0 (by decide)) dX13_newType_57 (fun H locs hP hD hS => ?_)
  have hP : va_P (dC, dI) vwCl [(h0, .inr (15, (fs0.set 59 (.int (v0_59 + 1))))), (v0_53, .inl (c_v0_53, 9000, .inl (upd f_v0_53 (v0_59).toNatClampNeg p0))), (v0_54, .inl (c_v0_54, 9000, .inl (upd f_v0_54 (v0_59).toNatClampNeg p1))), (v0_55, .inl (c_v0_55, 9000, .inl (upd f_v0_55 (v0_59).toNatClampNeg p2))), (v0_56, .inl (c_v0_56, 9000, .inl (upd f_v0_56 (v0_59).toNatClampNeg (-1)))), (v0_57, .inl (c_v0_57, 9000, .inl (upd f_v0_57 (v0_59).toNatClampNeg 0)))] H := hP
  have hD : va_D A [(h0, .inr (15, (fs0.set 59 (.int (v0_59 + 1))))), (v0_53, .inl (c_v0_53, 9000, .inl (upd f_v0_53 (v0_59).toNatClampNeg p0))), (v0_54, .inl (c_v0_54, 9000, .inl (upd f_v0_54 (v0_59).toNatClampNeg p1))), (v0_55, .inl (c_v0_55, 9000, .inl (upd f_v0_55 (v0_59).toNatClampNeg p2))), (v0_56, .inl (c_v0_56, 9000, .inl (upd f_v0_56 (v0_59).toNatClampNeg (-1)))), (v0_57, .inl (c_v0_57, 9000, .inl (upd f_v0_57 (v0_59).toNatClampNeg 0)))] := hD
  refine lv_aload_n hx hb dX13_newType_60 rfl (lv_at hl 0 rfl) ?_
  refine va_get (D := (dC, dI)) (ci := 15) (v := .int (v0_59 + 1)) (C := RX13) (T := TX13) (N := 196) hx hb hts iw_X13_newType_X13 hown hK hP 0 rfl rfl 59 (by decide) (hts (.fieldLink RX13 661 "LiquidTongueModel" "types" "I") (by decide +kernel)) (fun _ h9 => h9) (zs_eq (zs_lt hl0 (by decide))) dX13_newType_61 ?_
  refine lv_iconst (v := 1) hx hb dX13_newType_64 (by decide) ?_
  refine lv_isub hx hb dX13_newType_65 ?_
  have hP9 := hP.sub (ws' := [(h0, .inr (15, (fs0.set 59 (.int (v0_59 + 1))))), (v0_53, .inl (c_v0_53, 9000, .inl (upd f_v0_53 (v0_59).toNatClampNeg p0))), (v0_54, .inl (c_v0_54, 9000, .inl (upd f_v0_54 (v0_59).toNatClampNeg p1))), (v0_55, .inl (c_v0_55, 9000, .inl (upd f_v0_55 (v0_59).toNatClampNeg p2))), (v0_56, .inl (c_v0_56, 9000, .inl (upd f_v0_56 (v0_59).toNatClampNeg (-1)))), (v0_57, .inl (c_v0_57, 9000, .inl (upd f_v0_57 (v0_59).toNatClampNeg 0)))]) [0, 1, 2, 3, 4, 5] rfl
  have hD9 := hD.sub (ws' := [(h0, .inr (15, (fs0.set 59 (.int (v0_59 + 1))))), (v0_53, .inl (c_v0_53, 9000, .inl (upd f_v0_53 (v0_59).toNatClampNeg p0))), (v0_54, .inl (c_v0_54, 9000, .inl (upd f_v0_54 (v0_59).toNatClampNeg p1))), (v0_55, .inl (c_v0_55, 9000, .inl (upd f_v0_55 (v0_59).toNatClampNeg p2))), (v0_56, .inl (c_v0_56, 9000, .inl (upd f_v0_56 (v0_59).toNatClampNeg (-1)))), (v0_57, .inl (c_v0_57, 9000, .inl (upd f_v0_57 (v0_59).toNatClampNeg 0)))]) [0, 1, 2, 3, 4, 5] (by decide) rfl
  have hK9 := hK.sub (tys' := [(c_v0_53, .int), (c_v0_54, .int), (c_v0_55, .int), (c_v0_56, .int), (c_v0_57, .int)]) [0, 1, 2, 3, 4] rfl
  exact W.iret (v := ((v0_59 + 1) - 1)) hx hb hr (fun t ht hW => ⟨⟨((v0_59 + 1) - 1), (), rfl, rfl, (zB_mk (by rw [ht]; exact hP9) (va_K.moved hW.alike hK9) hD9)⟩, hS.F ht⟩) hS.2.2 dX13_newType_66
theorem iw_X13_open_X13 : ∀ w ∈ wsX130, w ∈ wsX13_open := fun w h => List.mem_cons_of_mem _ (List.mem_append_right _ h)
set_option maxHeartbeats 4000000 in
set_option maxRecDepth 100000 in
/-- X13_open, a road -/
theorem c_X13_open_r0 (l : Launch) (dC : Nat → ClassId) (dI : Nat → Nat → Nat) (sz : Nat) (h0 : Nat) (fs0 : List Value) (p0 : Int32) (p1 : Int32) (v0_142 : Nat) (v0_144 : Int32) (c_v0_142 : ClassId) (f_v0_142 : Nat → Int32) (v0_143 : Nat) (c_v0_143 : ClassId) (f_v0_143 : Nat → Int32) (hl0 : fs0.length = 196) (hf0_142 : fs0[142]? = some (.ref v0_142)) (hf0_144 : fs0[144]? = some (.int v0_144)) (hf0_143 : fs0[143]? = some (.ref v0_143)) (hi_0 : vp_in v0_144 300) (hi_1 : vp_in v0_144 300) (hc_0 : p1 = 0) : Met l yX13_open wsX13_open ({ frames := 0, cells := 0, slots := 0, locals := 0 }) (zPc dC dI sz [.ref h0, .int p0, .int p1] [(h0, .inr (15, fs0)), (v0_142, .inl (c_v0_142, 300, .inl f_v0_142)), (v0_143, .inl (c_v0_143, 300, .inl f_v0_143))] [(c_v0_142, .int), (c_v0_143, .int)]) (va_Qv (fun _ : Unit => True) (zB dC dI (fun _ => [(c_v0_142, .int), (c_v0_143, .int)]) (fun _ : Unit => [(h0, .inr (15, (fs0.set 144 (.int (v0_144 + 1))))), (v0_142, .inl (c_v0_142, 300, .inl (upd f_v0_142 (v0_144).toNatClampNeg p0))), (v0_143, .inl (c_v0_143, 300, .inl (upd f_v0_143 (v0_144).toNatClampNeg 0)))]) (va_A [(h0, .inr (15, fs0)), (v0_142, .inl (c_v0_142, 300, .inl f_v0_142)), (v0_143, .inl (c_v0_143, 300, .inl f_v0_143))] sz)) (va_A [(h0, .inr (15, fs0)), (v0_142, .inl (c_v0_142, 300, .inl f_v0_142)), (v0_143, .inl (c_v0_143, 300, .inl f_v0_143))] sz)) 0 0 (va_A [(h0, .inr (15, fs0)), (v0_142, .inl (c_v0_142, 300, .inl f_v0_142)), (v0_143, .inl (c_v0_143, 300, .inl f_v0_143))] sz) := by
  refine Met.ofW (cc := cX13_open) (maxL := 3) (ret := none) (by decide) rfl ?_
  intro p e s m args below meth c s₁ B hml hv
  obtain ⟨rfl, hsz, hP, hK, hD0⟩ := hv
  have hx := B.exec
  have hb := B.bytes
  have hr := B.returns
  have hts := atoms_spec (ws := wsX13_open) B.pre
  have hown : s.vm.findClass RX13 = some m.cls := findClass_of_methodNamed B.named
  have hlocks := B.notSynchronized
  subst hsz
  have hD := hD0.self (sz := s.heap.size)
  generalize hAe : va_A [(h0, .inr (15, fs0)), (v0_142, .inl (c_v0_142, 300, .inl f_v0_142)), (v0_143, .inl (c_v0_143, 300, .inl f_v0_143))] s.heap.size = A at hD ⊢
  have hA : ∀ q : Nat, s.heap.size ≤ q → A q := fun q h => by rw [← hAe]; exact Or.inr h
  have hS : va_S A s.heap s.heap [] := va_S.rf
  have hP : va_P (dC, dI) vwCl [(h0, .inr (15, fs0)), (v0_142, .inl (c_v0_142, 300, .inl f_v0_142)), (v0_143, .inl (c_v0_143, 300, .inl f_v0_143))] s.heap := hP
  have hl := lv_entry ([.ref h0, .int p0, .int p1]) (n := 3) (Nat.le_of_ble_eq_true rfl)
  rw [lg_entry_eq]
  generalize (lg_sl ([.ref h0, .int p0, .int p1]) ++ List.replicate (3 - (lg_sl ([.ref h0, .int p0, .int p1])).length) Slot.unset).toArray = ls at hl ⊢
  have hl : lv_has ls 3 [(0, .ref h0), (1, .int p0), (2, .int p1)] := hl
  refine lv_aload_n hx hb dX13_open_0 rfl (lv_at hl 0 rfl) ?_
  refine va_get (D := (dC, dI)) (ci := 15) (v := .ref v0_142) (C := RX13) (T := TX13) (N := 196) hx hb hts iw_X13_open_X13 hown hK hP 0 rfl rfl 142 (by decide) (hts (.fieldLink RX13 291 "LiquidTongueModel" "openNode" "[I") (by decide +kernel)) (fun _ h9 => h9) hf0_142 dX13_open_1 ?_
  refine lv_aload_n hx hb dX13_open_4 rfl (lv_at hl 0 rfl) ?_
  refine va_get (D := (dC, dI)) (ci := 15) (v := .int v0_144) (C := RX13) (T := TX13) (N := 196) hx hb hts iw_X13_open_X13 hown hK hP 0 rfl rfl 144 (by decide) (hts (.fieldLink RX13 916 "LiquidTongueModel" "opens" "I") (by decide +kernel)) (fun _ h9 => h9) hf0_144 dX13_open_5 ?_
  refine lv_iload_n hx hb dX13_open_8 rfl (lv_at hl 1 rfl) ?_
  refine va_iast hx hb hK hP hD hS 1 0 rfl rfl hi_0 dX13_open_9 (fun H locs hP hD hS => ?_)
  have hP : va_P (dC, dI) vwCl [(h0, .inr (15, fs0)), (v0_142, .inl (c_v0_142, 300, .inl (upd f_v0_142 (v0_144).toNatClampNeg p0))), (v0_143, .inl (c_v0_143, 300, .inl f_v0_143))] H := hP
  have hD : va_D A [(h0, .inr (15, fs0)), (v0_142, .inl (c_v0_142, 300, .inl (upd f_v0_142 (v0_144).toNatClampNeg p0))), (v0_143, .inl (c_v0_143, 300, .inl f_v0_143))] := hD
  refine lv_aload_n hx hb dX13_open_10 rfl (lv_at hl 0 rfl) ?_
  refine va_get (D := (dC, dI)) (ci := 15) (v := .ref v0_143) (C := RX13) (T := TX13) (N := 196) hx hb hts iw_X13_open_X13 hown hK hP 0 rfl rfl 143 (by decide) (hts (.fieldLink RX13 294 "LiquidTongueModel" "openIs" "[I") (by decide +kernel)) (fun _ h9 => h9) hf0_143 dX13_open_11 ?_
  refine lv_aload_n hx hb dX13_open_14 rfl (lv_at hl 0 rfl) ?_
  refine va_get (D := (dC, dI)) (ci := 15) (v := .int v0_144) (C := RX13) (T := TX13) (N := 196) hx hb hts iw_X13_open_X13 hown hK hP 0 rfl rfl 144 (by decide) (hts (.fieldLink RX13 916 "LiquidTongueModel" "opens" "I") (by decide +kernel)) (fun _ h9 => h9) hf0_144 dX13_open_15 ?_
  refine lv_iload_n hx hb dX13_open_18 rfl (lv_at hl 2 rfl) ?_
  refine lv_if_eq (tgt := 26) hx hb dX13_open_19 (by decide) (fun c_1 => ?_) (fun c_1 => absurd hc_0 c_1)
  refine lv_iconst (v := 0) hx hb dX13_open_26 (by decide) ?_
  refine va_iast hx hb hK hP hD hS 2 1 rfl rfl hi_1 dX13_open_27 (fun H locs hP hD hS => ?_)
  have hP : va_P (dC, dI) vwCl [(h0, .inr (15, fs0)), (v0_142, .inl (c_v0_142, 300, .inl (upd f_v0_142 (v0_144).toNatClampNeg p0))), (v0_143, .inl (c_v0_143, 300, .inl (upd f_v0_143 (v0_144).toNatClampNeg 0)))] H := hP
  have hD : va_D A [(h0, .inr (15, fs0)), (v0_142, .inl (c_v0_142, 300, .inl (upd f_v0_142 (v0_144).toNatClampNeg p0))), (v0_143, .inl (c_v0_143, 300, .inl (upd f_v0_143 (v0_144).toNatClampNeg 0)))] := hD
  refine lv_aload_n hx hb dX13_open_28 rfl (lv_at hl 0 rfl) ?_
  refine lv_dup hx hb dX13_open_29 rfl ?_
  refine va_get (D := (dC, dI)) (ci := 15) (v := .int v0_144) (C := RX13) (T := TX13) (N := 196) hx hb hts iw_X13_open_X13 hown hK hP 0 rfl rfl 144 (by decide) (hts (.fieldLink RX13 916 "LiquidTongueModel" "opens" "I") (by decide +kernel)) (fun _ h9 => h9) hf0_144 dX13_open_30 ?_
  refine lv_iconst (v := 1) hx hb dX13_open_33 (by decide) ?_
  refine lv_iadd hx hb dX13_open_34 ?_
  refine va_put (D := (dC, dI)) (ci := 15) (v := .int (v0_144 + 1)) (ty := .int) (C := RX13) (T := TX13) (N := 196) hx hb hts iw_X13_open_X13 tyX13 tyX13_ok nmX13 hown hK hP hD hS 0 rfl rfl 144 (by decide) (hts (.fieldLink RX13 916 "LiquidTongueModel" "opens" "I") (by decide +kernel)) (fun _ h9 => h9) rfl (by decide +kernel) rfl rfl (zs_lt hl0 (by decide)) dX13_open_35 (fun H locs hP hD hS => ?_)
  have hP : va_P (dC, dI) vwCl [(h0, .inr (15, (fs0.set 144 (.int (v0_144 + 1))))), (v0_142, .inl (c_v0_142, 300, .inl (upd f_v0_142 (v0_144).toNatClampNeg p0))), (v0_143, .inl (c_v0_143, 300, .inl (upd f_v0_143 (v0_144).toNatClampNeg 0)))] H := hP
  have hD : va_D A [(h0, .inr (15, (fs0.set 144 (.int (v0_144 + 1))))), (v0_142, .inl (c_v0_142, 300, .inl (upd f_v0_142 (v0_144).toNatClampNeg p0))), (v0_143, .inl (c_v0_143, 300, .inl (upd f_v0_143 (v0_144).toNatClampNeg 0)))] := hD
  have hP9 := hP.sub (ws' := [(h0, .inr (15, (fs0.set 144 (.int (v0_144 + 1))))), (v0_142, .inl (c_v0_142, 300, .inl (upd f_v0_142 (v0_144).toNatClampNeg p0))), (v0_143, .inl (c_v0_143, 300, .inl (upd f_v0_143 (v0_144).toNatClampNeg 0)))]) [0, 1, 2] rfl
  have hD9 := hD.sub (ws' := [(h0, .inr (15, (fs0.set 144 (.int (v0_144 + 1))))), (v0_142, .inl (c_v0_142, 300, .inl (upd f_v0_142 (v0_144).toNatClampNeg p0))), (v0_143, .inl (c_v0_143, 300, .inl (upd f_v0_143 (v0_144).toNatClampNeg 0)))]) [0, 1, 2] (by decide) rfl
  have hK9 := hK.sub (tys' := [(c_v0_142, .int), (c_v0_143, .int)]) [0, 1] rfl
  exact W.vret hx hb hr (fun t ht hW => ⟨⟨(), rfl, trivial, (zB_mk (by rw [ht]; exact hP9) (va_K.moved hW.alike hK9) hD9)⟩, hS.F ht⟩) hS.2.2 dX13_open_38
set_option maxHeartbeats 4000000 in
set_option maxRecDepth 100000 in
/-- X13_open, a road -/
theorem c_X13_open_r1 (l : Launch) (dC : Nat → ClassId) (dI : Nat → Nat → Nat) (sz : Nat) (h0 : Nat) (fs0 : List Value) (p0 : Int32) (p1 : Int32) (v0_142 : Nat) (v0_144 : Int32) (c_v0_142 : ClassId) (f_v0_142 : Nat → Int32) (v0_143 : Nat) (c_v0_143 : ClassId) (f_v0_143 : Nat → Int32) (hl0 : fs0.length = 196) (hf0_142 : fs0[142]? = some (.ref v0_142)) (hf0_144 : fs0[144]? = some (.int v0_144)) (hf0_143 : fs0[143]? = some (.ref v0_143)) (hi_0 : vp_in v0_144 300) (hi_1 : vp_in v0_144 300) (hc_0 : ¬ p1 = 0) : Met l yX13_open wsX13_open ({ frames := 0, cells := 0, slots := 0, locals := 0 }) (zPc dC dI sz [.ref h0, .int p0, .int p1] [(h0, .inr (15, fs0)), (v0_142, .inl (c_v0_142, 300, .inl f_v0_142)), (v0_143, .inl (c_v0_143, 300, .inl f_v0_143))] [(c_v0_142, .int), (c_v0_143, .int)]) (va_Qv (fun _ : Unit => True) (zB dC dI (fun _ => [(c_v0_142, .int), (c_v0_143, .int)]) (fun _ : Unit => [(h0, .inr (15, (fs0.set 144 (.int (v0_144 + 1))))), (v0_142, .inl (c_v0_142, 300, .inl (upd f_v0_142 (v0_144).toNatClampNeg p0))), (v0_143, .inl (c_v0_143, 300, .inl (upd f_v0_143 (v0_144).toNatClampNeg 1)))]) (va_A [(h0, .inr (15, fs0)), (v0_142, .inl (c_v0_142, 300, .inl f_v0_142)), (v0_143, .inl (c_v0_143, 300, .inl f_v0_143))] sz)) (va_A [(h0, .inr (15, fs0)), (v0_142, .inl (c_v0_142, 300, .inl f_v0_142)), (v0_143, .inl (c_v0_143, 300, .inl f_v0_143))] sz)) 0 0 (va_A [(h0, .inr (15, fs0)), (v0_142, .inl (c_v0_142, 300, .inl f_v0_142)), (v0_143, .inl (c_v0_143, 300, .inl f_v0_143))] sz) := by
  refine Met.ofW (cc := cX13_open) (maxL := 3) (ret := none) (by decide) rfl ?_
  intro p e s m args below meth c s₁ B hml hv
  obtain ⟨rfl, hsz, hP, hK, hD0⟩ := hv
  have hx := B.exec
  have hb := B.bytes
  have hr := B.returns
  have hts := atoms_spec (ws := wsX13_open) B.pre
  have hown : s.vm.findClass RX13 = some m.cls := findClass_of_methodNamed B.named
  have hlocks := B.notSynchronized
  subst hsz
  have hD := hD0.self (sz := s.heap.size)
  generalize hAe : va_A [(h0, .inr (15, fs0)), (v0_142, .inl (c_v0_142, 300, .inl f_v0_142)), (v0_143, .inl (c_v0_143, 300, .inl f_v0_143))] s.heap.size = A at hD ⊢
  have hA : ∀ q : Nat, s.heap.size ≤ q → A q := fun q h => by rw [← hAe]; exact Or.inr h
  have hS : va_S A s.heap s.heap [] := va_S.rf
  have hP : va_P (dC, dI) vwCl [(h0, .inr (15, fs0)), (v0_142, .inl (c_v0_142, 300, .inl f_v0_142)), (v0_143, .inl (c_v0_143, 300, .inl f_v0_143))] s.heap := hP
  have hl := lv_entry ([.ref h0, .int p0, .int p1]) (n := 3) (Nat.le_of_ble_eq_true rfl)
  rw [lg_entry_eq]
  generalize (lg_sl ([.ref h0, .int p0, .int p1]) ++ List.replicate (3 - (lg_sl ([.ref h0, .int p0, .int p1])).length) Slot.unset).toArray = ls at hl ⊢
  have hl : lv_has ls 3 [(0, .ref h0), (1, .int p0), (2, .int p1)] := hl
  refine lv_aload_n hx hb dX13_open_0 rfl (lv_at hl 0 rfl) ?_
  refine va_get (D := (dC, dI)) (ci := 15) (v := .ref v0_142) (C := RX13) (T := TX13) (N := 196) hx hb hts iw_X13_open_X13 hown hK hP 0 rfl rfl 142 (by decide) (hts (.fieldLink RX13 291 "LiquidTongueModel" "openNode" "[I") (by decide +kernel)) (fun _ h9 => h9) hf0_142 dX13_open_1 ?_
  refine lv_aload_n hx hb dX13_open_4 rfl (lv_at hl 0 rfl) ?_
  refine va_get (D := (dC, dI)) (ci := 15) (v := .int v0_144) (C := RX13) (T := TX13) (N := 196) hx hb hts iw_X13_open_X13 hown hK hP 0 rfl rfl 144 (by decide) (hts (.fieldLink RX13 916 "LiquidTongueModel" "opens" "I") (by decide +kernel)) (fun _ h9 => h9) hf0_144 dX13_open_5 ?_
  refine lv_iload_n hx hb dX13_open_8 rfl (lv_at hl 1 rfl) ?_
  refine va_iast hx hb hK hP hD hS 1 0 rfl rfl hi_0 dX13_open_9 (fun H locs hP hD hS => ?_)
  have hP : va_P (dC, dI) vwCl [(h0, .inr (15, fs0)), (v0_142, .inl (c_v0_142, 300, .inl (upd f_v0_142 (v0_144).toNatClampNeg p0))), (v0_143, .inl (c_v0_143, 300, .inl f_v0_143))] H := hP
  have hD : va_D A [(h0, .inr (15, fs0)), (v0_142, .inl (c_v0_142, 300, .inl (upd f_v0_142 (v0_144).toNatClampNeg p0))), (v0_143, .inl (c_v0_143, 300, .inl f_v0_143))] := hD
  refine lv_aload_n hx hb dX13_open_10 rfl (lv_at hl 0 rfl) ?_
  refine va_get (D := (dC, dI)) (ci := 15) (v := .ref v0_143) (C := RX13) (T := TX13) (N := 196) hx hb hts iw_X13_open_X13 hown hK hP 0 rfl rfl 143 (by decide) (hts (.fieldLink RX13 294 "LiquidTongueModel" "openIs" "[I") (by decide +kernel)) (fun _ h9 => h9) hf0_143 dX13_open_11 ?_
  refine lv_aload_n hx hb dX13_open_14 rfl (lv_at hl 0 rfl) ?_
  refine va_get (D := (dC, dI)) (ci := 15) (v := .int v0_144) (C := RX13) (T := TX13) (N := 196) hx hb hts iw_X13_open_X13 hown hK hP 0 rfl rfl 144 (by decide) (hts (.fieldLink RX13 916 "LiquidTongueModel" "opens" "I") (by decide +kernel)) (fun _ h9 => h9) hf0_144 dX13_open_15 ?_
  refine lv_iload_n hx hb dX13_open_18 rfl (lv_at hl 2 rfl) ?_
  refine lv_if_eq (tgt := 26) hx hb dX13_open_19 (by decide) (fun c_1 => absurd c_1 hc_0) (fun c_1 => ?_)
  refine lv_iconst (v := 1) hx hb dX13_open_22 (by decide) ?_
  refine lv_goto (tgt := 27) hx hb dX13_open_23 (by decide) ?_
  refine va_iast hx hb hK hP hD hS 2 1 rfl rfl hi_1 dX13_open_27 (fun H locs hP hD hS => ?_)
  have hP : va_P (dC, dI) vwCl [(h0, .inr (15, fs0)), (v0_142, .inl (c_v0_142, 300, .inl (upd f_v0_142 (v0_144).toNatClampNeg p0))), (v0_143, .inl (c_v0_143, 300, .inl (upd f_v0_143 (v0_144).toNatClampNeg 1)))] H := hP
  have hD : va_D A [(h0, .inr (15, fs0)), (v0_142, .inl (c_v0_142, 300, .inl (upd f_v0_142 (v0_144).toNatClampNeg p0))), (v0_143, .inl (c_v0_143, 300, .inl (upd f_v0_143 (v0_144).toNatClampNeg 1)))] := hD
  refine lv_aload_n hx hb dX13_open_28 rfl (lv_at hl 0 rfl) ?_
  refine lv_dup hx hb dX13_open_29 rfl ?_
  refine va_get (D := (dC, dI)) (ci := 15) (v := .int v0_144) (C := RX13) (T := TX13) (N := 196) hx hb hts iw_X13_open_X13 hown hK hP 0 rfl rfl 144 (by decide) (hts (.fieldLink RX13 916 "LiquidTongueModel" "opens" "I") (by decide +kernel)) (fun _ h9 => h9) hf0_144 dX13_open_30 ?_
  refine lv_iconst (v := 1) hx hb dX13_open_33 (by decide) ?_
  refine lv_iadd hx hb dX13_open_34 ?_
  refine va_put (D := (dC, dI)) (ci := 15) (v := .int (v0_144 + 1)) (ty := .int) (C := RX13) (T := TX13) (N := 196) hx hb hts iw_X13_open_X13 tyX13 tyX13_ok nmX13 hown hK hP hD hS 0 rfl rfl 144 (by decide) (hts (.fieldLink RX13 916 "LiquidTongueModel" "opens" "I") (by decide +kernel)) (fun _ h9 => h9) rfl (by decide +kernel) rfl rfl (zs_lt hl0 (by decide)) dX13_open_35 (fun H locs hP hD hS => ?_)
  have hP : va_P (dC, dI) vwCl [(h0, .inr (15, (fs0.set 144 (.int (v0_144 + 1))))), (v0_142, .inl (c_v0_142, 300, .inl (upd f_v0_142 (v0_144).toNatClampNeg p0))), (v0_143, .inl (c_v0_143, 300, .inl (upd f_v0_143 (v0_144).toNatClampNeg 1)))] H := hP
  have hD : va_D A [(h0, .inr (15, (fs0.set 144 (.int (v0_144 + 1))))), (v0_142, .inl (c_v0_142, 300, .inl (upd f_v0_142 (v0_144).toNatClampNeg p0))), (v0_143, .inl (c_v0_143, 300, .inl (upd f_v0_143 (v0_144).toNatClampNeg 1)))] := hD
  have hP9 := hP.sub (ws' := [(h0, .inr (15, (fs0.set 144 (.int (v0_144 + 1))))), (v0_142, .inl (c_v0_142, 300, .inl (upd f_v0_142 (v0_144).toNatClampNeg p0))), (v0_143, .inl (c_v0_143, 300, .inl (upd f_v0_143 (v0_144).toNatClampNeg 1)))]) [0, 1, 2] rfl
  have hD9 := hD.sub (ws' := [(h0, .inr (15, (fs0.set 144 (.int (v0_144 + 1))))), (v0_142, .inl (c_v0_142, 300, .inl (upd f_v0_142 (v0_144).toNatClampNeg p0))), (v0_143, .inl (c_v0_143, 300, .inl (upd f_v0_143 (v0_144).toNatClampNeg 1)))]) [0, 1, 2] (by decide) rfl
  have hK9 := hK.sub (tys' := [(c_v0_142, .int), (c_v0_143, .int)]) [0, 1] rfl
  exact W.vret hx hb hr (fun t ht hW => ⟨⟨(), rfl, trivial, (zB_mk (by rw [ht]; exact hP9) (va_K.moved hW.alike hK9) hD9)⟩, hS.F ht⟩) hS.2.2 dX13_open_38
set_option maxHeartbeats 4000000 in
set_option maxRecDepth 100000 in
/-- X13_product, a road -/
theorem c_X13_product_r0 (l : Launch) (dC : Nat → ClassId) (dI : Nat → Nat → Nat) (sz : Nat) (p0 : Int64) (p1 : Int64) (hc_0 : (lg_cmp p0 0) = 0) : Met l yX13_product wsX13_product ({ frames := 0, cells := 0, slots := 0, locals := 0 }) (zPc dC dI sz [.long p0, .long p1] [] []) (va_Ql (fun (r : Int64) (_ : Unit) => r = 0) (zB dC dI (fun _ => []) (fun _ : Unit => []) (va_A [] sz)) (va_A [] sz)) 0 0 (va_A [] sz) := by
  refine Met.ofW (cc := cX13_product) (maxL := 9) (ret := (some .long)) (by decide) rfl ?_
  intro p e s m args below meth c s₁ B hml hv
  obtain ⟨rfl, hsz, hP, hK, hD0⟩ := hv
  have hx := B.exec
  have hb := B.bytes
  have hr := B.returns
  have hts := atoms_spec (ws := wsX13_product) B.pre
  have hown : s.vm.findClass RX13 = some m.cls := findClass_of_methodNamed B.named
  have hlocks := B.notSynchronized
  subst hsz
  have hD := hD0.self (sz := s.heap.size)
  generalize hAe : va_A [] s.heap.size = A at hD ⊢
  have hA : ∀ q : Nat, s.heap.size ≤ q → A q := fun q h => by rw [← hAe]; exact Or.inr h
  have hS : va_S A s.heap s.heap [] := va_S.rf
  have hP : va_P (dC, dI) vwCl [] s.heap := hP
  have hl := lv_entry ([.long p0, .long p1]) (n := 9) (Nat.le_of_ble_eq_true rfl)
  rw [lg_entry_eq]
  generalize (lg_sl ([.long p0, .long p1]) ++ List.replicate (9 - (lg_sl ([.long p0, .long p1])).length) Slot.unset).toArray = ls at hl ⊢
  have hl : lv_has ls 9 [(0, .long p0), (2, .long p1)] := hl
  refine lv_lload_n hx hb dX13_product_0 rfl (lv_at hl 0 rfl) ?_
  refine lv_lconst (v := 0) hx hb dX13_product_1 (by decide) ?_
  refine W.lcmp hx hb dX13_product_2 ?_
  refine lv_if_eq (tgt := 12) hx hb dX13_product_3 (by decide) (fun c_1 => ?_) (fun c_1 => absurd hc_0 c_1)
  refine lv_lconst (v := 0) hx hb dX13_product_12 (by decide) ?_
  have hP9 := hP.sub (ws' := []) [] rfl
  have hD9 := hD.sub (ws' := []) [] (by decide) rfl
  have hK9 := hK.sub (tys' := []) [] rfl
  exact W.lret (v := 0) hx hb hr (fun t ht hW => ⟨⟨0, (), rfl, rfl, (zB_mk (by rw [ht]; exact hP9) (va_K.moved hW.alike hK9) hD9)⟩, hS.F ht⟩) hS.2.2 dX13_product_13
set_option maxHeartbeats 4000000 in
set_option maxRecDepth 100000 in
/-- X13_product, a road -/
theorem c_X13_product_r1 (l : Launch) (dC : Nat → ClassId) (dI : Nat → Nat → Nat) (sz : Nat) (p0 : Int64) (p1 : Int64) (hn_0 : ¬ p1 = 0) (hc_0 : ¬ (lg_cmp p0 0) = 0) (hc_1 : ¬ (lg_cmp p1 0) = 0) (hc_2 : 0 ≤ (lg_cmp p0 0)) (hc_3 : 0 ≤ (lg_cmp p1 0)) (hc_4 : 0 ≤ (lg_cmp p0 0)) (hc_5 : 0 ≤ (lg_cmp p1 0)) (hc_6 : (lg_cmp p0 (2199023255552 / p1)) ≤ 0) : Met l yX13_product wsX13_product ({ frames := 0, cells := 0, slots := 0, locals := 0 }) (zPc dC dI sz [.long p0, .long p1] [] []) (va_Ql (fun (r : Int64) (_ : Unit) => r = (p0 * p1)) (zB dC dI (fun _ => []) (fun _ : Unit => []) (va_A [] sz)) (va_A [] sz)) 0 0 (va_A [] sz) := by
  refine Met.ofW (cc := cX13_product) (maxL := 9) (ret := (some .long)) (by decide) rfl ?_
  intro p e s m args below meth c s₁ B hml hv
  obtain ⟨rfl, hsz, hP, hK, hD0⟩ := hv
  have hx := B.exec
  have hb := B.bytes
  have hr := B.returns
  have hts := atoms_spec (ws := wsX13_product) B.pre
  have hown : s.vm.findClass RX13 = some m.cls := findClass_of_methodNamed B.named
  have hlocks := B.notSynchronized
  subst hsz
  have hD := hD0.self (sz := s.heap.size)
  generalize hAe : va_A [] s.heap.size = A at hD ⊢
  have hA : ∀ q : Nat, s.heap.size ≤ q → A q := fun q h => by rw [← hAe]; exact Or.inr h
  have hS : va_S A s.heap s.heap [] := va_S.rf
  have hP : va_P (dC, dI) vwCl [] s.heap := hP
  have hl := lv_entry ([.long p0, .long p1]) (n := 9) (Nat.le_of_ble_eq_true rfl)
  rw [lg_entry_eq]
  generalize (lg_sl ([.long p0, .long p1]) ++ List.replicate (9 - (lg_sl ([.long p0, .long p1])).length) Slot.unset).toArray = ls at hl ⊢
  have hl : lv_has ls 9 [(0, .long p0), (2, .long p1)] := hl
  refine lv_lload_n hx hb dX13_product_0 rfl (lv_at hl 0 rfl) ?_
  refine lv_lconst (v := 0) hx hb dX13_product_1 (by decide) ?_
  refine W.lcmp hx hb dX13_product_2 ?_
  refine lv_if_eq (tgt := 12) hx hb dX13_product_3 (by decide) (fun c_1 => absurd c_1 hc_0) (fun c_1 => ?_)
  refine lv_lload_n hx hb dX13_product_6 rfl (lv_at hl 1 rfl) ?_
  refine lv_lconst (v := 0) hx hb dX13_product_7 (by decide) ?_
  refine W.lcmp hx hb dX13_product_8 ?_
  refine lv_if_ne (tgt := 14) hx hb dX13_product_9 (by decide) (fun c_2 => ?_) (fun c_2 => absurd c_2 hc_1)
  refine lv_lload_n hx hb dX13_product_14 rfl (lv_at hl 0 rfl) ?_
  refine lv_lconst (v := 0) hx hb dX13_product_15 (by decide) ?_
  refine W.lcmp hx hb dX13_product_16 ?_
  refine lv_if_ge (tgt := 25) hx hb dX13_product_17 (by decide) (fun c_3 => ?_) (fun c_3 => absurd hc_2 c_3)
  refine lv_lload_n hx hb dX13_product_25 rfl (lv_at hl 0 rfl) ?_
  refine lv_lstore (lv' := [(4, .long p0), (0, .long p0), (2, .long p1)]) hx hb dX13_product_26 hl (by decide) rfl (fun ls hl => ?_)
  refine lv_lload_n hx hb dX13_product_28 rfl (lv_at hl 2 rfl) ?_
  refine lv_lconst (v := 0) hx hb dX13_product_29 (by decide) ?_
  refine W.lcmp hx hb dX13_product_30 ?_
  refine lv_if_ge (tgt := 39) hx hb dX13_product_31 (by decide) (fun c_4 => ?_) (fun c_4 => absurd hc_3 c_4)
  refine lv_lload_n hx hb dX13_product_39 rfl (lv_at hl 2 rfl) ?_
  refine lv_lstore (lv' := [(6, .long p1), (4, .long p0), (0, .long p0), (2, .long p1)]) hx hb dX13_product_40 hl (by decide) rfl (fun ls hl => ?_)
  refine lv_lload_n hx hb dX13_product_42 rfl (lv_at hl 2 rfl) ?_
  refine lv_lconst (v := 0) hx hb dX13_product_43 (by decide) ?_
  refine W.lcmp hx hb dX13_product_44 ?_
  refine lv_if_ge (tgt := 52) hx hb dX13_product_45 (by decide) (fun c_5 => ?_) (fun c_5 => absurd hc_4 c_5)
  refine lv_iconst (v := 0) hx hb dX13_product_52 (by decide) ?_
  refine lv_lload_n hx hb dX13_product_53 rfl (lv_at hl 3 rfl) ?_
  refine lv_lconst (v := 0) hx hb dX13_product_54 (by decide) ?_
  refine W.lcmp hx hb dX13_product_55 ?_
  refine lv_if_ge (tgt := 63) hx hb dX13_product_56 (by decide) (fun c_6 => ?_) (fun c_6 => absurd hc_5 c_6)
  refine lv_iconst (v := 0) hx hb dX13_product_63 (by decide) ?_
  refine lv_icmp_eq (tgt := 71) hx hb dX13_product_64 (by decide) (fun c_7 => ?_) (fun c_7 => absurd (by decide) c_7)
  refine lv_iconst (v := 0) hx hb dX13_product_71 (by decide) ?_
  refine lv_istore (lv' := [(8, .int 0), (6, .long p1), (4, .long p0), (0, .long p0), (2, .long p1)]) hx hb dX13_product_72 hl (by decide) rfl (fun ls hl => ?_)
  refine lv_lload hx hb dX13_product_74 (lv_at hl 2 rfl) ?_
  refine lv_ldc2 (v := 2199023255552) hx hb hown (hts (.constantLong RX13 1128 (2199023255552)) (by decide +kernel)) dX13_product_76 ?_
  refine lv_lload hx hb dX13_product_79 (lv_at hl 1 rfl) ?_
  refine lv_ldiv hx hb dX13_product_81 hn_0 ?_
  refine W.lcmp hx hb dX13_product_82 ?_
  refine lv_if_le (tgt := 101) hx hb dX13_product_83 (by decide) (fun c_8 => ?_) (fun c_8 => absurd hc_6 c_8)
  refine lv_lload_n hx hb dX13_product_101 rfl (lv_at hl 3 rfl) ?_
  refine lv_lload_n hx hb dX13_product_102 rfl (lv_at hl 4 rfl) ?_
  refine lv_lmul hx hb dX13_product_103 ?_
  have hP9 := hP.sub (ws' := []) [] rfl
  have hD9 := hD.sub (ws' := []) [] (by decide) rfl
  have hK9 := hK.sub (tys' := []) [] rfl
  exact W.lret (v := (p0 * p1)) hx hb hr (fun t ht hW => ⟨⟨(p0 * p1), (), rfl, rfl, (zB_mk (by rw [ht]; exact hP9) (va_K.moved hW.alike hK9) hD9)⟩, hS.F ht⟩) hS.2.2 dX13_product_104
set_option maxHeartbeats 4000000 in
set_option maxRecDepth 100000 in
/-- X13_product, a road -/
theorem c_X13_product_r2 (l : Launch) (dC : Nat → ClassId) (dI : Nat → Nat → Nat) (sz : Nat) (p0 : Int64) (p1 : Int64) (hn_0 : ¬ p1 = 0) (hc_0 : ¬ (lg_cmp p0 0) = 0) (hc_1 : ¬ (lg_cmp p1 0) = 0) (hc_2 : 0 ≤ (lg_cmp p0 0)) (hc_3 : 0 ≤ (lg_cmp p1 0)) (hc_4 : 0 ≤ (lg_cmp p0 0)) (hc_5 : 0 ≤ (lg_cmp p1 0)) (hc_6 : ¬ (lg_cmp p0 (2199023255552 / p1)) ≤ 0) : Met l yX13_product wsX13_product ({ frames := 0, cells := 0, slots := 0, locals := 0 }) (zPc dC dI sz [.long p0, .long p1] [] []) (va_Ql (fun (r : Int64) (_ : Unit) => r = 4398046511104) (zB dC dI (fun _ => []) (fun _ : Unit => []) (va_A [] sz)) (va_A [] sz)) 0 0 (va_A [] sz) := by
  refine Met.ofW (cc := cX13_product) (maxL := 9) (ret := (some .long)) (by decide) rfl ?_
  intro p e s m args below meth c s₁ B hml hv
  obtain ⟨rfl, hsz, hP, hK, hD0⟩ := hv
  have hx := B.exec
  have hb := B.bytes
  have hr := B.returns
  have hts := atoms_spec (ws := wsX13_product) B.pre
  have hown : s.vm.findClass RX13 = some m.cls := findClass_of_methodNamed B.named
  have hlocks := B.notSynchronized
  subst hsz
  have hD := hD0.self (sz := s.heap.size)
  generalize hAe : va_A [] s.heap.size = A at hD ⊢
  have hA : ∀ q : Nat, s.heap.size ≤ q → A q := fun q h => by rw [← hAe]; exact Or.inr h
  have hS : va_S A s.heap s.heap [] := va_S.rf
  have hP : va_P (dC, dI) vwCl [] s.heap := hP
  have hl := lv_entry ([.long p0, .long p1]) (n := 9) (Nat.le_of_ble_eq_true rfl)
  rw [lg_entry_eq]
  generalize (lg_sl ([.long p0, .long p1]) ++ List.replicate (9 - (lg_sl ([.long p0, .long p1])).length) Slot.unset).toArray = ls at hl ⊢
  have hl : lv_has ls 9 [(0, .long p0), (2, .long p1)] := hl
  refine lv_lload_n hx hb dX13_product_0 rfl (lv_at hl 0 rfl) ?_
  refine lv_lconst (v := 0) hx hb dX13_product_1 (by decide) ?_
  refine W.lcmp hx hb dX13_product_2 ?_
  refine lv_if_eq (tgt := 12) hx hb dX13_product_3 (by decide) (fun c_1 => absurd c_1 hc_0) (fun c_1 => ?_)
  refine lv_lload_n hx hb dX13_product_6 rfl (lv_at hl 1 rfl) ?_
  refine lv_lconst (v := 0) hx hb dX13_product_7 (by decide) ?_
  refine W.lcmp hx hb dX13_product_8 ?_
  refine lv_if_ne (tgt := 14) hx hb dX13_product_9 (by decide) (fun c_2 => ?_) (fun c_2 => absurd c_2 hc_1)
  refine lv_lload_n hx hb dX13_product_14 rfl (lv_at hl 0 rfl) ?_
  refine lv_lconst (v := 0) hx hb dX13_product_15 (by decide) ?_
  refine W.lcmp hx hb dX13_product_16 ?_
  refine lv_if_ge (tgt := 25) hx hb dX13_product_17 (by decide) (fun c_3 => ?_) (fun c_3 => absurd hc_2 c_3)
  refine lv_lload_n hx hb dX13_product_25 rfl (lv_at hl 0 rfl) ?_
  refine lv_lstore (lv' := [(4, .long p0), (0, .long p0), (2, .long p1)]) hx hb dX13_product_26 hl (by decide) rfl (fun ls hl => ?_)
  refine lv_lload_n hx hb dX13_product_28 rfl (lv_at hl 2 rfl) ?_
  refine lv_lconst (v := 0) hx hb dX13_product_29 (by decide) ?_
  refine W.lcmp hx hb dX13_product_30 ?_
  refine lv_if_ge (tgt := 39) hx hb dX13_product_31 (by decide) (fun c_4 => ?_) (fun c_4 => absurd hc_3 c_4)
  refine lv_lload_n hx hb dX13_product_39 rfl (lv_at hl 2 rfl) ?_
  refine lv_lstore (lv' := [(6, .long p1), (4, .long p0), (0, .long p0), (2, .long p1)]) hx hb dX13_product_40 hl (by decide) rfl (fun ls hl => ?_)
  refine lv_lload_n hx hb dX13_product_42 rfl (lv_at hl 2 rfl) ?_
  refine lv_lconst (v := 0) hx hb dX13_product_43 (by decide) ?_
  refine W.lcmp hx hb dX13_product_44 ?_
  refine lv_if_ge (tgt := 52) hx hb dX13_product_45 (by decide) (fun c_5 => ?_) (fun c_5 => absurd hc_4 c_5)
  refine lv_iconst (v := 0) hx hb dX13_product_52 (by decide) ?_
  refine lv_lload_n hx hb dX13_product_53 rfl (lv_at hl 3 rfl) ?_
  refine lv_lconst (v := 0) hx hb dX13_product_54 (by decide) ?_
  refine W.lcmp hx hb dX13_product_55 ?_
  refine lv_if_ge (tgt := 63) hx hb dX13_product_56 (by decide) (fun c_6 => ?_) (fun c_6 => absurd hc_5 c_6)
  refine lv_iconst (v := 0) hx hb dX13_product_63 (by decide) ?_
  refine lv_icmp_eq (tgt := 71) hx hb dX13_product_64 (by decide) (fun c_7 => ?_) (fun c_7 => absurd (by decide) c_7)
  refine lv_iconst (v := 0) hx hb dX13_product_71 (by decide) ?_
  refine lv_istore (lv' := [(8, .int 0), (6, .long p1), (4, .long p0), (0, .long p0), (2, .long p1)]) hx hb dX13_product_72 hl (by decide) rfl (fun ls hl => ?_)
  refine lv_lload hx hb dX13_product_74 (lv_at hl 2 rfl) ?_
  refine lv_ldc2 (v := 2199023255552) hx hb hown (hts (.constantLong RX13 1128 (2199023255552)) (by decide +kernel)) dX13_product_76 ?_
  refine lv_lload hx hb dX13_product_79 (lv_at hl 1 rfl) ?_
  refine lv_ldiv hx hb dX13_product_81 hn_0 ?_
  refine W.lcmp hx hb dX13_product_82 ?_
  refine lv_if_le (tgt := 101) hx hb dX13_product_83 (by decide) (fun c_8 => absurd c_8 hc_6) (fun c_8 => ?_)
  refine lv_iload hx hb dX13_product_86 (lv_at hl 0 rfl) ?_
  refine lv_if_eq (tgt := 97) hx hb dX13_product_88 (by decide) (fun c_9 => ?_) (fun c_9 => absurd (by decide) c_9)
  refine lv_ldc2 (v := 4398046511104) hx hb hown (hts (.constantLong RX13 1132 (4398046511104)) (by decide +kernel)) dX13_product_97 ?_
  have hP9 := hP.sub (ws' := []) [] rfl
  have hD9 := hD.sub (ws' := []) [] (by decide) rfl
  have hK9 := hK.sub (tys' := []) [] rfl
  exact W.lret (v := 4398046511104) hx hb hr (fun t ht hW => ⟨⟨4398046511104, (), rfl, rfl, (zB_mk (by rw [ht]; exact hP9) (va_K.moved hW.alike hK9) hD9)⟩, hS.F ht⟩) hS.2.2 dX13_product_100
set_option maxHeartbeats 4000000 in
set_option maxRecDepth 100000 in
/-- X13_product, a road -/
theorem c_X13_product_r3 (l : Launch) (dC : Nat → ClassId) (dI : Nat → Nat → Nat) (sz : Nat) (p0 : Int64) (p1 : Int64) (hn_0 : ¬ p1 = 0) (hc_0 : ¬ (lg_cmp p0 0) = 0) (hc_1 : ¬ (lg_cmp p1 0) = 0) (hc_2 : 0 ≤ (lg_cmp p0 0)) (hc_3 : 0 ≤ (lg_cmp p1 0)) (hc_4 : 0 ≤ (lg_cmp p0 0)) (hc_5 : ¬ 0 ≤ (lg_cmp p1 0)) (hc_6 : (lg_cmp p0 (2199023255552 / p1)) ≤ 0) : Met l yX13_product wsX13_product ({ frames := 0, cells := 0, slots := 0, locals := 0 }) (zPc dC dI sz [.long p0, .long p1] [] []) (va_Ql (fun (r : Int64) (_ : Unit) => r = (p0 * p1)) (zB dC dI (fun _ => []) (fun _ : Unit => []) (va_A [] sz)) (va_A [] sz)) 0 0 (va_A [] sz) := by
  refine Met.ofW (cc := cX13_product) (maxL := 9) (ret := (some .long)) (by decide) rfl ?_
  intro p e s m args below meth c s₁ B hml hv
  obtain ⟨rfl, hsz, hP, hK, hD0⟩ := hv
  have hx := B.exec
  have hb := B.bytes
  have hr := B.returns
  have hts := atoms_spec (ws := wsX13_product) B.pre
  have hown : s.vm.findClass RX13 = some m.cls := findClass_of_methodNamed B.named
  have hlocks := B.notSynchronized
  subst hsz
  have hD := hD0.self (sz := s.heap.size)
  generalize hAe : va_A [] s.heap.size = A at hD ⊢
  have hA : ∀ q : Nat, s.heap.size ≤ q → A q := fun q h => by rw [← hAe]; exact Or.inr h
  have hS : va_S A s.heap s.heap [] := va_S.rf
  have hP : va_P (dC, dI) vwCl [] s.heap := hP
  have hl := lv_entry ([.long p0, .long p1]) (n := 9) (Nat.le_of_ble_eq_true rfl)
  rw [lg_entry_eq]
  generalize (lg_sl ([.long p0, .long p1]) ++ List.replicate (9 - (lg_sl ([.long p0, .long p1])).length) Slot.unset).toArray = ls at hl ⊢
  have hl : lv_has ls 9 [(0, .long p0), (2, .long p1)] := hl
  refine lv_lload_n hx hb dX13_product_0 rfl (lv_at hl 0 rfl) ?_
  refine lv_lconst (v := 0) hx hb dX13_product_1 (by decide) ?_
  refine W.lcmp hx hb dX13_product_2 ?_
  refine lv_if_eq (tgt := 12) hx hb dX13_product_3 (by decide) (fun c_1 => absurd c_1 hc_0) (fun c_1 => ?_)
  refine lv_lload_n hx hb dX13_product_6 rfl (lv_at hl 1 rfl) ?_
  refine lv_lconst (v := 0) hx hb dX13_product_7 (by decide) ?_
  refine W.lcmp hx hb dX13_product_8 ?_
  refine lv_if_ne (tgt := 14) hx hb dX13_product_9 (by decide) (fun c_2 => ?_) (fun c_2 => absurd c_2 hc_1)
  refine lv_lload_n hx hb dX13_product_14 rfl (lv_at hl 0 rfl) ?_
  refine lv_lconst (v := 0) hx hb dX13_product_15 (by decide) ?_
  refine W.lcmp hx hb dX13_product_16 ?_
  refine lv_if_ge (tgt := 25) hx hb dX13_product_17 (by decide) (fun c_3 => ?_) (fun c_3 => absurd hc_2 c_3)
  refine lv_lload_n hx hb dX13_product_25 rfl (lv_at hl 0 rfl) ?_
  refine lv_lstore (lv' := [(4, .long p0), (0, .long p0), (2, .long p1)]) hx hb dX13_product_26 hl (by decide) rfl (fun ls hl => ?_)
  refine lv_lload_n hx hb dX13_product_28 rfl (lv_at hl 2 rfl) ?_
  refine lv_lconst (v := 0) hx hb dX13_product_29 (by decide) ?_
  refine W.lcmp hx hb dX13_product_30 ?_
  refine lv_if_ge (tgt := 39) hx hb dX13_product_31 (by decide) (fun c_4 => ?_) (fun c_4 => absurd hc_3 c_4)
  refine lv_lload_n hx hb dX13_product_39 rfl (lv_at hl 2 rfl) ?_
  refine lv_lstore (lv' := [(6, .long p1), (4, .long p0), (0, .long p0), (2, .long p1)]) hx hb dX13_product_40 hl (by decide) rfl (fun ls hl => ?_)
  refine lv_lload_n hx hb dX13_product_42 rfl (lv_at hl 2 rfl) ?_
  refine lv_lconst (v := 0) hx hb dX13_product_43 (by decide) ?_
  refine W.lcmp hx hb dX13_product_44 ?_
  refine lv_if_ge (tgt := 52) hx hb dX13_product_45 (by decide) (fun c_5 => ?_) (fun c_5 => absurd hc_4 c_5)
  refine lv_iconst (v := 0) hx hb dX13_product_52 (by decide) ?_
  refine lv_lload_n hx hb dX13_product_53 rfl (lv_at hl 3 rfl) ?_
  refine lv_lconst (v := 0) hx hb dX13_product_54 (by decide) ?_
  refine W.lcmp hx hb dX13_product_55 ?_
  refine lv_if_ge (tgt := 63) hx hb dX13_product_56 (by decide) (fun c_6 => absurd c_6 hc_5) (fun c_6 => ?_)
  refine lv_iconst (v := 1) hx hb dX13_product_59 (by decide) ?_
  refine lv_goto (tgt := 64) hx hb dX13_product_60 (by decide) ?_
  refine lv_icmp_eq (tgt := 71) hx hb dX13_product_64 (by decide) (fun c_7 => absurd c_7 (by decide)) (fun c_7 => ?_)
  refine lv_iconst (v := 1) hx hb dX13_product_67 (by decide) ?_
  refine lv_goto (tgt := 72) hx hb dX13_product_68 (by decide) ?_
  refine lv_istore (lv' := [(8, .int 1), (6, .long p1), (4, .long p0), (0, .long p0), (2, .long p1)]) hx hb dX13_product_72 hl (by decide) rfl (fun ls hl => ?_)
  refine lv_lload hx hb dX13_product_74 (lv_at hl 2 rfl) ?_
  refine lv_ldc2 (v := 2199023255552) hx hb hown (hts (.constantLong RX13 1128 (2199023255552)) (by decide +kernel)) dX13_product_76 ?_
  refine lv_lload hx hb dX13_product_79 (lv_at hl 1 rfl) ?_
  refine lv_ldiv hx hb dX13_product_81 hn_0 ?_
  refine W.lcmp hx hb dX13_product_82 ?_
  refine lv_if_le (tgt := 101) hx hb dX13_product_83 (by decide) (fun c_8 => ?_) (fun c_8 => absurd hc_6 c_8)
  refine lv_lload_n hx hb dX13_product_101 rfl (lv_at hl 3 rfl) ?_
  refine lv_lload_n hx hb dX13_product_102 rfl (lv_at hl 4 rfl) ?_
  refine lv_lmul hx hb dX13_product_103 ?_
  have hP9 := hP.sub (ws' := []) [] rfl
  have hD9 := hD.sub (ws' := []) [] (by decide) rfl
  have hK9 := hK.sub (tys' := []) [] rfl
  exact W.lret (v := (p0 * p1)) hx hb hr (fun t ht hW => ⟨⟨(p0 * p1), (), rfl, rfl, (zB_mk (by rw [ht]; exact hP9) (va_K.moved hW.alike hK9) hD9)⟩, hS.F ht⟩) hS.2.2 dX13_product_104
set_option maxHeartbeats 4000000 in
set_option maxRecDepth 100000 in
/-- X13_product, a road -/
theorem c_X13_product_r4 (l : Launch) (dC : Nat → ClassId) (dI : Nat → Nat → Nat) (sz : Nat) (p0 : Int64) (p1 : Int64) (hn_0 : ¬ p1 = 0) (hc_0 : ¬ (lg_cmp p0 0) = 0) (hc_1 : ¬ (lg_cmp p1 0) = 0) (hc_2 : 0 ≤ (lg_cmp p0 0)) (hc_3 : 0 ≤ (lg_cmp p1 0)) (hc_4 : 0 ≤ (lg_cmp p0 0)) (hc_5 : ¬ 0 ≤ (lg_cmp p1 0)) (hc_6 : ¬ (lg_cmp p0 (2199023255552 / p1)) ≤ 0) : Met l yX13_product wsX13_product ({ frames := 0, cells := 0, slots := 0, locals := 0 }) (zPc dC dI sz [.long p0, .long p1] [] []) (va_Ql (fun (r : Int64) (_ : Unit) => r = (-4398046511104)) (zB dC dI (fun _ => []) (fun _ : Unit => []) (va_A [] sz)) (va_A [] sz)) 0 0 (va_A [] sz) := by
  refine Met.ofW (cc := cX13_product) (maxL := 9) (ret := (some .long)) (by decide) rfl ?_
  intro p e s m args below meth c s₁ B hml hv
  obtain ⟨rfl, hsz, hP, hK, hD0⟩ := hv
  have hx := B.exec
  have hb := B.bytes
  have hr := B.returns
  have hts := atoms_spec (ws := wsX13_product) B.pre
  have hown : s.vm.findClass RX13 = some m.cls := findClass_of_methodNamed B.named
  have hlocks := B.notSynchronized
  subst hsz
  have hD := hD0.self (sz := s.heap.size)
  generalize hAe : va_A [] s.heap.size = A at hD ⊢
  have hA : ∀ q : Nat, s.heap.size ≤ q → A q := fun q h => by rw [← hAe]; exact Or.inr h
  have hS : va_S A s.heap s.heap [] := va_S.rf
  have hP : va_P (dC, dI) vwCl [] s.heap := hP
  have hl := lv_entry ([.long p0, .long p1]) (n := 9) (Nat.le_of_ble_eq_true rfl)
  rw [lg_entry_eq]
  generalize (lg_sl ([.long p0, .long p1]) ++ List.replicate (9 - (lg_sl ([.long p0, .long p1])).length) Slot.unset).toArray = ls at hl ⊢
  have hl : lv_has ls 9 [(0, .long p0), (2, .long p1)] := hl
  refine lv_lload_n hx hb dX13_product_0 rfl (lv_at hl 0 rfl) ?_
  refine lv_lconst (v := 0) hx hb dX13_product_1 (by decide) ?_
  refine W.lcmp hx hb dX13_product_2 ?_
  refine lv_if_eq (tgt := 12) hx hb dX13_product_3 (by decide) (fun c_1 => absurd c_1 hc_0) (fun c_1 => ?_)
  refine lv_lload_n hx hb dX13_product_6 rfl (lv_at hl 1 rfl) ?_
  refine lv_lconst (v := 0) hx hb dX13_product_7 (by decide) ?_
  refine W.lcmp hx hb dX13_product_8 ?_
  refine lv_if_ne (tgt := 14) hx hb dX13_product_9 (by decide) (fun c_2 => ?_) (fun c_2 => absurd c_2 hc_1)
  refine lv_lload_n hx hb dX13_product_14 rfl (lv_at hl 0 rfl) ?_
  refine lv_lconst (v := 0) hx hb dX13_product_15 (by decide) ?_
  refine W.lcmp hx hb dX13_product_16 ?_
  refine lv_if_ge (tgt := 25) hx hb dX13_product_17 (by decide) (fun c_3 => ?_) (fun c_3 => absurd hc_2 c_3)
  refine lv_lload_n hx hb dX13_product_25 rfl (lv_at hl 0 rfl) ?_
  refine lv_lstore (lv' := [(4, .long p0), (0, .long p0), (2, .long p1)]) hx hb dX13_product_26 hl (by decide) rfl (fun ls hl => ?_)
  refine lv_lload_n hx hb dX13_product_28 rfl (lv_at hl 2 rfl) ?_
  refine lv_lconst (v := 0) hx hb dX13_product_29 (by decide) ?_
  refine W.lcmp hx hb dX13_product_30 ?_
  refine lv_if_ge (tgt := 39) hx hb dX13_product_31 (by decide) (fun c_4 => ?_) (fun c_4 => absurd hc_3 c_4)
  refine lv_lload_n hx hb dX13_product_39 rfl (lv_at hl 2 rfl) ?_
  refine lv_lstore (lv' := [(6, .long p1), (4, .long p0), (0, .long p0), (2, .long p1)]) hx hb dX13_product_40 hl (by decide) rfl (fun ls hl => ?_)
  refine lv_lload_n hx hb dX13_product_42 rfl (lv_at hl 2 rfl) ?_
  refine lv_lconst (v := 0) hx hb dX13_product_43 (by decide) ?_
  refine W.lcmp hx hb dX13_product_44 ?_
  refine lv_if_ge (tgt := 52) hx hb dX13_product_45 (by decide) (fun c_5 => ?_) (fun c_5 => absurd hc_4 c_5)
  refine lv_iconst (v := 0) hx hb dX13_product_52 (by decide) ?_
  refine lv_lload_n hx hb dX13_product_53 rfl (lv_at hl 3 rfl) ?_
  refine lv_lconst (v := 0) hx hb dX13_product_54 (by decide) ?_
  refine W.lcmp hx hb dX13_product_55 ?_
  refine lv_if_ge (tgt := 63) hx hb dX13_product_56 (by decide) (fun c_6 => absurd c_6 hc_5) (fun c_6 => ?_)
  refine lv_iconst (v := 1) hx hb dX13_product_59 (by decide) ?_
  refine lv_goto (tgt := 64) hx hb dX13_product_60 (by decide) ?_
  refine lv_icmp_eq (tgt := 71) hx hb dX13_product_64 (by decide) (fun c_7 => absurd c_7 (by decide)) (fun c_7 => ?_)
  refine lv_iconst (v := 1) hx hb dX13_product_67 (by decide) ?_
  refine lv_goto (tgt := 72) hx hb dX13_product_68 (by decide) ?_
  refine lv_istore (lv' := [(8, .int 1), (6, .long p1), (4, .long p0), (0, .long p0), (2, .long p1)]) hx hb dX13_product_72 hl (by decide) rfl (fun ls hl => ?_)
  refine lv_lload hx hb dX13_product_74 (lv_at hl 2 rfl) ?_
  refine lv_ldc2 (v := 2199023255552) hx hb hown (hts (.constantLong RX13 1128 (2199023255552)) (by decide +kernel)) dX13_product_76 ?_
  refine lv_lload hx hb dX13_product_79 (lv_at hl 1 rfl) ?_
  refine lv_ldiv hx hb dX13_product_81 hn_0 ?_
  refine W.lcmp hx hb dX13_product_82 ?_
  refine lv_if_le (tgt := 101) hx hb dX13_product_83 (by decide) (fun c_8 => absurd c_8 hc_6) (fun c_8 => ?_)
  refine lv_iload hx hb dX13_product_86 (lv_at hl 0 rfl) ?_
  refine lv_if_eq (tgt := 97) hx hb dX13_product_88 (by decide) (fun c_9 => absurd c_9 (by decide)) (fun c_9 => ?_)
  refine lv_ldc2 (v := -4398046511104) hx hb hown (hts (.constantLong RX13 1130 (-4398046511104)) (by decide +kernel)) dX13_product_91 ?_
  refine lv_goto (tgt := 100) hx hb dX13_product_94 (by decide) ?_
  have hP9 := hP.sub (ws' := []) [] rfl
  have hD9 := hD.sub (ws' := []) [] (by decide) rfl
  have hK9 := hK.sub (tys' := []) [] rfl
  exact W.lret (v := (-4398046511104)) hx hb hr (fun t ht hW => ⟨⟨(-4398046511104), (), rfl, rfl, (zB_mk (by rw [ht]; exact hP9) (va_K.moved hW.alike hK9) hD9)⟩, hS.F ht⟩) hS.2.2 dX13_product_100
set_option maxHeartbeats 4000000 in
set_option maxRecDepth 100000 in
/-- X13_product, a road -/
theorem c_X13_product_r5 (l : Launch) (dC : Nat → ClassId) (dI : Nat → Nat → Nat) (sz : Nat) (p0 : Int64) (p1 : Int64) (hn_0 : ¬ p1 = 0) (hc_0 : ¬ (lg_cmp p0 0) = 0) (hc_1 : ¬ (lg_cmp p1 0) = 0) (hc_2 : 0 ≤ (lg_cmp p0 0)) (hc_3 : 0 ≤ (lg_cmp p1 0)) (hc_4 : ¬ 0 ≤ (lg_cmp p0 0)) (hc_5 : 0 ≤ (lg_cmp p1 0)) (hc_6 : (lg_cmp p0 (2199023255552 / p1)) ≤ 0) : Met l yX13_product wsX13_product ({ frames := 0, cells := 0, slots := 0, locals := 0 }) (zPc dC dI sz [.long p0, .long p1] [] []) (va_Ql (fun (r : Int64) (_ : Unit) => r = (p0 * p1)) (zB dC dI (fun _ => []) (fun _ : Unit => []) (va_A [] sz)) (va_A [] sz)) 0 0 (va_A [] sz) := by
  refine Met.ofW (cc := cX13_product) (maxL := 9) (ret := (some .long)) (by decide) rfl ?_
  intro p e s m args below meth c s₁ B hml hv
  obtain ⟨rfl, hsz, hP, hK, hD0⟩ := hv
  have hx := B.exec
  have hb := B.bytes
  have hr := B.returns
  have hts := atoms_spec (ws := wsX13_product) B.pre
  have hown : s.vm.findClass RX13 = some m.cls := findClass_of_methodNamed B.named
  have hlocks := B.notSynchronized
  subst hsz
  have hD := hD0.self (sz := s.heap.size)
  generalize hAe : va_A [] s.heap.size = A at hD ⊢
  have hA : ∀ q : Nat, s.heap.size ≤ q → A q := fun q h => by rw [← hAe]; exact Or.inr h
  have hS : va_S A s.heap s.heap [] := va_S.rf
  have hP : va_P (dC, dI) vwCl [] s.heap := hP
  have hl := lv_entry ([.long p0, .long p1]) (n := 9) (Nat.le_of_ble_eq_true rfl)
  rw [lg_entry_eq]
  generalize (lg_sl ([.long p0, .long p1]) ++ List.replicate (9 - (lg_sl ([.long p0, .long p1])).length) Slot.unset).toArray = ls at hl ⊢
  have hl : lv_has ls 9 [(0, .long p0), (2, .long p1)] := hl
  refine lv_lload_n hx hb dX13_product_0 rfl (lv_at hl 0 rfl) ?_
  refine lv_lconst (v := 0) hx hb dX13_product_1 (by decide) ?_
  refine W.lcmp hx hb dX13_product_2 ?_
  refine lv_if_eq (tgt := 12) hx hb dX13_product_3 (by decide) (fun c_1 => absurd c_1 hc_0) (fun c_1 => ?_)
  refine lv_lload_n hx hb dX13_product_6 rfl (lv_at hl 1 rfl) ?_
  refine lv_lconst (v := 0) hx hb dX13_product_7 (by decide) ?_
  refine W.lcmp hx hb dX13_product_8 ?_
  refine lv_if_ne (tgt := 14) hx hb dX13_product_9 (by decide) (fun c_2 => ?_) (fun c_2 => absurd c_2 hc_1)
  refine lv_lload_n hx hb dX13_product_14 rfl (lv_at hl 0 rfl) ?_
  refine lv_lconst (v := 0) hx hb dX13_product_15 (by decide) ?_
  refine W.lcmp hx hb dX13_product_16 ?_
  refine lv_if_ge (tgt := 25) hx hb dX13_product_17 (by decide) (fun c_3 => ?_) (fun c_3 => absurd hc_2 c_3)
  refine lv_lload_n hx hb dX13_product_25 rfl (lv_at hl 0 rfl) ?_
  refine lv_lstore (lv' := [(4, .long p0), (0, .long p0), (2, .long p1)]) hx hb dX13_product_26 hl (by decide) rfl (fun ls hl => ?_)
  refine lv_lload_n hx hb dX13_product_28 rfl (lv_at hl 2 rfl) ?_
  refine lv_lconst (v := 0) hx hb dX13_product_29 (by decide) ?_
  refine W.lcmp hx hb dX13_product_30 ?_
  refine lv_if_ge (tgt := 39) hx hb dX13_product_31 (by decide) (fun c_4 => ?_) (fun c_4 => absurd hc_3 c_4)
  refine lv_lload_n hx hb dX13_product_39 rfl (lv_at hl 2 rfl) ?_
  refine lv_lstore (lv' := [(6, .long p1), (4, .long p0), (0, .long p0), (2, .long p1)]) hx hb dX13_product_40 hl (by decide) rfl (fun ls hl => ?_)
  refine lv_lload_n hx hb dX13_product_42 rfl (lv_at hl 2 rfl) ?_
  refine lv_lconst (v := 0) hx hb dX13_product_43 (by decide) ?_
  refine W.lcmp hx hb dX13_product_44 ?_
  refine lv_if_ge (tgt := 52) hx hb dX13_product_45 (by decide) (fun c_5 => absurd c_5 hc_4) (fun c_5 => ?_)
  refine lv_iconst (v := 1) hx hb dX13_product_48 (by decide) ?_
  refine lv_goto (tgt := 53) hx hb dX13_product_49 (by decide) ?_
  refine lv_lload_n hx hb dX13_product_53 rfl (lv_at hl 3 rfl) ?_
  refine lv_lconst (v := 0) hx hb dX13_product_54 (by decide) ?_
  refine W.lcmp hx hb dX13_product_55 ?_
  refine lv_if_ge (tgt := 63) hx hb dX13_product_56 (by decide) (fun c_6 => ?_) (fun c_6 => absurd hc_5 c_6)
  refine lv_iconst (v := 0) hx hb dX13_product_63 (by decide) ?_
  refine lv_icmp_eq (tgt := 71) hx hb dX13_product_64 (by decide) (fun c_7 => absurd c_7 (by decide)) (fun c_7 => ?_)
  refine lv_iconst (v := 1) hx hb dX13_product_67 (by decide) ?_
  refine lv_goto (tgt := 72) hx hb dX13_product_68 (by decide) ?_
  refine lv_istore (lv' := [(8, .int 1), (6, .long p1), (4, .long p0), (0, .long p0), (2, .long p1)]) hx hb dX13_product_72 hl (by decide) rfl (fun ls hl => ?_)
  refine lv_lload hx hb dX13_product_74 (lv_at hl 2 rfl) ?_
  refine lv_ldc2 (v := 2199023255552) hx hb hown (hts (.constantLong RX13 1128 (2199023255552)) (by decide +kernel)) dX13_product_76 ?_
  refine lv_lload hx hb dX13_product_79 (lv_at hl 1 rfl) ?_
  refine lv_ldiv hx hb dX13_product_81 hn_0 ?_
  refine W.lcmp hx hb dX13_product_82 ?_
  refine lv_if_le (tgt := 101) hx hb dX13_product_83 (by decide) (fun c_8 => ?_) (fun c_8 => absurd hc_6 c_8)
  refine lv_lload_n hx hb dX13_product_101 rfl (lv_at hl 3 rfl) ?_
  refine lv_lload_n hx hb dX13_product_102 rfl (lv_at hl 4 rfl) ?_
  refine lv_lmul hx hb dX13_product_103 ?_
  have hP9 := hP.sub (ws' := []) [] rfl
  have hD9 := hD.sub (ws' := []) [] (by decide) rfl
  have hK9 := hK.sub (tys' := []) [] rfl
  exact W.lret (v := (p0 * p1)) hx hb hr (fun t ht hW => ⟨⟨(p0 * p1), (), rfl, rfl, (zB_mk (by rw [ht]; exact hP9) (va_K.moved hW.alike hK9) hD9)⟩, hS.F ht⟩) hS.2.2 dX13_product_104
set_option maxHeartbeats 4000000 in
set_option maxRecDepth 100000 in
/-- X13_product, a road -/
theorem c_X13_product_r6 (l : Launch) (dC : Nat → ClassId) (dI : Nat → Nat → Nat) (sz : Nat) (p0 : Int64) (p1 : Int64) (hn_0 : ¬ p1 = 0) (hc_0 : ¬ (lg_cmp p0 0) = 0) (hc_1 : ¬ (lg_cmp p1 0) = 0) (hc_2 : 0 ≤ (lg_cmp p0 0)) (hc_3 : 0 ≤ (lg_cmp p1 0)) (hc_4 : ¬ 0 ≤ (lg_cmp p0 0)) (hc_5 : 0 ≤ (lg_cmp p1 0)) (hc_6 : ¬ (lg_cmp p0 (2199023255552 / p1)) ≤ 0) : Met l yX13_product wsX13_product ({ frames := 0, cells := 0, slots := 0, locals := 0 }) (zPc dC dI sz [.long p0, .long p1] [] []) (va_Ql (fun (r : Int64) (_ : Unit) => r = (-4398046511104)) (zB dC dI (fun _ => []) (fun _ : Unit => []) (va_A [] sz)) (va_A [] sz)) 0 0 (va_A [] sz) := by
  refine Met.ofW (cc := cX13_product) (maxL := 9) (ret := (some .long)) (by decide) rfl ?_
  intro p e s m args below meth c s₁ B hml hv
  obtain ⟨rfl, hsz, hP, hK, hD0⟩ := hv
  have hx := B.exec
  have hb := B.bytes
  have hr := B.returns
  have hts := atoms_spec (ws := wsX13_product) B.pre
  have hown : s.vm.findClass RX13 = some m.cls := findClass_of_methodNamed B.named
  have hlocks := B.notSynchronized
  subst hsz
  have hD := hD0.self (sz := s.heap.size)
  generalize hAe : va_A [] s.heap.size = A at hD ⊢
  have hA : ∀ q : Nat, s.heap.size ≤ q → A q := fun q h => by rw [← hAe]; exact Or.inr h
  have hS : va_S A s.heap s.heap [] := va_S.rf
  have hP : va_P (dC, dI) vwCl [] s.heap := hP
  have hl := lv_entry ([.long p0, .long p1]) (n := 9) (Nat.le_of_ble_eq_true rfl)
  rw [lg_entry_eq]
  generalize (lg_sl ([.long p0, .long p1]) ++ List.replicate (9 - (lg_sl ([.long p0, .long p1])).length) Slot.unset).toArray = ls at hl ⊢
  have hl : lv_has ls 9 [(0, .long p0), (2, .long p1)] := hl
  refine lv_lload_n hx hb dX13_product_0 rfl (lv_at hl 0 rfl) ?_
  refine lv_lconst (v := 0) hx hb dX13_product_1 (by decide) ?_
  refine W.lcmp hx hb dX13_product_2 ?_
  refine lv_if_eq (tgt := 12) hx hb dX13_product_3 (by decide) (fun c_1 => absurd c_1 hc_0) (fun c_1 => ?_)
  refine lv_lload_n hx hb dX13_product_6 rfl (lv_at hl 1 rfl) ?_
  refine lv_lconst (v := 0) hx hb dX13_product_7 (by decide) ?_
  refine W.lcmp hx hb dX13_product_8 ?_
  refine lv_if_ne (tgt := 14) hx hb dX13_product_9 (by decide) (fun c_2 => ?_) (fun c_2 => absurd c_2 hc_1)
  refine lv_lload_n hx hb dX13_product_14 rfl (lv_at hl 0 rfl) ?_
  refine lv_lconst (v := 0) hx hb dX13_product_15 (by decide) ?_
  refine W.lcmp hx hb dX13_product_16 ?_
  refine lv_if_ge (tgt := 25) hx hb dX13_product_17 (by decide) (fun c_3 => ?_) (fun c_3 => absurd hc_2 c_3)
  refine lv_lload_n hx hb dX13_product_25 rfl (lv_at hl 0 rfl) ?_
  refine lv_lstore (lv' := [(4, .long p0), (0, .long p0), (2, .long p1)]) hx hb dX13_product_26 hl (by decide) rfl (fun ls hl => ?_)
  refine lv_lload_n hx hb dX13_product_28 rfl (lv_at hl 2 rfl) ?_
  refine lv_lconst (v := 0) hx hb dX13_product_29 (by decide) ?_
  refine W.lcmp hx hb dX13_product_30 ?_
  refine lv_if_ge (tgt := 39) hx hb dX13_product_31 (by decide) (fun c_4 => ?_) (fun c_4 => absurd hc_3 c_4)
  refine lv_lload_n hx hb dX13_product_39 rfl (lv_at hl 2 rfl) ?_
  refine lv_lstore (lv' := [(6, .long p1), (4, .long p0), (0, .long p0), (2, .long p1)]) hx hb dX13_product_40 hl (by decide) rfl (fun ls hl => ?_)
  refine lv_lload_n hx hb dX13_product_42 rfl (lv_at hl 2 rfl) ?_
  refine lv_lconst (v := 0) hx hb dX13_product_43 (by decide) ?_
  refine W.lcmp hx hb dX13_product_44 ?_
  refine lv_if_ge (tgt := 52) hx hb dX13_product_45 (by decide) (fun c_5 => absurd c_5 hc_4) (fun c_5 => ?_)
  refine lv_iconst (v := 1) hx hb dX13_product_48 (by decide) ?_
  refine lv_goto (tgt := 53) hx hb dX13_product_49 (by decide) ?_
  refine lv_lload_n hx hb dX13_product_53 rfl (lv_at hl 3 rfl) ?_
  refine lv_lconst (v := 0) hx hb dX13_product_54 (by decide) ?_
  refine W.lcmp hx hb dX13_product_55 ?_
  refine lv_if_ge (tgt := 63) hx hb dX13_product_56 (by decide) (fun c_6 => ?_) (fun c_6 => absurd hc_5 c_6)
  refine lv_iconst (v := 0) hx hb dX13_product_63 (by decide) ?_
  refine lv_icmp_eq (tgt := 71) hx hb dX13_product_64 (by decide) (fun c_7 => absurd c_7 (by decide)) (fun c_7 => ?_)
  refine lv_iconst (v := 1) hx hb dX13_product_67 (by decide) ?_
  refine lv_goto (tgt := 72) hx hb dX13_product_68 (by decide) ?_
  refine lv_istore (lv' := [(8, .int 1), (6, .long p1), (4, .long p0), (0, .long p0), (2, .long p1)]) hx hb dX13_product_72 hl (by decide) rfl (fun ls hl => ?_)
  refine lv_lload hx hb dX13_product_74 (lv_at hl 2 rfl) ?_
  refine lv_ldc2 (v := 2199023255552) hx hb hown (hts (.constantLong RX13 1128 (2199023255552)) (by decide +kernel)) dX13_product_76 ?_
  refine lv_lload hx hb dX13_product_79 (lv_at hl 1 rfl) ?_
  refine lv_ldiv hx hb dX13_product_81 hn_0 ?_
  refine W.lcmp hx hb dX13_product_82 ?_
  refine lv_if_le (tgt := 101) hx hb dX13_product_83 (by decide) (fun c_8 => absurd c_8 hc_6) (fun c_8 => ?_)
  refine lv_iload hx hb dX13_product_86 (lv_at hl 0 rfl) ?_
  refine lv_if_eq (tgt := 97) hx hb dX13_product_88 (by decide) (fun c_9 => absurd c_9 (by decide)) (fun c_9 => ?_)
  refine lv_ldc2 (v := -4398046511104) hx hb hown (hts (.constantLong RX13 1130 (-4398046511104)) (by decide +kernel)) dX13_product_91 ?_
  refine lv_goto (tgt := 100) hx hb dX13_product_94 (by decide) ?_
  have hP9 := hP.sub (ws' := []) [] rfl
  have hD9 := hD.sub (ws' := []) [] (by decide) rfl
  have hK9 := hK.sub (tys' := []) [] rfl
  exact W.lret (v := (-4398046511104)) hx hb hr (fun t ht hW => ⟨⟨(-4398046511104), (), rfl, rfl, (zB_mk (by rw [ht]; exact hP9) (va_K.moved hW.alike hK9) hD9)⟩, hS.F ht⟩) hS.2.2 dX13_product_100
set_option maxHeartbeats 4000000 in
set_option maxRecDepth 100000 in
/-- X13_product, a road -/
theorem c_X13_product_r7 (l : Launch) (dC : Nat → ClassId) (dI : Nat → Nat → Nat) (sz : Nat) (p0 : Int64) (p1 : Int64) (hn_0 : ¬ p1 = 0) (hc_0 : ¬ (lg_cmp p0 0) = 0) (hc_1 : ¬ (lg_cmp p1 0) = 0) (hc_2 : 0 ≤ (lg_cmp p0 0)) (hc_3 : 0 ≤ (lg_cmp p1 0)) (hc_4 : ¬ 0 ≤ (lg_cmp p0 0)) (hc_5 : ¬ 0 ≤ (lg_cmp p1 0)) (hc_6 : (lg_cmp p0 (2199023255552 / p1)) ≤ 0) : Met l yX13_product wsX13_product ({ frames := 0, cells := 0, slots := 0, locals := 0 }) (zPc dC dI sz [.long p0, .long p1] [] []) (va_Ql (fun (r : Int64) (_ : Unit) => r = (p0 * p1)) (zB dC dI (fun _ => []) (fun _ : Unit => []) (va_A [] sz)) (va_A [] sz)) 0 0 (va_A [] sz) := by
  refine Met.ofW (cc := cX13_product) (maxL := 9) (ret := (some .long)) (by decide) rfl ?_
  intro p e s m args below meth c s₁ B hml hv
  obtain ⟨rfl, hsz, hP, hK, hD0⟩ := hv
  have hx := B.exec
  have hb := B.bytes
  have hr := B.returns
  have hts := atoms_spec (ws := wsX13_product) B.pre
  have hown : s.vm.findClass RX13 = some m.cls := findClass_of_methodNamed B.named
  have hlocks := B.notSynchronized
  subst hsz
  have hD := hD0.self (sz := s.heap.size)
  generalize hAe : va_A [] s.heap.size = A at hD ⊢
  have hA : ∀ q : Nat, s.heap.size ≤ q → A q := fun q h => by rw [← hAe]; exact Or.inr h
  have hS : va_S A s.heap s.heap [] := va_S.rf
  have hP : va_P (dC, dI) vwCl [] s.heap := hP
  have hl := lv_entry ([.long p0, .long p1]) (n := 9) (Nat.le_of_ble_eq_true rfl)
  rw [lg_entry_eq]
  generalize (lg_sl ([.long p0, .long p1]) ++ List.replicate (9 - (lg_sl ([.long p0, .long p1])).length) Slot.unset).toArray = ls at hl ⊢
  have hl : lv_has ls 9 [(0, .long p0), (2, .long p1)] := hl
  refine lv_lload_n hx hb dX13_product_0 rfl (lv_at hl 0 rfl) ?_
  refine lv_lconst (v := 0) hx hb dX13_product_1 (by decide) ?_
  refine W.lcmp hx hb dX13_product_2 ?_
  refine lv_if_eq (tgt := 12) hx hb dX13_product_3 (by decide) (fun c_1 => absurd c_1 hc_0) (fun c_1 => ?_)
  refine lv_lload_n hx hb dX13_product_6 rfl (lv_at hl 1 rfl) ?_
  refine lv_lconst (v := 0) hx hb dX13_product_7 (by decide) ?_
  refine W.lcmp hx hb dX13_product_8 ?_
  refine lv_if_ne (tgt := 14) hx hb dX13_product_9 (by decide) (fun c_2 => ?_) (fun c_2 => absurd c_2 hc_1)
  refine lv_lload_n hx hb dX13_product_14 rfl (lv_at hl 0 rfl) ?_
  refine lv_lconst (v := 0) hx hb dX13_product_15 (by decide) ?_
  refine W.lcmp hx hb dX13_product_16 ?_
  refine lv_if_ge (tgt := 25) hx hb dX13_product_17 (by decide) (fun c_3 => ?_) (fun c_3 => absurd hc_2 c_3)
  refine lv_lload_n hx hb dX13_product_25 rfl (lv_at hl 0 rfl) ?_
  refine lv_lstore (lv' := [(4, .long p0), (0, .long p0), (2, .long p1)]) hx hb dX13_product_26 hl (by decide) rfl (fun ls hl => ?_)
  refine lv_lload_n hx hb dX13_product_28 rfl (lv_at hl 2 rfl) ?_
  refine lv_lconst (v := 0) hx hb dX13_product_29 (by decide) ?_
  refine W.lcmp hx hb dX13_product_30 ?_
  refine lv_if_ge (tgt := 39) hx hb dX13_product_31 (by decide) (fun c_4 => ?_) (fun c_4 => absurd hc_3 c_4)
  refine lv_lload_n hx hb dX13_product_39 rfl (lv_at hl 2 rfl) ?_
  refine lv_lstore (lv' := [(6, .long p1), (4, .long p0), (0, .long p0), (2, .long p1)]) hx hb dX13_product_40 hl (by decide) rfl (fun ls hl => ?_)
  refine lv_lload_n hx hb dX13_product_42 rfl (lv_at hl 2 rfl) ?_
  refine lv_lconst (v := 0) hx hb dX13_product_43 (by decide) ?_
  refine W.lcmp hx hb dX13_product_44 ?_
  refine lv_if_ge (tgt := 52) hx hb dX13_product_45 (by decide) (fun c_5 => absurd c_5 hc_4) (fun c_5 => ?_)
  refine lv_iconst (v := 1) hx hb dX13_product_48 (by decide) ?_
  refine lv_goto (tgt := 53) hx hb dX13_product_49 (by decide) ?_
  refine lv_lload_n hx hb dX13_product_53 rfl (lv_at hl 3 rfl) ?_
  refine lv_lconst (v := 0) hx hb dX13_product_54 (by decide) ?_
  refine W.lcmp hx hb dX13_product_55 ?_
  refine lv_if_ge (tgt := 63) hx hb dX13_product_56 (by decide) (fun c_6 => absurd c_6 hc_5) (fun c_6 => ?_)
  refine lv_iconst (v := 1) hx hb dX13_product_59 (by decide) ?_
  refine lv_goto (tgt := 64) hx hb dX13_product_60 (by decide) ?_
  refine lv_icmp_eq (tgt := 71) hx hb dX13_product_64 (by decide) (fun c_7 => ?_) (fun c_7 => absurd (by decide) c_7)
  refine lv_iconst (v := 0) hx hb dX13_product_71 (by decide) ?_
  refine lv_istore (lv' := [(8, .int 0), (6, .long p1), (4, .long p0), (0, .long p0), (2, .long p1)]) hx hb dX13_product_72 hl (by decide) rfl (fun ls hl => ?_)
  refine lv_lload hx hb dX13_product_74 (lv_at hl 2 rfl) ?_
  refine lv_ldc2 (v := 2199023255552) hx hb hown (hts (.constantLong RX13 1128 (2199023255552)) (by decide +kernel)) dX13_product_76 ?_
  refine lv_lload hx hb dX13_product_79 (lv_at hl 1 rfl) ?_
  refine lv_ldiv hx hb dX13_product_81 hn_0 ?_
  refine W.lcmp hx hb dX13_product_82 ?_
  refine lv_if_le (tgt := 101) hx hb dX13_product_83 (by decide) (fun c_8 => ?_) (fun c_8 => absurd hc_6 c_8)
  refine lv_lload_n hx hb dX13_product_101 rfl (lv_at hl 3 rfl) ?_
  refine lv_lload_n hx hb dX13_product_102 rfl (lv_at hl 4 rfl) ?_
  refine lv_lmul hx hb dX13_product_103 ?_
  have hP9 := hP.sub (ws' := []) [] rfl
  have hD9 := hD.sub (ws' := []) [] (by decide) rfl
  have hK9 := hK.sub (tys' := []) [] rfl
  exact W.lret (v := (p0 * p1)) hx hb hr (fun t ht hW => ⟨⟨(p0 * p1), (), rfl, rfl, (zB_mk (by rw [ht]; exact hP9) (va_K.moved hW.alike hK9) hD9)⟩, hS.F ht⟩) hS.2.2 dX13_product_104
set_option maxHeartbeats 4000000 in
set_option maxRecDepth 100000 in
/-- X13_product, a road -/
theorem c_X13_product_r8 (l : Launch) (dC : Nat → ClassId) (dI : Nat → Nat → Nat) (sz : Nat) (p0 : Int64) (p1 : Int64) (hn_0 : ¬ p1 = 0) (hc_0 : ¬ (lg_cmp p0 0) = 0) (hc_1 : ¬ (lg_cmp p1 0) = 0) (hc_2 : 0 ≤ (lg_cmp p0 0)) (hc_3 : 0 ≤ (lg_cmp p1 0)) (hc_4 : ¬ 0 ≤ (lg_cmp p0 0)) (hc_5 : ¬ 0 ≤ (lg_cmp p1 0)) (hc_6 : ¬ (lg_cmp p0 (2199023255552 / p1)) ≤ 0) : Met l yX13_product wsX13_product ({ frames := 0, cells := 0, slots := 0, locals := 0 }) (zPc dC dI sz [.long p0, .long p1] [] []) (va_Ql (fun (r : Int64) (_ : Unit) => r = 4398046511104) (zB dC dI (fun _ => []) (fun _ : Unit => []) (va_A [] sz)) (va_A [] sz)) 0 0 (va_A [] sz) := by
  refine Met.ofW (cc := cX13_product) (maxL := 9) (ret := (some .long)) (by decide) rfl ?_
  intro p e s m args below meth c s₁ B hml hv
  obtain ⟨rfl, hsz, hP, hK, hD0⟩ := hv
  have hx := B.exec
  have hb := B.bytes
  have hr := B.returns
  have hts := atoms_spec (ws := wsX13_product) B.pre
  have hown : s.vm.findClass RX13 = some m.cls := findClass_of_methodNamed B.named
  have hlocks := B.notSynchronized
  subst hsz
  have hD := hD0.self (sz := s.heap.size)
  generalize hAe : va_A [] s.heap.size = A at hD ⊢
  have hA : ∀ q : Nat, s.heap.size ≤ q → A q := fun q h => by rw [← hAe]; exact Or.inr h
  have hS : va_S A s.heap s.heap [] := va_S.rf
  have hP : va_P (dC, dI) vwCl [] s.heap := hP
  have hl := lv_entry ([.long p0, .long p1]) (n := 9) (Nat.le_of_ble_eq_true rfl)
  rw [lg_entry_eq]
  generalize (lg_sl ([.long p0, .long p1]) ++ List.replicate (9 - (lg_sl ([.long p0, .long p1])).length) Slot.unset).toArray = ls at hl ⊢
  have hl : lv_has ls 9 [(0, .long p0), (2, .long p1)] := hl
  refine lv_lload_n hx hb dX13_product_0 rfl (lv_at hl 0 rfl) ?_
  refine lv_lconst (v := 0) hx hb dX13_product_1 (by decide) ?_
  refine W.lcmp hx hb dX13_product_2 ?_
  refine lv_if_eq (tgt := 12) hx hb dX13_product_3 (by decide) (fun c_1 => absurd c_1 hc_0) (fun c_1 => ?_)
  refine lv_lload_n hx hb dX13_product_6 rfl (lv_at hl 1 rfl) ?_
  refine lv_lconst (v := 0) hx hb dX13_product_7 (by decide) ?_
  refine W.lcmp hx hb dX13_product_8 ?_
  refine lv_if_ne (tgt := 14) hx hb dX13_product_9 (by decide) (fun c_2 => ?_) (fun c_2 => absurd c_2 hc_1)
  refine lv_lload_n hx hb dX13_product_14 rfl (lv_at hl 0 rfl) ?_
  refine lv_lconst (v := 0) hx hb dX13_product_15 (by decide) ?_
  refine W.lcmp hx hb dX13_product_16 ?_
  refine lv_if_ge (tgt := 25) hx hb dX13_product_17 (by decide) (fun c_3 => ?_) (fun c_3 => absurd hc_2 c_3)
  refine lv_lload_n hx hb dX13_product_25 rfl (lv_at hl 0 rfl) ?_
  refine lv_lstore (lv' := [(4, .long p0), (0, .long p0), (2, .long p1)]) hx hb dX13_product_26 hl (by decide) rfl (fun ls hl => ?_)
  refine lv_lload_n hx hb dX13_product_28 rfl (lv_at hl 2 rfl) ?_
  refine lv_lconst (v := 0) hx hb dX13_product_29 (by decide) ?_
  refine W.lcmp hx hb dX13_product_30 ?_
  refine lv_if_ge (tgt := 39) hx hb dX13_product_31 (by decide) (fun c_4 => ?_) (fun c_4 => absurd hc_3 c_4)
  refine lv_lload_n hx hb dX13_product_39 rfl (lv_at hl 2 rfl) ?_
  refine lv_lstore (lv' := [(6, .long p1), (4, .long p0), (0, .long p0), (2, .long p1)]) hx hb dX13_product_40 hl (by decide) rfl (fun ls hl => ?_)
  refine lv_lload_n hx hb dX13_product_42 rfl (lv_at hl 2 rfl) ?_
  refine lv_lconst (v := 0) hx hb dX13_product_43 (by decide) ?_
  refine W.lcmp hx hb dX13_product_44 ?_
  refine lv_if_ge (tgt := 52) hx hb dX13_product_45 (by decide) (fun c_5 => absurd c_5 hc_4) (fun c_5 => ?_)
  refine lv_iconst (v := 1) hx hb dX13_product_48 (by decide) ?_
  refine lv_goto (tgt := 53) hx hb dX13_product_49 (by decide) ?_
  refine lv_lload_n hx hb dX13_product_53 rfl (lv_at hl 3 rfl) ?_
  refine lv_lconst (v := 0) hx hb dX13_product_54 (by decide) ?_
  refine W.lcmp hx hb dX13_product_55 ?_
  refine lv_if_ge (tgt := 63) hx hb dX13_product_56 (by decide) (fun c_6 => absurd c_6 hc_5) (fun c_6 => ?_)
  refine lv_iconst (v := 1) hx hb dX13_product_59 (by decide) ?_
  refine lv_goto (tgt := 64) hx hb dX13_product_60 (by decide) ?_
  refine lv_icmp_eq (tgt := 71) hx hb dX13_product_64 (by decide) (fun c_7 => ?_) (fun c_7 => absurd (by decide) c_7)
  refine lv_iconst (v := 0) hx hb dX13_product_71 (by decide) ?_
  refine lv_istore (lv' := [(8, .int 0), (6, .long p1), (4, .long p0), (0, .long p0), (2, .long p1)]) hx hb dX13_product_72 hl (by decide) rfl (fun ls hl => ?_)
  refine lv_lload hx hb dX13_product_74 (lv_at hl 2 rfl) ?_
  refine lv_ldc2 (v := 2199023255552) hx hb hown (hts (.constantLong RX13 1128 (2199023255552)) (by decide +kernel)) dX13_product_76 ?_
  refine lv_lload hx hb dX13_product_79 (lv_at hl 1 rfl) ?_
  refine lv_ldiv hx hb dX13_product_81 hn_0 ?_
  refine W.lcmp hx hb dX13_product_82 ?_
  refine lv_if_le (tgt := 101) hx hb dX13_product_83 (by decide) (fun c_8 => absurd c_8 hc_6) (fun c_8 => ?_)
  refine lv_iload hx hb dX13_product_86 (lv_at hl 0 rfl) ?_
  refine lv_if_eq (tgt := 97) hx hb dX13_product_88 (by decide) (fun c_9 => ?_) (fun c_9 => absurd (by decide) c_9)
  refine lv_ldc2 (v := 4398046511104) hx hb hown (hts (.constantLong RX13 1132 (4398046511104)) (by decide +kernel)) dX13_product_97 ?_
  have hP9 := hP.sub (ws' := []) [] rfl
  have hD9 := hD.sub (ws' := []) [] (by decide) rfl
  have hK9 := hK.sub (tys' := []) [] rfl
  exact W.lret (v := 4398046511104) hx hb hr (fun t ht hW => ⟨⟨4398046511104, (), rfl, rfl, (zB_mk (by rw [ht]; exact hP9) (va_K.moved hW.alike hK9) hD9)⟩, hS.F ht⟩) hS.2.2 dX13_product_100
set_option maxHeartbeats 4000000 in
set_option maxRecDepth 100000 in
/-- X13_product, a road -/
theorem c_X13_product_r9 (l : Launch) (dC : Nat → ClassId) (dI : Nat → Nat → Nat) (sz : Nat) (p0 : Int64) (p1 : Int64) (hn_0 : ¬ (-p1) = 0) (hc_0 : ¬ (lg_cmp p0 0) = 0) (hc_1 : ¬ (lg_cmp p1 0) = 0) (hc_2 : 0 ≤ (lg_cmp p0 0)) (hc_3 : ¬ 0 ≤ (lg_cmp p1 0)) (hc_4 : 0 ≤ (lg_cmp p0 0)) (hc_5 : 0 ≤ (lg_cmp p1 0)) (hc_6 : (lg_cmp p0 (2199023255552 / (-p1))) ≤ 0) : Met l yX13_product wsX13_product ({ frames := 0, cells := 0, slots := 0, locals := 0 }) (zPc dC dI sz [.long p0, .long p1] [] []) (va_Ql (fun (r : Int64) (_ : Unit) => r = (p0 * p1)) (zB dC dI (fun _ => []) (fun _ : Unit => []) (va_A [] sz)) (va_A [] sz)) 0 0 (va_A [] sz) := by
  refine Met.ofW (cc := cX13_product) (maxL := 9) (ret := (some .long)) (by decide) rfl ?_
  intro p e s m args below meth c s₁ B hml hv
  obtain ⟨rfl, hsz, hP, hK, hD0⟩ := hv
  have hx := B.exec
  have hb := B.bytes
  have hr := B.returns
  have hts := atoms_spec (ws := wsX13_product) B.pre
  have hown : s.vm.findClass RX13 = some m.cls := findClass_of_methodNamed B.named
  have hlocks := B.notSynchronized
  subst hsz
  have hD := hD0.self (sz := s.heap.size)
  generalize hAe : va_A [] s.heap.size = A at hD ⊢
  have hA : ∀ q : Nat, s.heap.size ≤ q → A q := fun q h => by rw [← hAe]; exact Or.inr h
  have hS : va_S A s.heap s.heap [] := va_S.rf
  have hP : va_P (dC, dI) vwCl [] s.heap := hP
  have hl := lv_entry ([.long p0, .long p1]) (n := 9) (Nat.le_of_ble_eq_true rfl)
  rw [lg_entry_eq]
  generalize (lg_sl ([.long p0, .long p1]) ++ List.replicate (9 - (lg_sl ([.long p0, .long p1])).length) Slot.unset).toArray = ls at hl ⊢
  have hl : lv_has ls 9 [(0, .long p0), (2, .long p1)] := hl
  refine lv_lload_n hx hb dX13_product_0 rfl (lv_at hl 0 rfl) ?_
  refine lv_lconst (v := 0) hx hb dX13_product_1 (by decide) ?_
  refine W.lcmp hx hb dX13_product_2 ?_
  refine lv_if_eq (tgt := 12) hx hb dX13_product_3 (by decide) (fun c_1 => absurd c_1 hc_0) (fun c_1 => ?_)
  refine lv_lload_n hx hb dX13_product_6 rfl (lv_at hl 1 rfl) ?_
  refine lv_lconst (v := 0) hx hb dX13_product_7 (by decide) ?_
  refine W.lcmp hx hb dX13_product_8 ?_
  refine lv_if_ne (tgt := 14) hx hb dX13_product_9 (by decide) (fun c_2 => ?_) (fun c_2 => absurd c_2 hc_1)
  refine lv_lload_n hx hb dX13_product_14 rfl (lv_at hl 0 rfl) ?_
  refine lv_lconst (v := 0) hx hb dX13_product_15 (by decide) ?_
  refine W.lcmp hx hb dX13_product_16 ?_
  refine lv_if_ge (tgt := 25) hx hb dX13_product_17 (by decide) (fun c_3 => ?_) (fun c_3 => absurd hc_2 c_3)
  refine lv_lload_n hx hb dX13_product_25 rfl (lv_at hl 0 rfl) ?_
  refine lv_lstore (lv' := [(4, .long p0), (0, .long p0), (2, .long p1)]) hx hb dX13_product_26 hl (by decide) rfl (fun ls hl => ?_)
  refine lv_lload_n hx hb dX13_product_28 rfl (lv_at hl 2 rfl) ?_
  refine lv_lconst (v := 0) hx hb dX13_product_29 (by decide) ?_
  refine W.lcmp hx hb dX13_product_30 ?_
  refine lv_if_ge (tgt := 39) hx hb dX13_product_31 (by decide) (fun c_4 => absurd c_4 hc_3) (fun c_4 => ?_)
  refine lv_lload_n hx hb dX13_product_34 rfl (lv_at hl 2 rfl) ?_
  refine lv_lneg hx hb dX13_product_35 ?_
  refine lv_goto (tgt := 40) hx hb dX13_product_36 (by decide) ?_
  refine lv_lstore (lv' := [(6, .long (-p1)), (4, .long p0), (0, .long p0), (2, .long p1)]) hx hb dX13_product_40 hl (by decide) rfl (fun ls hl => ?_)
  refine lv_lload_n hx hb dX13_product_42 rfl (lv_at hl 2 rfl) ?_
  refine lv_lconst (v := 0) hx hb dX13_product_43 (by decide) ?_
  refine W.lcmp hx hb dX13_product_44 ?_
  refine lv_if_ge (tgt := 52) hx hb dX13_product_45 (by decide) (fun c_5 => ?_) (fun c_5 => absurd hc_4 c_5)
  refine lv_iconst (v := 0) hx hb dX13_product_52 (by decide) ?_
  refine lv_lload_n hx hb dX13_product_53 rfl (lv_at hl 3 rfl) ?_
  refine lv_lconst (v := 0) hx hb dX13_product_54 (by decide) ?_
  refine W.lcmp hx hb dX13_product_55 ?_
  refine lv_if_ge (tgt := 63) hx hb dX13_product_56 (by decide) (fun c_6 => ?_) (fun c_6 => absurd hc_5 c_6)
  refine lv_iconst (v := 0) hx hb dX13_product_63 (by decide) ?_
  refine lv_icmp_eq (tgt := 71) hx hb dX13_product_64 (by decide) (fun c_7 => ?_) (fun c_7 => absurd (by decide) c_7)
  refine lv_iconst (v := 0) hx hb dX13_product_71 (by decide) ?_
  refine lv_istore (lv' := [(8, .int 0), (6, .long (-p1)), (4, .long p0), (0, .long p0), (2, .long p1)]) hx hb dX13_product_72 hl (by decide) rfl (fun ls hl => ?_)
  refine lv_lload hx hb dX13_product_74 (lv_at hl 2 rfl) ?_
  refine lv_ldc2 (v := 2199023255552) hx hb hown (hts (.constantLong RX13 1128 (2199023255552)) (by decide +kernel)) dX13_product_76 ?_
  refine lv_lload hx hb dX13_product_79 (lv_at hl 1 rfl) ?_
  refine lv_ldiv hx hb dX13_product_81 hn_0 ?_
  refine W.lcmp hx hb dX13_product_82 ?_
  refine lv_if_le (tgt := 101) hx hb dX13_product_83 (by decide) (fun c_8 => ?_) (fun c_8 => absurd hc_6 c_8)
  refine lv_lload_n hx hb dX13_product_101 rfl (lv_at hl 3 rfl) ?_
  refine lv_lload_n hx hb dX13_product_102 rfl (lv_at hl 4 rfl) ?_
  refine lv_lmul hx hb dX13_product_103 ?_
  have hP9 := hP.sub (ws' := []) [] rfl
  have hD9 := hD.sub (ws' := []) [] (by decide) rfl
  have hK9 := hK.sub (tys' := []) [] rfl
  exact W.lret (v := (p0 * p1)) hx hb hr (fun t ht hW => ⟨⟨(p0 * p1), (), rfl, rfl, (zB_mk (by rw [ht]; exact hP9) (va_K.moved hW.alike hK9) hD9)⟩, hS.F ht⟩) hS.2.2 dX13_product_104
set_option maxHeartbeats 4000000 in
set_option maxRecDepth 100000 in
/-- X13_product, a road -/
theorem c_X13_product_r10 (l : Launch) (dC : Nat → ClassId) (dI : Nat → Nat → Nat) (sz : Nat) (p0 : Int64) (p1 : Int64) (hn_0 : ¬ (-p1) = 0) (hc_0 : ¬ (lg_cmp p0 0) = 0) (hc_1 : ¬ (lg_cmp p1 0) = 0) (hc_2 : 0 ≤ (lg_cmp p0 0)) (hc_3 : ¬ 0 ≤ (lg_cmp p1 0)) (hc_4 : 0 ≤ (lg_cmp p0 0)) (hc_5 : 0 ≤ (lg_cmp p1 0)) (hc_6 : ¬ (lg_cmp p0 (2199023255552 / (-p1))) ≤ 0) : Met l yX13_product wsX13_product ({ frames := 0, cells := 0, slots := 0, locals := 0 }) (zPc dC dI sz [.long p0, .long p1] [] []) (va_Ql (fun (r : Int64) (_ : Unit) => r = 4398046511104) (zB dC dI (fun _ => []) (fun _ : Unit => []) (va_A [] sz)) (va_A [] sz)) 0 0 (va_A [] sz) := by
  refine Met.ofW (cc := cX13_product) (maxL := 9) (ret := (some .long)) (by decide) rfl ?_
  intro p e s m args below meth c s₁ B hml hv
  obtain ⟨rfl, hsz, hP, hK, hD0⟩ := hv
  have hx := B.exec
  have hb := B.bytes
  have hr := B.returns
  have hts := atoms_spec (ws := wsX13_product) B.pre
  have hown : s.vm.findClass RX13 = some m.cls := findClass_of_methodNamed B.named
  have hlocks := B.notSynchronized
  subst hsz
  have hD := hD0.self (sz := s.heap.size)
  generalize hAe : va_A [] s.heap.size = A at hD ⊢
  have hA : ∀ q : Nat, s.heap.size ≤ q → A q := fun q h => by rw [← hAe]; exact Or.inr h
  have hS : va_S A s.heap s.heap [] := va_S.rf
  have hP : va_P (dC, dI) vwCl [] s.heap := hP
  have hl := lv_entry ([.long p0, .long p1]) (n := 9) (Nat.le_of_ble_eq_true rfl)
  rw [lg_entry_eq]
  generalize (lg_sl ([.long p0, .long p1]) ++ List.replicate (9 - (lg_sl ([.long p0, .long p1])).length) Slot.unset).toArray = ls at hl ⊢
  have hl : lv_has ls 9 [(0, .long p0), (2, .long p1)] := hl
  refine lv_lload_n hx hb dX13_product_0 rfl (lv_at hl 0 rfl) ?_
  refine lv_lconst (v := 0) hx hb dX13_product_1 (by decide) ?_
  refine W.lcmp hx hb dX13_product_2 ?_
  refine lv_if_eq (tgt := 12) hx hb dX13_product_3 (by decide) (fun c_1 => absurd c_1 hc_0) (fun c_1 => ?_)
  refine lv_lload_n hx hb dX13_product_6 rfl (lv_at hl 1 rfl) ?_
  refine lv_lconst (v := 0) hx hb dX13_product_7 (by decide) ?_
  refine W.lcmp hx hb dX13_product_8 ?_
  refine lv_if_ne (tgt := 14) hx hb dX13_product_9 (by decide) (fun c_2 => ?_) (fun c_2 => absurd c_2 hc_1)
  refine lv_lload_n hx hb dX13_product_14 rfl (lv_at hl 0 rfl) ?_
  refine lv_lconst (v := 0) hx hb dX13_product_15 (by decide) ?_
  refine W.lcmp hx hb dX13_product_16 ?_
  refine lv_if_ge (tgt := 25) hx hb dX13_product_17 (by decide) (fun c_3 => ?_) (fun c_3 => absurd hc_2 c_3)
  refine lv_lload_n hx hb dX13_product_25 rfl (lv_at hl 0 rfl) ?_
  refine lv_lstore (lv' := [(4, .long p0), (0, .long p0), (2, .long p1)]) hx hb dX13_product_26 hl (by decide) rfl (fun ls hl => ?_)
  refine lv_lload_n hx hb dX13_product_28 rfl (lv_at hl 2 rfl) ?_
  refine lv_lconst (v := 0) hx hb dX13_product_29 (by decide) ?_
  refine W.lcmp hx hb dX13_product_30 ?_
  refine lv_if_ge (tgt := 39) hx hb dX13_product_31 (by decide) (fun c_4 => absurd c_4 hc_3) (fun c_4 => ?_)
  refine lv_lload_n hx hb dX13_product_34 rfl (lv_at hl 2 rfl) ?_
  refine lv_lneg hx hb dX13_product_35 ?_
  refine lv_goto (tgt := 40) hx hb dX13_product_36 (by decide) ?_
  refine lv_lstore (lv' := [(6, .long (-p1)), (4, .long p0), (0, .long p0), (2, .long p1)]) hx hb dX13_product_40 hl (by decide) rfl (fun ls hl => ?_)
  refine lv_lload_n hx hb dX13_product_42 rfl (lv_at hl 2 rfl) ?_
  refine lv_lconst (v := 0) hx hb dX13_product_43 (by decide) ?_
  refine W.lcmp hx hb dX13_product_44 ?_
  refine lv_if_ge (tgt := 52) hx hb dX13_product_45 (by decide) (fun c_5 => ?_) (fun c_5 => absurd hc_4 c_5)
  refine lv_iconst (v := 0) hx hb dX13_product_52 (by decide) ?_
  refine lv_lload_n hx hb dX13_product_53 rfl (lv_at hl 3 rfl) ?_
  refine lv_lconst (v := 0) hx hb dX13_product_54 (by decide) ?_
  refine W.lcmp hx hb dX13_product_55 ?_
  refine lv_if_ge (tgt := 63) hx hb dX13_product_56 (by decide) (fun c_6 => ?_) (fun c_6 => absurd hc_5 c_6)
  refine lv_iconst (v := 0) hx hb dX13_product_63 (by decide) ?_
  refine lv_icmp_eq (tgt := 71) hx hb dX13_product_64 (by decide) (fun c_7 => ?_) (fun c_7 => absurd (by decide) c_7)
  refine lv_iconst (v := 0) hx hb dX13_product_71 (by decide) ?_
  refine lv_istore (lv' := [(8, .int 0), (6, .long (-p1)), (4, .long p0), (0, .long p0), (2, .long p1)]) hx hb dX13_product_72 hl (by decide) rfl (fun ls hl => ?_)
  refine lv_lload hx hb dX13_product_74 (lv_at hl 2 rfl) ?_
  refine lv_ldc2 (v := 2199023255552) hx hb hown (hts (.constantLong RX13 1128 (2199023255552)) (by decide +kernel)) dX13_product_76 ?_
  refine lv_lload hx hb dX13_product_79 (lv_at hl 1 rfl) ?_
  refine lv_ldiv hx hb dX13_product_81 hn_0 ?_
  refine W.lcmp hx hb dX13_product_82 ?_
  refine lv_if_le (tgt := 101) hx hb dX13_product_83 (by decide) (fun c_8 => absurd c_8 hc_6) (fun c_8 => ?_)
  refine lv_iload hx hb dX13_product_86 (lv_at hl 0 rfl) ?_
  refine lv_if_eq (tgt := 97) hx hb dX13_product_88 (by decide) (fun c_9 => ?_) (fun c_9 => absurd (by decide) c_9)
  refine lv_ldc2 (v := 4398046511104) hx hb hown (hts (.constantLong RX13 1132 (4398046511104)) (by decide +kernel)) dX13_product_97 ?_
  have hP9 := hP.sub (ws' := []) [] rfl
  have hD9 := hD.sub (ws' := []) [] (by decide) rfl
  have hK9 := hK.sub (tys' := []) [] rfl
  exact W.lret (v := 4398046511104) hx hb hr (fun t ht hW => ⟨⟨4398046511104, (), rfl, rfl, (zB_mk (by rw [ht]; exact hP9) (va_K.moved hW.alike hK9) hD9)⟩, hS.F ht⟩) hS.2.2 dX13_product_100
set_option maxHeartbeats 4000000 in
set_option maxRecDepth 100000 in
/-- X13_product, a road -/
theorem c_X13_product_r11 (l : Launch) (dC : Nat → ClassId) (dI : Nat → Nat → Nat) (sz : Nat) (p0 : Int64) (p1 : Int64) (hn_0 : ¬ (-p1) = 0) (hc_0 : ¬ (lg_cmp p0 0) = 0) (hc_1 : ¬ (lg_cmp p1 0) = 0) (hc_2 : 0 ≤ (lg_cmp p0 0)) (hc_3 : ¬ 0 ≤ (lg_cmp p1 0)) (hc_4 : 0 ≤ (lg_cmp p0 0)) (hc_5 : ¬ 0 ≤ (lg_cmp p1 0)) (hc_6 : (lg_cmp p0 (2199023255552 / (-p1))) ≤ 0) : Met l yX13_product wsX13_product ({ frames := 0, cells := 0, slots := 0, locals := 0 }) (zPc dC dI sz [.long p0, .long p1] [] []) (va_Ql (fun (r : Int64) (_ : Unit) => r = (p0 * p1)) (zB dC dI (fun _ => []) (fun _ : Unit => []) (va_A [] sz)) (va_A [] sz)) 0 0 (va_A [] sz) := by
  refine Met.ofW (cc := cX13_product) (maxL := 9) (ret := (some .long)) (by decide) rfl ?_
  intro p e s m args below meth c s₁ B hml hv
  obtain ⟨rfl, hsz, hP, hK, hD0⟩ := hv
  have hx := B.exec
  have hb := B.bytes
  have hr := B.returns
  have hts := atoms_spec (ws := wsX13_product) B.pre
  have hown : s.vm.findClass RX13 = some m.cls := findClass_of_methodNamed B.named
  have hlocks := B.notSynchronized
  subst hsz
  have hD := hD0.self (sz := s.heap.size)
  generalize hAe : va_A [] s.heap.size = A at hD ⊢
  have hA : ∀ q : Nat, s.heap.size ≤ q → A q := fun q h => by rw [← hAe]; exact Or.inr h
  have hS : va_S A s.heap s.heap [] := va_S.rf
  have hP : va_P (dC, dI) vwCl [] s.heap := hP
  have hl := lv_entry ([.long p0, .long p1]) (n := 9) (Nat.le_of_ble_eq_true rfl)
  rw [lg_entry_eq]
  generalize (lg_sl ([.long p0, .long p1]) ++ List.replicate (9 - (lg_sl ([.long p0, .long p1])).length) Slot.unset).toArray = ls at hl ⊢
  have hl : lv_has ls 9 [(0, .long p0), (2, .long p1)] := hl
  refine lv_lload_n hx hb dX13_product_0 rfl (lv_at hl 0 rfl) ?_
  refine lv_lconst (v := 0) hx hb dX13_product_1 (by decide) ?_
  refine W.lcmp hx hb dX13_product_2 ?_
  refine lv_if_eq (tgt := 12) hx hb dX13_product_3 (by decide) (fun c_1 => absurd c_1 hc_0) (fun c_1 => ?_)
  refine lv_lload_n hx hb dX13_product_6 rfl (lv_at hl 1 rfl) ?_
  refine lv_lconst (v := 0) hx hb dX13_product_7 (by decide) ?_
  refine W.lcmp hx hb dX13_product_8 ?_
  refine lv_if_ne (tgt := 14) hx hb dX13_product_9 (by decide) (fun c_2 => ?_) (fun c_2 => absurd c_2 hc_1)
  refine lv_lload_n hx hb dX13_product_14 rfl (lv_at hl 0 rfl) ?_
  refine lv_lconst (v := 0) hx hb dX13_product_15 (by decide) ?_
  refine W.lcmp hx hb dX13_product_16 ?_
  refine lv_if_ge (tgt := 25) hx hb dX13_product_17 (by decide) (fun c_3 => ?_) (fun c_3 => absurd hc_2 c_3)
  refine lv_lload_n hx hb dX13_product_25 rfl (lv_at hl 0 rfl) ?_
  refine lv_lstore (lv' := [(4, .long p0), (0, .long p0), (2, .long p1)]) hx hb dX13_product_26 hl (by decide) rfl (fun ls hl => ?_)
  refine lv_lload_n hx hb dX13_product_28 rfl (lv_at hl 2 rfl) ?_
  refine lv_lconst (v := 0) hx hb dX13_product_29 (by decide) ?_
  refine W.lcmp hx hb dX13_product_30 ?_
  refine lv_if_ge (tgt := 39) hx hb dX13_product_31 (by decide) (fun c_4 => absurd c_4 hc_3) (fun c_4 => ?_)
  refine lv_lload_n hx hb dX13_product_34 rfl (lv_at hl 2 rfl) ?_
  refine lv_lneg hx hb dX13_product_35 ?_
  refine lv_goto (tgt := 40) hx hb dX13_product_36 (by decide) ?_
  refine lv_lstore (lv' := [(6, .long (-p1)), (4, .long p0), (0, .long p0), (2, .long p1)]) hx hb dX13_product_40 hl (by decide) rfl (fun ls hl => ?_)
  refine lv_lload_n hx hb dX13_product_42 rfl (lv_at hl 2 rfl) ?_
  refine lv_lconst (v := 0) hx hb dX13_product_43 (by decide) ?_
  refine W.lcmp hx hb dX13_product_44 ?_
  refine lv_if_ge (tgt := 52) hx hb dX13_product_45 (by decide) (fun c_5 => ?_) (fun c_5 => absurd hc_4 c_5)
  refine lv_iconst (v := 0) hx hb dX13_product_52 (by decide) ?_
  refine lv_lload_n hx hb dX13_product_53 rfl (lv_at hl 3 rfl) ?_
  refine lv_lconst (v := 0) hx hb dX13_product_54 (by decide) ?_
  refine W.lcmp hx hb dX13_product_55 ?_
  refine lv_if_ge (tgt := 63) hx hb dX13_product_56 (by decide) (fun c_6 => absurd c_6 hc_5) (fun c_6 => ?_)
  refine lv_iconst (v := 1) hx hb dX13_product_59 (by decide) ?_
  refine lv_goto (tgt := 64) hx hb dX13_product_60 (by decide) ?_
  refine lv_icmp_eq (tgt := 71) hx hb dX13_product_64 (by decide) (fun c_7 => absurd c_7 (by decide)) (fun c_7 => ?_)
  refine lv_iconst (v := 1) hx hb dX13_product_67 (by decide) ?_
  refine lv_goto (tgt := 72) hx hb dX13_product_68 (by decide) ?_
  refine lv_istore (lv' := [(8, .int 1), (6, .long (-p1)), (4, .long p0), (0, .long p0), (2, .long p1)]) hx hb dX13_product_72 hl (by decide) rfl (fun ls hl => ?_)
  refine lv_lload hx hb dX13_product_74 (lv_at hl 2 rfl) ?_
  refine lv_ldc2 (v := 2199023255552) hx hb hown (hts (.constantLong RX13 1128 (2199023255552)) (by decide +kernel)) dX13_product_76 ?_
  refine lv_lload hx hb dX13_product_79 (lv_at hl 1 rfl) ?_
  refine lv_ldiv hx hb dX13_product_81 hn_0 ?_
  refine W.lcmp hx hb dX13_product_82 ?_
  refine lv_if_le (tgt := 101) hx hb dX13_product_83 (by decide) (fun c_8 => ?_) (fun c_8 => absurd hc_6 c_8)
  refine lv_lload_n hx hb dX13_product_101 rfl (lv_at hl 3 rfl) ?_
  refine lv_lload_n hx hb dX13_product_102 rfl (lv_at hl 4 rfl) ?_
  refine lv_lmul hx hb dX13_product_103 ?_
  have hP9 := hP.sub (ws' := []) [] rfl
  have hD9 := hD.sub (ws' := []) [] (by decide) rfl
  have hK9 := hK.sub (tys' := []) [] rfl
  exact W.lret (v := (p0 * p1)) hx hb hr (fun t ht hW => ⟨⟨(p0 * p1), (), rfl, rfl, (zB_mk (by rw [ht]; exact hP9) (va_K.moved hW.alike hK9) hD9)⟩, hS.F ht⟩) hS.2.2 dX13_product_104
set_option maxHeartbeats 4000000 in
set_option maxRecDepth 100000 in
/-- X13_product, a road -/
theorem c_X13_product_r12 (l : Launch) (dC : Nat → ClassId) (dI : Nat → Nat → Nat) (sz : Nat) (p0 : Int64) (p1 : Int64) (hn_0 : ¬ (-p1) = 0) (hc_0 : ¬ (lg_cmp p0 0) = 0) (hc_1 : ¬ (lg_cmp p1 0) = 0) (hc_2 : 0 ≤ (lg_cmp p0 0)) (hc_3 : ¬ 0 ≤ (lg_cmp p1 0)) (hc_4 : 0 ≤ (lg_cmp p0 0)) (hc_5 : ¬ 0 ≤ (lg_cmp p1 0)) (hc_6 : ¬ (lg_cmp p0 (2199023255552 / (-p1))) ≤ 0) : Met l yX13_product wsX13_product ({ frames := 0, cells := 0, slots := 0, locals := 0 }) (zPc dC dI sz [.long p0, .long p1] [] []) (va_Ql (fun (r : Int64) (_ : Unit) => r = (-4398046511104)) (zB dC dI (fun _ => []) (fun _ : Unit => []) (va_A [] sz)) (va_A [] sz)) 0 0 (va_A [] sz) := by
  refine Met.ofW (cc := cX13_product) (maxL := 9) (ret := (some .long)) (by decide) rfl ?_
  intro p e s m args below meth c s₁ B hml hv
  obtain ⟨rfl, hsz, hP, hK, hD0⟩ := hv
  have hx := B.exec
  have hb := B.bytes
  have hr := B.returns
  have hts := atoms_spec (ws := wsX13_product) B.pre
  have hown : s.vm.findClass RX13 = some m.cls := findClass_of_methodNamed B.named
  have hlocks := B.notSynchronized
  subst hsz
  have hD := hD0.self (sz := s.heap.size)
  generalize hAe : va_A [] s.heap.size = A at hD ⊢
  have hA : ∀ q : Nat, s.heap.size ≤ q → A q := fun q h => by rw [← hAe]; exact Or.inr h
  have hS : va_S A s.heap s.heap [] := va_S.rf
  have hP : va_P (dC, dI) vwCl [] s.heap := hP
  have hl := lv_entry ([.long p0, .long p1]) (n := 9) (Nat.le_of_ble_eq_true rfl)
  rw [lg_entry_eq]
  generalize (lg_sl ([.long p0, .long p1]) ++ List.replicate (9 - (lg_sl ([.long p0, .long p1])).length) Slot.unset).toArray = ls at hl ⊢
  have hl : lv_has ls 9 [(0, .long p0), (2, .long p1)] := hl
  refine lv_lload_n hx hb dX13_product_0 rfl (lv_at hl 0 rfl) ?_
  refine lv_lconst (v := 0) hx hb dX13_product_1 (by decide) ?_
  refine W.lcmp hx hb dX13_product_2 ?_
  refine lv_if_eq (tgt := 12) hx hb dX13_product_3 (by decide) (fun c_1 => absurd c_1 hc_0) (fun c_1 => ?_)
  refine lv_lload_n hx hb dX13_product_6 rfl (lv_at hl 1 rfl) ?_
  refine lv_lconst (v := 0) hx hb dX13_product_7 (by decide) ?_
  refine W.lcmp hx hb dX13_product_8 ?_
  refine lv_if_ne (tgt := 14) hx hb dX13_product_9 (by decide) (fun c_2 => ?_) (fun c_2 => absurd c_2 hc_1)
  refine lv_lload_n hx hb dX13_product_14 rfl (lv_at hl 0 rfl) ?_
  refine lv_lconst (v := 0) hx hb dX13_product_15 (by decide) ?_
  refine W.lcmp hx hb dX13_product_16 ?_
  refine lv_if_ge (tgt := 25) hx hb dX13_product_17 (by decide) (fun c_3 => ?_) (fun c_3 => absurd hc_2 c_3)
  refine lv_lload_n hx hb dX13_product_25 rfl (lv_at hl 0 rfl) ?_
  refine lv_lstore (lv' := [(4, .long p0), (0, .long p0), (2, .long p1)]) hx hb dX13_product_26 hl (by decide) rfl (fun ls hl => ?_)
  refine lv_lload_n hx hb dX13_product_28 rfl (lv_at hl 2 rfl) ?_
  refine lv_lconst (v := 0) hx hb dX13_product_29 (by decide) ?_
  refine W.lcmp hx hb dX13_product_30 ?_
  refine lv_if_ge (tgt := 39) hx hb dX13_product_31 (by decide) (fun c_4 => absurd c_4 hc_3) (fun c_4 => ?_)
  refine lv_lload_n hx hb dX13_product_34 rfl (lv_at hl 2 rfl) ?_
  refine lv_lneg hx hb dX13_product_35 ?_
  refine lv_goto (tgt := 40) hx hb dX13_product_36 (by decide) ?_
  refine lv_lstore (lv' := [(6, .long (-p1)), (4, .long p0), (0, .long p0), (2, .long p1)]) hx hb dX13_product_40 hl (by decide) rfl (fun ls hl => ?_)
  refine lv_lload_n hx hb dX13_product_42 rfl (lv_at hl 2 rfl) ?_
  refine lv_lconst (v := 0) hx hb dX13_product_43 (by decide) ?_
  refine W.lcmp hx hb dX13_product_44 ?_
  refine lv_if_ge (tgt := 52) hx hb dX13_product_45 (by decide) (fun c_5 => ?_) (fun c_5 => absurd hc_4 c_5)
  refine lv_iconst (v := 0) hx hb dX13_product_52 (by decide) ?_
  refine lv_lload_n hx hb dX13_product_53 rfl (lv_at hl 3 rfl) ?_
  refine lv_lconst (v := 0) hx hb dX13_product_54 (by decide) ?_
  refine W.lcmp hx hb dX13_product_55 ?_
  refine lv_if_ge (tgt := 63) hx hb dX13_product_56 (by decide) (fun c_6 => absurd c_6 hc_5) (fun c_6 => ?_)
  refine lv_iconst (v := 1) hx hb dX13_product_59 (by decide) ?_
  refine lv_goto (tgt := 64) hx hb dX13_product_60 (by decide) ?_
  refine lv_icmp_eq (tgt := 71) hx hb dX13_product_64 (by decide) (fun c_7 => absurd c_7 (by decide)) (fun c_7 => ?_)
  refine lv_iconst (v := 1) hx hb dX13_product_67 (by decide) ?_
  refine lv_goto (tgt := 72) hx hb dX13_product_68 (by decide) ?_
  refine lv_istore (lv' := [(8, .int 1), (6, .long (-p1)), (4, .long p0), (0, .long p0), (2, .long p1)]) hx hb dX13_product_72 hl (by decide) rfl (fun ls hl => ?_)
  refine lv_lload hx hb dX13_product_74 (lv_at hl 2 rfl) ?_
  refine lv_ldc2 (v := 2199023255552) hx hb hown (hts (.constantLong RX13 1128 (2199023255552)) (by decide +kernel)) dX13_product_76 ?_
  refine lv_lload hx hb dX13_product_79 (lv_at hl 1 rfl) ?_
  refine lv_ldiv hx hb dX13_product_81 hn_0 ?_
  refine W.lcmp hx hb dX13_product_82 ?_
  refine lv_if_le (tgt := 101) hx hb dX13_product_83 (by decide) (fun c_8 => absurd c_8 hc_6) (fun c_8 => ?_)
  refine lv_iload hx hb dX13_product_86 (lv_at hl 0 rfl) ?_
  refine lv_if_eq (tgt := 97) hx hb dX13_product_88 (by decide) (fun c_9 => absurd c_9 (by decide)) (fun c_9 => ?_)
  refine lv_ldc2 (v := -4398046511104) hx hb hown (hts (.constantLong RX13 1130 (-4398046511104)) (by decide +kernel)) dX13_product_91 ?_
  refine lv_goto (tgt := 100) hx hb dX13_product_94 (by decide) ?_
  have hP9 := hP.sub (ws' := []) [] rfl
  have hD9 := hD.sub (ws' := []) [] (by decide) rfl
  have hK9 := hK.sub (tys' := []) [] rfl
  exact W.lret (v := (-4398046511104)) hx hb hr (fun t ht hW => ⟨⟨(-4398046511104), (), rfl, rfl, (zB_mk (by rw [ht]; exact hP9) (va_K.moved hW.alike hK9) hD9)⟩, hS.F ht⟩) hS.2.2 dX13_product_100
set_option maxHeartbeats 4000000 in
set_option maxRecDepth 100000 in
/-- X13_product, a road -/
theorem c_X13_product_r13 (l : Launch) (dC : Nat → ClassId) (dI : Nat → Nat → Nat) (sz : Nat) (p0 : Int64) (p1 : Int64) (hn_0 : ¬ (-p1) = 0) (hc_0 : ¬ (lg_cmp p0 0) = 0) (hc_1 : ¬ (lg_cmp p1 0) = 0) (hc_2 : 0 ≤ (lg_cmp p0 0)) (hc_3 : ¬ 0 ≤ (lg_cmp p1 0)) (hc_4 : ¬ 0 ≤ (lg_cmp p0 0)) (hc_5 : 0 ≤ (lg_cmp p1 0)) (hc_6 : (lg_cmp p0 (2199023255552 / (-p1))) ≤ 0) : Met l yX13_product wsX13_product ({ frames := 0, cells := 0, slots := 0, locals := 0 }) (zPc dC dI sz [.long p0, .long p1] [] []) (va_Ql (fun (r : Int64) (_ : Unit) => r = (p0 * p1)) (zB dC dI (fun _ => []) (fun _ : Unit => []) (va_A [] sz)) (va_A [] sz)) 0 0 (va_A [] sz) := by
  refine Met.ofW (cc := cX13_product) (maxL := 9) (ret := (some .long)) (by decide) rfl ?_
  intro p e s m args below meth c s₁ B hml hv
  obtain ⟨rfl, hsz, hP, hK, hD0⟩ := hv
  have hx := B.exec
  have hb := B.bytes
  have hr := B.returns
  have hts := atoms_spec (ws := wsX13_product) B.pre
  have hown : s.vm.findClass RX13 = some m.cls := findClass_of_methodNamed B.named
  have hlocks := B.notSynchronized
  subst hsz
  have hD := hD0.self (sz := s.heap.size)
  generalize hAe : va_A [] s.heap.size = A at hD ⊢
  have hA : ∀ q : Nat, s.heap.size ≤ q → A q := fun q h => by rw [← hAe]; exact Or.inr h
  have hS : va_S A s.heap s.heap [] := va_S.rf
  have hP : va_P (dC, dI) vwCl [] s.heap := hP
  have hl := lv_entry ([.long p0, .long p1]) (n := 9) (Nat.le_of_ble_eq_true rfl)
  rw [lg_entry_eq]
  generalize (lg_sl ([.long p0, .long p1]) ++ List.replicate (9 - (lg_sl ([.long p0, .long p1])).length) Slot.unset).toArray = ls at hl ⊢
  have hl : lv_has ls 9 [(0, .long p0), (2, .long p1)] := hl
  refine lv_lload_n hx hb dX13_product_0 rfl (lv_at hl 0 rfl) ?_
  refine lv_lconst (v := 0) hx hb dX13_product_1 (by decide) ?_
  refine W.lcmp hx hb dX13_product_2 ?_
  refine lv_if_eq (tgt := 12) hx hb dX13_product_3 (by decide) (fun c_1 => absurd c_1 hc_0) (fun c_1 => ?_)
  refine lv_lload_n hx hb dX13_product_6 rfl (lv_at hl 1 rfl) ?_
  refine lv_lconst (v := 0) hx hb dX13_product_7 (by decide) ?_
  refine W.lcmp hx hb dX13_product_8 ?_
  refine lv_if_ne (tgt := 14) hx hb dX13_product_9 (by decide) (fun c_2 => ?_) (fun c_2 => absurd c_2 hc_1)
  refine lv_lload_n hx hb dX13_product_14 rfl (lv_at hl 0 rfl) ?_
  refine lv_lconst (v := 0) hx hb dX13_product_15 (by decide) ?_
  refine W.lcmp hx hb dX13_product_16 ?_
  refine lv_if_ge (tgt := 25) hx hb dX13_product_17 (by decide) (fun c_3 => ?_) (fun c_3 => absurd hc_2 c_3)
  refine lv_lload_n hx hb dX13_product_25 rfl (lv_at hl 0 rfl) ?_
  refine lv_lstore (lv' := [(4, .long p0), (0, .long p0), (2, .long p1)]) hx hb dX13_product_26 hl (by decide) rfl (fun ls hl => ?_)
  refine lv_lload_n hx hb dX13_product_28 rfl (lv_at hl 2 rfl) ?_
  refine lv_lconst (v := 0) hx hb dX13_product_29 (by decide) ?_
  refine W.lcmp hx hb dX13_product_30 ?_
  refine lv_if_ge (tgt := 39) hx hb dX13_product_31 (by decide) (fun c_4 => absurd c_4 hc_3) (fun c_4 => ?_)
  refine lv_lload_n hx hb dX13_product_34 rfl (lv_at hl 2 rfl) ?_
  refine lv_lneg hx hb dX13_product_35 ?_
  refine lv_goto (tgt := 40) hx hb dX13_product_36 (by decide) ?_
  refine lv_lstore (lv' := [(6, .long (-p1)), (4, .long p0), (0, .long p0), (2, .long p1)]) hx hb dX13_product_40 hl (by decide) rfl (fun ls hl => ?_)
  refine lv_lload_n hx hb dX13_product_42 rfl (lv_at hl 2 rfl) ?_
  refine lv_lconst (v := 0) hx hb dX13_product_43 (by decide) ?_
  refine W.lcmp hx hb dX13_product_44 ?_
  refine lv_if_ge (tgt := 52) hx hb dX13_product_45 (by decide) (fun c_5 => absurd c_5 hc_4) (fun c_5 => ?_)
  refine lv_iconst (v := 1) hx hb dX13_product_48 (by decide) ?_
  refine lv_goto (tgt := 53) hx hb dX13_product_49 (by decide) ?_
  refine lv_lload_n hx hb dX13_product_53 rfl (lv_at hl 3 rfl) ?_
  refine lv_lconst (v := 0) hx hb dX13_product_54 (by decide) ?_
  refine W.lcmp hx hb dX13_product_55 ?_
  refine lv_if_ge (tgt := 63) hx hb dX13_product_56 (by decide) (fun c_6 => ?_) (fun c_6 => absurd hc_5 c_6)
  refine lv_iconst (v := 0) hx hb dX13_product_63 (by decide) ?_
  refine lv_icmp_eq (tgt := 71) hx hb dX13_product_64 (by decide) (fun c_7 => absurd c_7 (by decide)) (fun c_7 => ?_)
  refine lv_iconst (v := 1) hx hb dX13_product_67 (by decide) ?_
  refine lv_goto (tgt := 72) hx hb dX13_product_68 (by decide) ?_
  refine lv_istore (lv' := [(8, .int 1), (6, .long (-p1)), (4, .long p0), (0, .long p0), (2, .long p1)]) hx hb dX13_product_72 hl (by decide) rfl (fun ls hl => ?_)
  refine lv_lload hx hb dX13_product_74 (lv_at hl 2 rfl) ?_
  refine lv_ldc2 (v := 2199023255552) hx hb hown (hts (.constantLong RX13 1128 (2199023255552)) (by decide +kernel)) dX13_product_76 ?_
  refine lv_lload hx hb dX13_product_79 (lv_at hl 1 rfl) ?_
  refine lv_ldiv hx hb dX13_product_81 hn_0 ?_
  refine W.lcmp hx hb dX13_product_82 ?_
  refine lv_if_le (tgt := 101) hx hb dX13_product_83 (by decide) (fun c_8 => ?_) (fun c_8 => absurd hc_6 c_8)
  refine lv_lload_n hx hb dX13_product_101 rfl (lv_at hl 3 rfl) ?_
  refine lv_lload_n hx hb dX13_product_102 rfl (lv_at hl 4 rfl) ?_
  refine lv_lmul hx hb dX13_product_103 ?_
  have hP9 := hP.sub (ws' := []) [] rfl
  have hD9 := hD.sub (ws' := []) [] (by decide) rfl
  have hK9 := hK.sub (tys' := []) [] rfl
  exact W.lret (v := (p0 * p1)) hx hb hr (fun t ht hW => ⟨⟨(p0 * p1), (), rfl, rfl, (zB_mk (by rw [ht]; exact hP9) (va_K.moved hW.alike hK9) hD9)⟩, hS.F ht⟩) hS.2.2 dX13_product_104
set_option maxHeartbeats 4000000 in
set_option maxRecDepth 100000 in
/-- X13_product, a road -/
theorem c_X13_product_r14 (l : Launch) (dC : Nat → ClassId) (dI : Nat → Nat → Nat) (sz : Nat) (p0 : Int64) (p1 : Int64) (hn_0 : ¬ (-p1) = 0) (hc_0 : ¬ (lg_cmp p0 0) = 0) (hc_1 : ¬ (lg_cmp p1 0) = 0) (hc_2 : 0 ≤ (lg_cmp p0 0)) (hc_3 : ¬ 0 ≤ (lg_cmp p1 0)) (hc_4 : ¬ 0 ≤ (lg_cmp p0 0)) (hc_5 : 0 ≤ (lg_cmp p1 0)) (hc_6 : ¬ (lg_cmp p0 (2199023255552 / (-p1))) ≤ 0) : Met l yX13_product wsX13_product ({ frames := 0, cells := 0, slots := 0, locals := 0 }) (zPc dC dI sz [.long p0, .long p1] [] []) (va_Ql (fun (r : Int64) (_ : Unit) => r = (-4398046511104)) (zB dC dI (fun _ => []) (fun _ : Unit => []) (va_A [] sz)) (va_A [] sz)) 0 0 (va_A [] sz) := by
  refine Met.ofW (cc := cX13_product) (maxL := 9) (ret := (some .long)) (by decide) rfl ?_
  intro p e s m args below meth c s₁ B hml hv
  obtain ⟨rfl, hsz, hP, hK, hD0⟩ := hv
  have hx := B.exec
  have hb := B.bytes
  have hr := B.returns
  have hts := atoms_spec (ws := wsX13_product) B.pre
  have hown : s.vm.findClass RX13 = some m.cls := findClass_of_methodNamed B.named
  have hlocks := B.notSynchronized
  subst hsz
  have hD := hD0.self (sz := s.heap.size)
  generalize hAe : va_A [] s.heap.size = A at hD ⊢
  have hA : ∀ q : Nat, s.heap.size ≤ q → A q := fun q h => by rw [← hAe]; exact Or.inr h
  have hS : va_S A s.heap s.heap [] := va_S.rf
  have hP : va_P (dC, dI) vwCl [] s.heap := hP
  have hl := lv_entry ([.long p0, .long p1]) (n := 9) (Nat.le_of_ble_eq_true rfl)
  rw [lg_entry_eq]
  generalize (lg_sl ([.long p0, .long p1]) ++ List.replicate (9 - (lg_sl ([.long p0, .long p1])).length) Slot.unset).toArray = ls at hl ⊢
  have hl : lv_has ls 9 [(0, .long p0), (2, .long p1)] := hl
  refine lv_lload_n hx hb dX13_product_0 rfl (lv_at hl 0 rfl) ?_
  refine lv_lconst (v := 0) hx hb dX13_product_1 (by decide) ?_
  refine W.lcmp hx hb dX13_product_2 ?_
  refine lv_if_eq (tgt := 12) hx hb dX13_product_3 (by decide) (fun c_1 => absurd c_1 hc_0) (fun c_1 => ?_)
  refine lv_lload_n hx hb dX13_product_6 rfl (lv_at hl 1 rfl) ?_
  refine lv_lconst (v := 0) hx hb dX13_product_7 (by decide) ?_
  refine W.lcmp hx hb dX13_product_8 ?_
  refine lv_if_ne (tgt := 14) hx hb dX13_product_9 (by decide) (fun c_2 => ?_) (fun c_2 => absurd c_2 hc_1)
  refine lv_lload_n hx hb dX13_product_14 rfl (lv_at hl 0 rfl) ?_
  refine lv_lconst (v := 0) hx hb dX13_product_15 (by decide) ?_
  refine W.lcmp hx hb dX13_product_16 ?_
  refine lv_if_ge (tgt := 25) hx hb dX13_product_17 (by decide) (fun c_3 => ?_) (fun c_3 => absurd hc_2 c_3)
  refine lv_lload_n hx hb dX13_product_25 rfl (lv_at hl 0 rfl) ?_
  refine lv_lstore (lv' := [(4, .long p0), (0, .long p0), (2, .long p1)]) hx hb dX13_product_26 hl (by decide) rfl (fun ls hl => ?_)
  refine lv_lload_n hx hb dX13_product_28 rfl (lv_at hl 2 rfl) ?_
  refine lv_lconst (v := 0) hx hb dX13_product_29 (by decide) ?_
  refine W.lcmp hx hb dX13_product_30 ?_
  refine lv_if_ge (tgt := 39) hx hb dX13_product_31 (by decide) (fun c_4 => absurd c_4 hc_3) (fun c_4 => ?_)
  refine lv_lload_n hx hb dX13_product_34 rfl (lv_at hl 2 rfl) ?_
  refine lv_lneg hx hb dX13_product_35 ?_
  refine lv_goto (tgt := 40) hx hb dX13_product_36 (by decide) ?_
  refine lv_lstore (lv' := [(6, .long (-p1)), (4, .long p0), (0, .long p0), (2, .long p1)]) hx hb dX13_product_40 hl (by decide) rfl (fun ls hl => ?_)
  refine lv_lload_n hx hb dX13_product_42 rfl (lv_at hl 2 rfl) ?_
  refine lv_lconst (v := 0) hx hb dX13_product_43 (by decide) ?_
  refine W.lcmp hx hb dX13_product_44 ?_
  refine lv_if_ge (tgt := 52) hx hb dX13_product_45 (by decide) (fun c_5 => absurd c_5 hc_4) (fun c_5 => ?_)
  refine lv_iconst (v := 1) hx hb dX13_product_48 (by decide) ?_
  refine lv_goto (tgt := 53) hx hb dX13_product_49 (by decide) ?_
  refine lv_lload_n hx hb dX13_product_53 rfl (lv_at hl 3 rfl) ?_
  refine lv_lconst (v := 0) hx hb dX13_product_54 (by decide) ?_
  refine W.lcmp hx hb dX13_product_55 ?_
  refine lv_if_ge (tgt := 63) hx hb dX13_product_56 (by decide) (fun c_6 => ?_) (fun c_6 => absurd hc_5 c_6)
  refine lv_iconst (v := 0) hx hb dX13_product_63 (by decide) ?_
  refine lv_icmp_eq (tgt := 71) hx hb dX13_product_64 (by decide) (fun c_7 => absurd c_7 (by decide)) (fun c_7 => ?_)
  refine lv_iconst (v := 1) hx hb dX13_product_67 (by decide) ?_
  refine lv_goto (tgt := 72) hx hb dX13_product_68 (by decide) ?_
  refine lv_istore (lv' := [(8, .int 1), (6, .long (-p1)), (4, .long p0), (0, .long p0), (2, .long p1)]) hx hb dX13_product_72 hl (by decide) rfl (fun ls hl => ?_)
  refine lv_lload hx hb dX13_product_74 (lv_at hl 2 rfl) ?_
  refine lv_ldc2 (v := 2199023255552) hx hb hown (hts (.constantLong RX13 1128 (2199023255552)) (by decide +kernel)) dX13_product_76 ?_
  refine lv_lload hx hb dX13_product_79 (lv_at hl 1 rfl) ?_
  refine lv_ldiv hx hb dX13_product_81 hn_0 ?_
  refine W.lcmp hx hb dX13_product_82 ?_
  refine lv_if_le (tgt := 101) hx hb dX13_product_83 (by decide) (fun c_8 => absurd c_8 hc_6) (fun c_8 => ?_)
  refine lv_iload hx hb dX13_product_86 (lv_at hl 0 rfl) ?_
  refine lv_if_eq (tgt := 97) hx hb dX13_product_88 (by decide) (fun c_9 => absurd c_9 (by decide)) (fun c_9 => ?_)
  refine lv_ldc2 (v := -4398046511104) hx hb hown (hts (.constantLong RX13 1130 (-4398046511104)) (by decide +kernel)) dX13_product_91 ?_
  refine lv_goto (tgt := 100) hx hb dX13_product_94 (by decide) ?_
  have hP9 := hP.sub (ws' := []) [] rfl
  have hD9 := hD.sub (ws' := []) [] (by decide) rfl
  have hK9 := hK.sub (tys' := []) [] rfl
  exact W.lret (v := (-4398046511104)) hx hb hr (fun t ht hW => ⟨⟨(-4398046511104), (), rfl, rfl, (zB_mk (by rw [ht]; exact hP9) (va_K.moved hW.alike hK9) hD9)⟩, hS.F ht⟩) hS.2.2 dX13_product_100
set_option maxHeartbeats 4000000 in
set_option maxRecDepth 100000 in
/-- X13_product, a road -/
theorem c_X13_product_r15 (l : Launch) (dC : Nat → ClassId) (dI : Nat → Nat → Nat) (sz : Nat) (p0 : Int64) (p1 : Int64) (hn_0 : ¬ (-p1) = 0) (hc_0 : ¬ (lg_cmp p0 0) = 0) (hc_1 : ¬ (lg_cmp p1 0) = 0) (hc_2 : 0 ≤ (lg_cmp p0 0)) (hc_3 : ¬ 0 ≤ (lg_cmp p1 0)) (hc_4 : ¬ 0 ≤ (lg_cmp p0 0)) (hc_5 : ¬ 0 ≤ (lg_cmp p1 0)) (hc_6 : (lg_cmp p0 (2199023255552 / (-p1))) ≤ 0) : Met l yX13_product wsX13_product ({ frames := 0, cells := 0, slots := 0, locals := 0 }) (zPc dC dI sz [.long p0, .long p1] [] []) (va_Ql (fun (r : Int64) (_ : Unit) => r = (p0 * p1)) (zB dC dI (fun _ => []) (fun _ : Unit => []) (va_A [] sz)) (va_A [] sz)) 0 0 (va_A [] sz) := by
  refine Met.ofW (cc := cX13_product) (maxL := 9) (ret := (some .long)) (by decide) rfl ?_
  intro p e s m args below meth c s₁ B hml hv
  obtain ⟨rfl, hsz, hP, hK, hD0⟩ := hv
  have hx := B.exec
  have hb := B.bytes
  have hr := B.returns
  have hts := atoms_spec (ws := wsX13_product) B.pre
  have hown : s.vm.findClass RX13 = some m.cls := findClass_of_methodNamed B.named
  have hlocks := B.notSynchronized
  subst hsz
  have hD := hD0.self (sz := s.heap.size)
  generalize hAe : va_A [] s.heap.size = A at hD ⊢
  have hA : ∀ q : Nat, s.heap.size ≤ q → A q := fun q h => by rw [← hAe]; exact Or.inr h
  have hS : va_S A s.heap s.heap [] := va_S.rf
  have hP : va_P (dC, dI) vwCl [] s.heap := hP
  have hl := lv_entry ([.long p0, .long p1]) (n := 9) (Nat.le_of_ble_eq_true rfl)
  rw [lg_entry_eq]
  generalize (lg_sl ([.long p0, .long p1]) ++ List.replicate (9 - (lg_sl ([.long p0, .long p1])).length) Slot.unset).toArray = ls at hl ⊢
  have hl : lv_has ls 9 [(0, .long p0), (2, .long p1)] := hl
  refine lv_lload_n hx hb dX13_product_0 rfl (lv_at hl 0 rfl) ?_
  refine lv_lconst (v := 0) hx hb dX13_product_1 (by decide) ?_
  refine W.lcmp hx hb dX13_product_2 ?_
  refine lv_if_eq (tgt := 12) hx hb dX13_product_3 (by decide) (fun c_1 => absurd c_1 hc_0) (fun c_1 => ?_)
  refine lv_lload_n hx hb dX13_product_6 rfl (lv_at hl 1 rfl) ?_
  refine lv_lconst (v := 0) hx hb dX13_product_7 (by decide) ?_
  refine W.lcmp hx hb dX13_product_8 ?_
  refine lv_if_ne (tgt := 14) hx hb dX13_product_9 (by decide) (fun c_2 => ?_) (fun c_2 => absurd c_2 hc_1)
  refine lv_lload_n hx hb dX13_product_14 rfl (lv_at hl 0 rfl) ?_
  refine lv_lconst (v := 0) hx hb dX13_product_15 (by decide) ?_
  refine W.lcmp hx hb dX13_product_16 ?_
  refine lv_if_ge (tgt := 25) hx hb dX13_product_17 (by decide) (fun c_3 => ?_) (fun c_3 => absurd hc_2 c_3)
  refine lv_lload_n hx hb dX13_product_25 rfl (lv_at hl 0 rfl) ?_
  refine lv_lstore (lv' := [(4, .long p0), (0, .long p0), (2, .long p1)]) hx hb dX13_product_26 hl (by decide) rfl (fun ls hl => ?_)
  refine lv_lload_n hx hb dX13_product_28 rfl (lv_at hl 2 rfl) ?_
  refine lv_lconst (v := 0) hx hb dX13_product_29 (by decide) ?_
  refine W.lcmp hx hb dX13_product_30 ?_
  refine lv_if_ge (tgt := 39) hx hb dX13_product_31 (by decide) (fun c_4 => absurd c_4 hc_3) (fun c_4 => ?_)
  refine lv_lload_n hx hb dX13_product_34 rfl (lv_at hl 2 rfl) ?_
  refine lv_lneg hx hb dX13_product_35 ?_
  refine lv_goto (tgt := 40) hx hb dX13_product_36 (by decide) ?_
  refine lv_lstore (lv' := [(6, .long (-p1)), (4, .long p0), (0, .long p0), (2, .long p1)]) hx hb dX13_product_40 hl (by decide) rfl (fun ls hl => ?_)
  refine lv_lload_n hx hb dX13_product_42 rfl (lv_at hl 2 rfl) ?_
  refine lv_lconst (v := 0) hx hb dX13_product_43 (by decide) ?_
  refine W.lcmp hx hb dX13_product_44 ?_
  refine lv_if_ge (tgt := 52) hx hb dX13_product_45 (by decide) (fun c_5 => absurd c_5 hc_4) (fun c_5 => ?_)
  refine lv_iconst (v := 1) hx hb dX13_product_48 (by decide) ?_
  refine lv_goto (tgt := 53) hx hb dX13_product_49 (by decide) ?_
  refine lv_lload_n hx hb dX13_product_53 rfl (lv_at hl 3 rfl) ?_
  refine lv_lconst (v := 0) hx hb dX13_product_54 (by decide) ?_
  refine W.lcmp hx hb dX13_product_55 ?_
  refine lv_if_ge (tgt := 63) hx hb dX13_product_56 (by decide) (fun c_6 => absurd c_6 hc_5) (fun c_6 => ?_)
  refine lv_iconst (v := 1) hx hb dX13_product_59 (by decide) ?_
  refine lv_goto (tgt := 64) hx hb dX13_product_60 (by decide) ?_
  refine lv_icmp_eq (tgt := 71) hx hb dX13_product_64 (by decide) (fun c_7 => ?_) (fun c_7 => absurd (by decide) c_7)
  refine lv_iconst (v := 0) hx hb dX13_product_71 (by decide) ?_
  refine lv_istore (lv' := [(8, .int 0), (6, .long (-p1)), (4, .long p0), (0, .long p0), (2, .long p1)]) hx hb dX13_product_72 hl (by decide) rfl (fun ls hl => ?_)
  refine lv_lload hx hb dX13_product_74 (lv_at hl 2 rfl) ?_
  refine lv_ldc2 (v := 2199023255552) hx hb hown (hts (.constantLong RX13 1128 (2199023255552)) (by decide +kernel)) dX13_product_76 ?_
  refine lv_lload hx hb dX13_product_79 (lv_at hl 1 rfl) ?_
  refine lv_ldiv hx hb dX13_product_81 hn_0 ?_
  refine W.lcmp hx hb dX13_product_82 ?_
  refine lv_if_le (tgt := 101) hx hb dX13_product_83 (by decide) (fun c_8 => ?_) (fun c_8 => absurd hc_6 c_8)
  refine lv_lload_n hx hb dX13_product_101 rfl (lv_at hl 3 rfl) ?_
  refine lv_lload_n hx hb dX13_product_102 rfl (lv_at hl 4 rfl) ?_
  refine lv_lmul hx hb dX13_product_103 ?_
  have hP9 := hP.sub (ws' := []) [] rfl
  have hD9 := hD.sub (ws' := []) [] (by decide) rfl
  have hK9 := hK.sub (tys' := []) [] rfl
  exact W.lret (v := (p0 * p1)) hx hb hr (fun t ht hW => ⟨⟨(p0 * p1), (), rfl, rfl, (zB_mk (by rw [ht]; exact hP9) (va_K.moved hW.alike hK9) hD9)⟩, hS.F ht⟩) hS.2.2 dX13_product_104
set_option maxHeartbeats 4000000 in
set_option maxRecDepth 100000 in
/-- X13_product, a road -/
theorem c_X13_product_r16 (l : Launch) (dC : Nat → ClassId) (dI : Nat → Nat → Nat) (sz : Nat) (p0 : Int64) (p1 : Int64) (hn_0 : ¬ (-p1) = 0) (hc_0 : ¬ (lg_cmp p0 0) = 0) (hc_1 : ¬ (lg_cmp p1 0) = 0) (hc_2 : 0 ≤ (lg_cmp p0 0)) (hc_3 : ¬ 0 ≤ (lg_cmp p1 0)) (hc_4 : ¬ 0 ≤ (lg_cmp p0 0)) (hc_5 : ¬ 0 ≤ (lg_cmp p1 0)) (hc_6 : ¬ (lg_cmp p0 (2199023255552 / (-p1))) ≤ 0) : Met l yX13_product wsX13_product ({ frames := 0, cells := 0, slots := 0, locals := 0 }) (zPc dC dI sz [.long p0, .long p1] [] []) (va_Ql (fun (r : Int64) (_ : Unit) => r = 4398046511104) (zB dC dI (fun _ => []) (fun _ : Unit => []) (va_A [] sz)) (va_A [] sz)) 0 0 (va_A [] sz) := by
  refine Met.ofW (cc := cX13_product) (maxL := 9) (ret := (some .long)) (by decide) rfl ?_
  intro p e s m args below meth c s₁ B hml hv
  obtain ⟨rfl, hsz, hP, hK, hD0⟩ := hv
  have hx := B.exec
  have hb := B.bytes
  have hr := B.returns
  have hts := atoms_spec (ws := wsX13_product) B.pre
  have hown : s.vm.findClass RX13 = some m.cls := findClass_of_methodNamed B.named
  have hlocks := B.notSynchronized
  subst hsz
  have hD := hD0.self (sz := s.heap.size)
  generalize hAe : va_A [] s.heap.size = A at hD ⊢
  have hA : ∀ q : Nat, s.heap.size ≤ q → A q := fun q h => by rw [← hAe]; exact Or.inr h
  have hS : va_S A s.heap s.heap [] := va_S.rf
  have hP : va_P (dC, dI) vwCl [] s.heap := hP
  have hl := lv_entry ([.long p0, .long p1]) (n := 9) (Nat.le_of_ble_eq_true rfl)
  rw [lg_entry_eq]
  generalize (lg_sl ([.long p0, .long p1]) ++ List.replicate (9 - (lg_sl ([.long p0, .long p1])).length) Slot.unset).toArray = ls at hl ⊢
  have hl : lv_has ls 9 [(0, .long p0), (2, .long p1)] := hl
  refine lv_lload_n hx hb dX13_product_0 rfl (lv_at hl 0 rfl) ?_
  refine lv_lconst (v := 0) hx hb dX13_product_1 (by decide) ?_
  refine W.lcmp hx hb dX13_product_2 ?_
  refine lv_if_eq (tgt := 12) hx hb dX13_product_3 (by decide) (fun c_1 => absurd c_1 hc_0) (fun c_1 => ?_)
  refine lv_lload_n hx hb dX13_product_6 rfl (lv_at hl 1 rfl) ?_
  refine lv_lconst (v := 0) hx hb dX13_product_7 (by decide) ?_
  refine W.lcmp hx hb dX13_product_8 ?_
  refine lv_if_ne (tgt := 14) hx hb dX13_product_9 (by decide) (fun c_2 => ?_) (fun c_2 => absurd c_2 hc_1)
  refine lv_lload_n hx hb dX13_product_14 rfl (lv_at hl 0 rfl) ?_
  refine lv_lconst (v := 0) hx hb dX13_product_15 (by decide) ?_
  refine W.lcmp hx hb dX13_product_16 ?_
  refine lv_if_ge (tgt := 25) hx hb dX13_product_17 (by decide) (fun c_3 => ?_) (fun c_3 => absurd hc_2 c_3)
  refine lv_lload_n hx hb dX13_product_25 rfl (lv_at hl 0 rfl) ?_
  refine lv_lstore (lv' := [(4, .long p0), (0, .long p0), (2, .long p1)]) hx hb dX13_product_26 hl (by decide) rfl (fun ls hl => ?_)
  refine lv_lload_n hx hb dX13_product_28 rfl (lv_at hl 2 rfl) ?_
  refine lv_lconst (v := 0) hx hb dX13_product_29 (by decide) ?_
  refine W.lcmp hx hb dX13_product_30 ?_
  refine lv_if_ge (tgt := 39) hx hb dX13_product_31 (by decide) (fun c_4 => absurd c_4 hc_3) (fun c_4 => ?_)
  refine lv_lload_n hx hb dX13_product_34 rfl (lv_at hl 2 rfl) ?_
  refine lv_lneg hx hb dX13_product_35 ?_
  refine lv_goto (tgt := 40) hx hb dX13_product_36 (by decide) ?_
  refine lv_lstore (lv' := [(6, .long (-p1)), (4, .long p0), (0, .long p0), (2, .long p1)]) hx hb dX13_product_40 hl (by decide) rfl (fun ls hl => ?_)
  refine lv_lload_n hx hb dX13_product_42 rfl (lv_at hl 2 rfl) ?_
  refine lv_lconst (v := 0) hx hb dX13_product_43 (by decide) ?_
  refine W.lcmp hx hb dX13_product_44 ?_
  refine lv_if_ge (tgt := 52) hx hb dX13_product_45 (by decide) (fun c_5 => absurd c_5 hc_4) (fun c_5 => ?_)
  refine lv_iconst (v := 1) hx hb dX13_product_48 (by decide) ?_
  refine lv_goto (tgt := 53) hx hb dX13_product_49 (by decide) ?_
  refine lv_lload_n hx hb dX13_product_53 rfl (lv_at hl 3 rfl) ?_
  refine lv_lconst (v := 0) hx hb dX13_product_54 (by decide) ?_
  refine W.lcmp hx hb dX13_product_55 ?_
  refine lv_if_ge (tgt := 63) hx hb dX13_product_56 (by decide) (fun c_6 => absurd c_6 hc_5) (fun c_6 => ?_)
  refine lv_iconst (v := 1) hx hb dX13_product_59 (by decide) ?_
  refine lv_goto (tgt := 64) hx hb dX13_product_60 (by decide) ?_
  refine lv_icmp_eq (tgt := 71) hx hb dX13_product_64 (by decide) (fun c_7 => ?_) (fun c_7 => absurd (by decide) c_7)
  refine lv_iconst (v := 0) hx hb dX13_product_71 (by decide) ?_
  refine lv_istore (lv' := [(8, .int 0), (6, .long (-p1)), (4, .long p0), (0, .long p0), (2, .long p1)]) hx hb dX13_product_72 hl (by decide) rfl (fun ls hl => ?_)
  refine lv_lload hx hb dX13_product_74 (lv_at hl 2 rfl) ?_
  refine lv_ldc2 (v := 2199023255552) hx hb hown (hts (.constantLong RX13 1128 (2199023255552)) (by decide +kernel)) dX13_product_76 ?_
  refine lv_lload hx hb dX13_product_79 (lv_at hl 1 rfl) ?_
  refine lv_ldiv hx hb dX13_product_81 hn_0 ?_
  refine W.lcmp hx hb dX13_product_82 ?_
  refine lv_if_le (tgt := 101) hx hb dX13_product_83 (by decide) (fun c_8 => absurd c_8 hc_6) (fun c_8 => ?_)
  refine lv_iload hx hb dX13_product_86 (lv_at hl 0 rfl) ?_
  refine lv_if_eq (tgt := 97) hx hb dX13_product_88 (by decide) (fun c_9 => ?_) (fun c_9 => absurd (by decide) c_9)
  refine lv_ldc2 (v := 4398046511104) hx hb hown (hts (.constantLong RX13 1132 (4398046511104)) (by decide +kernel)) dX13_product_97 ?_
  have hP9 := hP.sub (ws' := []) [] rfl
  have hD9 := hD.sub (ws' := []) [] (by decide) rfl
  have hK9 := hK.sub (tys' := []) [] rfl
  exact W.lret (v := 4398046511104) hx hb hr (fun t ht hW => ⟨⟨4398046511104, (), rfl, rfl, (zB_mk (by rw [ht]; exact hP9) (va_K.moved hW.alike hK9) hD9)⟩, hS.F ht⟩) hS.2.2 dX13_product_100
set_option maxHeartbeats 4000000 in
set_option maxRecDepth 100000 in
/-- X13_product, a road -/
theorem c_X13_product_r17 (l : Launch) (dC : Nat → ClassId) (dI : Nat → Nat → Nat) (sz : Nat) (p0 : Int64) (p1 : Int64) (hn_0 : ¬ p1 = 0) (hc_0 : ¬ (lg_cmp p0 0) = 0) (hc_1 : ¬ (lg_cmp p1 0) = 0) (hc_2 : ¬ 0 ≤ (lg_cmp p0 0)) (hc_3 : 0 ≤ (lg_cmp p1 0)) (hc_4 : 0 ≤ (lg_cmp p0 0)) (hc_5 : 0 ≤ (lg_cmp p1 0)) (hc_6 : (lg_cmp (-p0) (2199023255552 / p1)) ≤ 0) : Met l yX13_product wsX13_product ({ frames := 0, cells := 0, slots := 0, locals := 0 }) (zPc dC dI sz [.long p0, .long p1] [] []) (va_Ql (fun (r : Int64) (_ : Unit) => r = (p0 * p1)) (zB dC dI (fun _ => []) (fun _ : Unit => []) (va_A [] sz)) (va_A [] sz)) 0 0 (va_A [] sz) := by
  refine Met.ofW (cc := cX13_product) (maxL := 9) (ret := (some .long)) (by decide) rfl ?_
  intro p e s m args below meth c s₁ B hml hv
  obtain ⟨rfl, hsz, hP, hK, hD0⟩ := hv
  have hx := B.exec
  have hb := B.bytes
  have hr := B.returns
  have hts := atoms_spec (ws := wsX13_product) B.pre
  have hown : s.vm.findClass RX13 = some m.cls := findClass_of_methodNamed B.named
  have hlocks := B.notSynchronized
  subst hsz
  have hD := hD0.self (sz := s.heap.size)
  generalize hAe : va_A [] s.heap.size = A at hD ⊢
  have hA : ∀ q : Nat, s.heap.size ≤ q → A q := fun q h => by rw [← hAe]; exact Or.inr h
  have hS : va_S A s.heap s.heap [] := va_S.rf
  have hP : va_P (dC, dI) vwCl [] s.heap := hP
  have hl := lv_entry ([.long p0, .long p1]) (n := 9) (Nat.le_of_ble_eq_true rfl)
  rw [lg_entry_eq]
  generalize (lg_sl ([.long p0, .long p1]) ++ List.replicate (9 - (lg_sl ([.long p0, .long p1])).length) Slot.unset).toArray = ls at hl ⊢
  have hl : lv_has ls 9 [(0, .long p0), (2, .long p1)] := hl
  refine lv_lload_n hx hb dX13_product_0 rfl (lv_at hl 0 rfl) ?_
  refine lv_lconst (v := 0) hx hb dX13_product_1 (by decide) ?_
  refine W.lcmp hx hb dX13_product_2 ?_
  refine lv_if_eq (tgt := 12) hx hb dX13_product_3 (by decide) (fun c_1 => absurd c_1 hc_0) (fun c_1 => ?_)
  refine lv_lload_n hx hb dX13_product_6 rfl (lv_at hl 1 rfl) ?_
  refine lv_lconst (v := 0) hx hb dX13_product_7 (by decide) ?_
  refine W.lcmp hx hb dX13_product_8 ?_
  refine lv_if_ne (tgt := 14) hx hb dX13_product_9 (by decide) (fun c_2 => ?_) (fun c_2 => absurd c_2 hc_1)
  refine lv_lload_n hx hb dX13_product_14 rfl (lv_at hl 0 rfl) ?_
  refine lv_lconst (v := 0) hx hb dX13_product_15 (by decide) ?_
  refine W.lcmp hx hb dX13_product_16 ?_
  refine lv_if_ge (tgt := 25) hx hb dX13_product_17 (by decide) (fun c_3 => absurd c_3 hc_2) (fun c_3 => ?_)
  refine lv_lload_n hx hb dX13_product_20 rfl (lv_at hl 0 rfl) ?_
  refine lv_lneg hx hb dX13_product_21 ?_
  refine lv_goto (tgt := 26) hx hb dX13_product_22 (by decide) ?_
  refine lv_lstore (lv' := [(4, .long (-p0)), (0, .long p0), (2, .long p1)]) hx hb dX13_product_26 hl (by decide) rfl (fun ls hl => ?_)
  refine lv_lload_n hx hb dX13_product_28 rfl (lv_at hl 2 rfl) ?_
  refine lv_lconst (v := 0) hx hb dX13_product_29 (by decide) ?_
  refine W.lcmp hx hb dX13_product_30 ?_
  refine lv_if_ge (tgt := 39) hx hb dX13_product_31 (by decide) (fun c_4 => ?_) (fun c_4 => absurd hc_3 c_4)
  refine lv_lload_n hx hb dX13_product_39 rfl (lv_at hl 2 rfl) ?_
  refine lv_lstore (lv' := [(6, .long p1), (4, .long (-p0)), (0, .long p0), (2, .long p1)]) hx hb dX13_product_40 hl (by decide) rfl (fun ls hl => ?_)
  refine lv_lload_n hx hb dX13_product_42 rfl (lv_at hl 2 rfl) ?_
  refine lv_lconst (v := 0) hx hb dX13_product_43 (by decide) ?_
  refine W.lcmp hx hb dX13_product_44 ?_
  refine lv_if_ge (tgt := 52) hx hb dX13_product_45 (by decide) (fun c_5 => ?_) (fun c_5 => absurd hc_4 c_5)
  refine lv_iconst (v := 0) hx hb dX13_product_52 (by decide) ?_
  refine lv_lload_n hx hb dX13_product_53 rfl (lv_at hl 3 rfl) ?_
  refine lv_lconst (v := 0) hx hb dX13_product_54 (by decide) ?_
  refine W.lcmp hx hb dX13_product_55 ?_
  refine lv_if_ge (tgt := 63) hx hb dX13_product_56 (by decide) (fun c_6 => ?_) (fun c_6 => absurd hc_5 c_6)
  refine lv_iconst (v := 0) hx hb dX13_product_63 (by decide) ?_
  refine lv_icmp_eq (tgt := 71) hx hb dX13_product_64 (by decide) (fun c_7 => ?_) (fun c_7 => absurd (by decide) c_7)
  refine lv_iconst (v := 0) hx hb dX13_product_71 (by decide) ?_
  refine lv_istore (lv' := [(8, .int 0), (6, .long p1), (4, .long (-p0)), (0, .long p0), (2, .long p1)]) hx hb dX13_product_72 hl (by decide) rfl (fun ls hl => ?_)
  refine lv_lload hx hb dX13_product_74 (lv_at hl 2 rfl) ?_
  refine lv_ldc2 (v := 2199023255552) hx hb hown (hts (.constantLong RX13 1128 (2199023255552)) (by decide +kernel)) dX13_product_76 ?_
  refine lv_lload hx hb dX13_product_79 (lv_at hl 1 rfl) ?_
  refine lv_ldiv hx hb dX13_product_81 hn_0 ?_
  refine W.lcmp hx hb dX13_product_82 ?_
  refine lv_if_le (tgt := 101) hx hb dX13_product_83 (by decide) (fun c_8 => ?_) (fun c_8 => absurd hc_6 c_8)
  refine lv_lload_n hx hb dX13_product_101 rfl (lv_at hl 3 rfl) ?_
  refine lv_lload_n hx hb dX13_product_102 rfl (lv_at hl 4 rfl) ?_
  refine lv_lmul hx hb dX13_product_103 ?_
  have hP9 := hP.sub (ws' := []) [] rfl
  have hD9 := hD.sub (ws' := []) [] (by decide) rfl
  have hK9 := hK.sub (tys' := []) [] rfl
  exact W.lret (v := (p0 * p1)) hx hb hr (fun t ht hW => ⟨⟨(p0 * p1), (), rfl, rfl, (zB_mk (by rw [ht]; exact hP9) (va_K.moved hW.alike hK9) hD9)⟩, hS.F ht⟩) hS.2.2 dX13_product_104
set_option maxHeartbeats 4000000 in
set_option maxRecDepth 100000 in
/-- X13_product, a road -/
theorem c_X13_product_r18 (l : Launch) (dC : Nat → ClassId) (dI : Nat → Nat → Nat) (sz : Nat) (p0 : Int64) (p1 : Int64) (hn_0 : ¬ p1 = 0) (hc_0 : ¬ (lg_cmp p0 0) = 0) (hc_1 : ¬ (lg_cmp p1 0) = 0) (hc_2 : ¬ 0 ≤ (lg_cmp p0 0)) (hc_3 : 0 ≤ (lg_cmp p1 0)) (hc_4 : 0 ≤ (lg_cmp p0 0)) (hc_5 : 0 ≤ (lg_cmp p1 0)) (hc_6 : ¬ (lg_cmp (-p0) (2199023255552 / p1)) ≤ 0) : Met l yX13_product wsX13_product ({ frames := 0, cells := 0, slots := 0, locals := 0 }) (zPc dC dI sz [.long p0, .long p1] [] []) (va_Ql (fun (r : Int64) (_ : Unit) => r = 4398046511104) (zB dC dI (fun _ => []) (fun _ : Unit => []) (va_A [] sz)) (va_A [] sz)) 0 0 (va_A [] sz) := by
  refine Met.ofW (cc := cX13_product) (maxL := 9) (ret := (some .long)) (by decide) rfl ?_
  intro p e s m args below meth c s₁ B hml hv
  obtain ⟨rfl, hsz, hP, hK, hD0⟩ := hv
  have hx := B.exec
  have hb := B.bytes
  have hr := B.returns
  have hts := atoms_spec (ws := wsX13_product) B.pre
  have hown : s.vm.findClass RX13 = some m.cls := findClass_of_methodNamed B.named
  have hlocks := B.notSynchronized
  subst hsz
  have hD := hD0.self (sz := s.heap.size)
  generalize hAe : va_A [] s.heap.size = A at hD ⊢
  have hA : ∀ q : Nat, s.heap.size ≤ q → A q := fun q h => by rw [← hAe]; exact Or.inr h
  have hS : va_S A s.heap s.heap [] := va_S.rf
  have hP : va_P (dC, dI) vwCl [] s.heap := hP
  have hl := lv_entry ([.long p0, .long p1]) (n := 9) (Nat.le_of_ble_eq_true rfl)
  rw [lg_entry_eq]
  generalize (lg_sl ([.long p0, .long p1]) ++ List.replicate (9 - (lg_sl ([.long p0, .long p1])).length) Slot.unset).toArray = ls at hl ⊢
  have hl : lv_has ls 9 [(0, .long p0), (2, .long p1)] := hl
  refine lv_lload_n hx hb dX13_product_0 rfl (lv_at hl 0 rfl) ?_
  refine lv_lconst (v := 0) hx hb dX13_product_1 (by decide) ?_
  refine W.lcmp hx hb dX13_product_2 ?_
  refine lv_if_eq (tgt := 12) hx hb dX13_product_3 (by decide) (fun c_1 => absurd c_1 hc_0) (fun c_1 => ?_)
  refine lv_lload_n hx hb dX13_product_6 rfl (lv_at hl 1 rfl) ?_
  refine lv_lconst (v := 0) hx hb dX13_product_7 (by decide) ?_
  refine W.lcmp hx hb dX13_product_8 ?_
  refine lv_if_ne (tgt := 14) hx hb dX13_product_9 (by decide) (fun c_2 => ?_) (fun c_2 => absurd c_2 hc_1)
  refine lv_lload_n hx hb dX13_product_14 rfl (lv_at hl 0 rfl) ?_
  refine lv_lconst (v := 0) hx hb dX13_product_15 (by decide) ?_
  refine W.lcmp hx hb dX13_product_16 ?_
  refine lv_if_ge (tgt := 25) hx hb dX13_product_17 (by decide) (fun c_3 => absurd c_3 hc_2) (fun c_3 => ?_)
  refine lv_lload_n hx hb dX13_product_20 rfl (lv_at hl 0 rfl) ?_
  refine lv_lneg hx hb dX13_product_21 ?_
  refine lv_goto (tgt := 26) hx hb dX13_product_22 (by decide) ?_
  refine lv_lstore (lv' := [(4, .long (-p0)), (0, .long p0), (2, .long p1)]) hx hb dX13_product_26 hl (by decide) rfl (fun ls hl => ?_)
  refine lv_lload_n hx hb dX13_product_28 rfl (lv_at hl 2 rfl) ?_
  refine lv_lconst (v := 0) hx hb dX13_product_29 (by decide) ?_
  refine W.lcmp hx hb dX13_product_30 ?_
  refine lv_if_ge (tgt := 39) hx hb dX13_product_31 (by decide) (fun c_4 => ?_) (fun c_4 => absurd hc_3 c_4)
  refine lv_lload_n hx hb dX13_product_39 rfl (lv_at hl 2 rfl) ?_
  refine lv_lstore (lv' := [(6, .long p1), (4, .long (-p0)), (0, .long p0), (2, .long p1)]) hx hb dX13_product_40 hl (by decide) rfl (fun ls hl => ?_)
  refine lv_lload_n hx hb dX13_product_42 rfl (lv_at hl 2 rfl) ?_
  refine lv_lconst (v := 0) hx hb dX13_product_43 (by decide) ?_
  refine W.lcmp hx hb dX13_product_44 ?_
  refine lv_if_ge (tgt := 52) hx hb dX13_product_45 (by decide) (fun c_5 => ?_) (fun c_5 => absurd hc_4 c_5)
  refine lv_iconst (v := 0) hx hb dX13_product_52 (by decide) ?_
  refine lv_lload_n hx hb dX13_product_53 rfl (lv_at hl 3 rfl) ?_
  refine lv_lconst (v := 0) hx hb dX13_product_54 (by decide) ?_
  refine W.lcmp hx hb dX13_product_55 ?_
  refine lv_if_ge (tgt := 63) hx hb dX13_product_56 (by decide) (fun c_6 => ?_) (fun c_6 => absurd hc_5 c_6)
  refine lv_iconst (v := 0) hx hb dX13_product_63 (by decide) ?_
  refine lv_icmp_eq (tgt := 71) hx hb dX13_product_64 (by decide) (fun c_7 => ?_) (fun c_7 => absurd (by decide) c_7)
  refine lv_iconst (v := 0) hx hb dX13_product_71 (by decide) ?_
  refine lv_istore (lv' := [(8, .int 0), (6, .long p1), (4, .long (-p0)), (0, .long p0), (2, .long p1)]) hx hb dX13_product_72 hl (by decide) rfl (fun ls hl => ?_)
  refine lv_lload hx hb dX13_product_74 (lv_at hl 2 rfl) ?_
  refine lv_ldc2 (v := 2199023255552) hx hb hown (hts (.constantLong RX13 1128 (2199023255552)) (by decide +kernel)) dX13_product_76 ?_
  refine lv_lload hx hb dX13_product_79 (lv_at hl 1 rfl) ?_
  refine lv_ldiv hx hb dX13_product_81 hn_0 ?_
  refine W.lcmp hx hb dX13_product_82 ?_
  refine lv_if_le (tgt := 101) hx hb dX13_product_83 (by decide) (fun c_8 => absurd c_8 hc_6) (fun c_8 => ?_)
  refine lv_iload hx hb dX13_product_86 (lv_at hl 0 rfl) ?_
  refine lv_if_eq (tgt := 97) hx hb dX13_product_88 (by decide) (fun c_9 => ?_) (fun c_9 => absurd (by decide) c_9)
  refine lv_ldc2 (v := 4398046511104) hx hb hown (hts (.constantLong RX13 1132 (4398046511104)) (by decide +kernel)) dX13_product_97 ?_
  have hP9 := hP.sub (ws' := []) [] rfl
  have hD9 := hD.sub (ws' := []) [] (by decide) rfl
  have hK9 := hK.sub (tys' := []) [] rfl
  exact W.lret (v := 4398046511104) hx hb hr (fun t ht hW => ⟨⟨4398046511104, (), rfl, rfl, (zB_mk (by rw [ht]; exact hP9) (va_K.moved hW.alike hK9) hD9)⟩, hS.F ht⟩) hS.2.2 dX13_product_100
set_option maxHeartbeats 4000000 in
set_option maxRecDepth 100000 in
/-- X13_product, a road -/
theorem c_X13_product_r19 (l : Launch) (dC : Nat → ClassId) (dI : Nat → Nat → Nat) (sz : Nat) (p0 : Int64) (p1 : Int64) (hn_0 : ¬ p1 = 0) (hc_0 : ¬ (lg_cmp p0 0) = 0) (hc_1 : ¬ (lg_cmp p1 0) = 0) (hc_2 : ¬ 0 ≤ (lg_cmp p0 0)) (hc_3 : 0 ≤ (lg_cmp p1 0)) (hc_4 : 0 ≤ (lg_cmp p0 0)) (hc_5 : ¬ 0 ≤ (lg_cmp p1 0)) (hc_6 : (lg_cmp (-p0) (2199023255552 / p1)) ≤ 0) : Met l yX13_product wsX13_product ({ frames := 0, cells := 0, slots := 0, locals := 0 }) (zPc dC dI sz [.long p0, .long p1] [] []) (va_Ql (fun (r : Int64) (_ : Unit) => r = (p0 * p1)) (zB dC dI (fun _ => []) (fun _ : Unit => []) (va_A [] sz)) (va_A [] sz)) 0 0 (va_A [] sz) := by
  refine Met.ofW (cc := cX13_product) (maxL := 9) (ret := (some .long)) (by decide) rfl ?_
  intro p e s m args below meth c s₁ B hml hv
  obtain ⟨rfl, hsz, hP, hK, hD0⟩ := hv
  have hx := B.exec
  have hb := B.bytes
  have hr := B.returns
  have hts := atoms_spec (ws := wsX13_product) B.pre
  have hown : s.vm.findClass RX13 = some m.cls := findClass_of_methodNamed B.named
  have hlocks := B.notSynchronized
  subst hsz
  have hD := hD0.self (sz := s.heap.size)
  generalize hAe : va_A [] s.heap.size = A at hD ⊢
  have hA : ∀ q : Nat, s.heap.size ≤ q → A q := fun q h => by rw [← hAe]; exact Or.inr h
  have hS : va_S A s.heap s.heap [] := va_S.rf
  have hP : va_P (dC, dI) vwCl [] s.heap := hP
  have hl := lv_entry ([.long p0, .long p1]) (n := 9) (Nat.le_of_ble_eq_true rfl)
  rw [lg_entry_eq]
  generalize (lg_sl ([.long p0, .long p1]) ++ List.replicate (9 - (lg_sl ([.long p0, .long p1])).length) Slot.unset).toArray = ls at hl ⊢
  have hl : lv_has ls 9 [(0, .long p0), (2, .long p1)] := hl
  refine lv_lload_n hx hb dX13_product_0 rfl (lv_at hl 0 rfl) ?_
  refine lv_lconst (v := 0) hx hb dX13_product_1 (by decide) ?_
  refine W.lcmp hx hb dX13_product_2 ?_
  refine lv_if_eq (tgt := 12) hx hb dX13_product_3 (by decide) (fun c_1 => absurd c_1 hc_0) (fun c_1 => ?_)
  refine lv_lload_n hx hb dX13_product_6 rfl (lv_at hl 1 rfl) ?_
  refine lv_lconst (v := 0) hx hb dX13_product_7 (by decide) ?_
  refine W.lcmp hx hb dX13_product_8 ?_
  refine lv_if_ne (tgt := 14) hx hb dX13_product_9 (by decide) (fun c_2 => ?_) (fun c_2 => absurd c_2 hc_1)
  refine lv_lload_n hx hb dX13_product_14 rfl (lv_at hl 0 rfl) ?_
  refine lv_lconst (v := 0) hx hb dX13_product_15 (by decide) ?_
  refine W.lcmp hx hb dX13_product_16 ?_
  refine lv_if_ge (tgt := 25) hx hb dX13_product_17 (by decide) (fun c_3 => absurd c_3 hc_2) (fun c_3 => ?_)
  refine lv_lload_n hx hb dX13_product_20 rfl (lv_at hl 0 rfl) ?_
  refine lv_lneg hx hb dX13_product_21 ?_
  refine lv_goto (tgt := 26) hx hb dX13_product_22 (by decide) ?_
  refine lv_lstore (lv' := [(4, .long (-p0)), (0, .long p0), (2, .long p1)]) hx hb dX13_product_26 hl (by decide) rfl (fun ls hl => ?_)
  refine lv_lload_n hx hb dX13_product_28 rfl (lv_at hl 2 rfl) ?_
  refine lv_lconst (v := 0) hx hb dX13_product_29 (by decide) ?_
  refine W.lcmp hx hb dX13_product_30 ?_
  refine lv_if_ge (tgt := 39) hx hb dX13_product_31 (by decide) (fun c_4 => ?_) (fun c_4 => absurd hc_3 c_4)
  refine lv_lload_n hx hb dX13_product_39 rfl (lv_at hl 2 rfl) ?_
  refine lv_lstore (lv' := [(6, .long p1), (4, .long (-p0)), (0, .long p0), (2, .long p1)]) hx hb dX13_product_40 hl (by decide) rfl (fun ls hl => ?_)
  refine lv_lload_n hx hb dX13_product_42 rfl (lv_at hl 2 rfl) ?_
  refine lv_lconst (v := 0) hx hb dX13_product_43 (by decide) ?_
  refine W.lcmp hx hb dX13_product_44 ?_
  refine lv_if_ge (tgt := 52) hx hb dX13_product_45 (by decide) (fun c_5 => ?_) (fun c_5 => absurd hc_4 c_5)
  refine lv_iconst (v := 0) hx hb dX13_product_52 (by decide) ?_
  refine lv_lload_n hx hb dX13_product_53 rfl (lv_at hl 3 rfl) ?_
  refine lv_lconst (v := 0) hx hb dX13_product_54 (by decide) ?_
  refine W.lcmp hx hb dX13_product_55 ?_
  refine lv_if_ge (tgt := 63) hx hb dX13_product_56 (by decide) (fun c_6 => absurd c_6 hc_5) (fun c_6 => ?_)
  refine lv_iconst (v := 1) hx hb dX13_product_59 (by decide) ?_
  refine lv_goto (tgt := 64) hx hb dX13_product_60 (by decide) ?_
  refine lv_icmp_eq (tgt := 71) hx hb dX13_product_64 (by decide) (fun c_7 => absurd c_7 (by decide)) (fun c_7 => ?_)
  refine lv_iconst (v := 1) hx hb dX13_product_67 (by decide) ?_
  refine lv_goto (tgt := 72) hx hb dX13_product_68 (by decide) ?_
  refine lv_istore (lv' := [(8, .int 1), (6, .long p1), (4, .long (-p0)), (0, .long p0), (2, .long p1)]) hx hb dX13_product_72 hl (by decide) rfl (fun ls hl => ?_)
  refine lv_lload hx hb dX13_product_74 (lv_at hl 2 rfl) ?_
  refine lv_ldc2 (v := 2199023255552) hx hb hown (hts (.constantLong RX13 1128 (2199023255552)) (by decide +kernel)) dX13_product_76 ?_
  refine lv_lload hx hb dX13_product_79 (lv_at hl 1 rfl) ?_
  refine lv_ldiv hx hb dX13_product_81 hn_0 ?_
  refine W.lcmp hx hb dX13_product_82 ?_
  refine lv_if_le (tgt := 101) hx hb dX13_product_83 (by decide) (fun c_8 => ?_) (fun c_8 => absurd hc_6 c_8)
  refine lv_lload_n hx hb dX13_product_101 rfl (lv_at hl 3 rfl) ?_
  refine lv_lload_n hx hb dX13_product_102 rfl (lv_at hl 4 rfl) ?_
  refine lv_lmul hx hb dX13_product_103 ?_
  have hP9 := hP.sub (ws' := []) [] rfl
  have hD9 := hD.sub (ws' := []) [] (by decide) rfl
  have hK9 := hK.sub (tys' := []) [] rfl
  exact W.lret (v := (p0 * p1)) hx hb hr (fun t ht hW => ⟨⟨(p0 * p1), (), rfl, rfl, (zB_mk (by rw [ht]; exact hP9) (va_K.moved hW.alike hK9) hD9)⟩, hS.F ht⟩) hS.2.2 dX13_product_104
set_option maxHeartbeats 4000000 in
set_option maxRecDepth 100000 in
/-- X13_product, a road -/
theorem c_X13_product_r20 (l : Launch) (dC : Nat → ClassId) (dI : Nat → Nat → Nat) (sz : Nat) (p0 : Int64) (p1 : Int64) (hn_0 : ¬ p1 = 0) (hc_0 : ¬ (lg_cmp p0 0) = 0) (hc_1 : ¬ (lg_cmp p1 0) = 0) (hc_2 : ¬ 0 ≤ (lg_cmp p0 0)) (hc_3 : 0 ≤ (lg_cmp p1 0)) (hc_4 : 0 ≤ (lg_cmp p0 0)) (hc_5 : ¬ 0 ≤ (lg_cmp p1 0)) (hc_6 : ¬ (lg_cmp (-p0) (2199023255552 / p1)) ≤ 0) : Met l yX13_product wsX13_product ({ frames := 0, cells := 0, slots := 0, locals := 0 }) (zPc dC dI sz [.long p0, .long p1] [] []) (va_Ql (fun (r : Int64) (_ : Unit) => r = (-4398046511104)) (zB dC dI (fun _ => []) (fun _ : Unit => []) (va_A [] sz)) (va_A [] sz)) 0 0 (va_A [] sz) := by
  refine Met.ofW (cc := cX13_product) (maxL := 9) (ret := (some .long)) (by decide) rfl ?_
  intro p e s m args below meth c s₁ B hml hv
  obtain ⟨rfl, hsz, hP, hK, hD0⟩ := hv
  have hx := B.exec
  have hb := B.bytes
  have hr := B.returns
  have hts := atoms_spec (ws := wsX13_product) B.pre
  have hown : s.vm.findClass RX13 = some m.cls := findClass_of_methodNamed B.named
  have hlocks := B.notSynchronized
  subst hsz
  have hD := hD0.self (sz := s.heap.size)
  generalize hAe : va_A [] s.heap.size = A at hD ⊢
  have hA : ∀ q : Nat, s.heap.size ≤ q → A q := fun q h => by rw [← hAe]; exact Or.inr h
  have hS : va_S A s.heap s.heap [] := va_S.rf
  have hP : va_P (dC, dI) vwCl [] s.heap := hP
  have hl := lv_entry ([.long p0, .long p1]) (n := 9) (Nat.le_of_ble_eq_true rfl)
  rw [lg_entry_eq]
  generalize (lg_sl ([.long p0, .long p1]) ++ List.replicate (9 - (lg_sl ([.long p0, .long p1])).length) Slot.unset).toArray = ls at hl ⊢
  have hl : lv_has ls 9 [(0, .long p0), (2, .long p1)] := hl
  refine lv_lload_n hx hb dX13_product_0 rfl (lv_at hl 0 rfl) ?_
  refine lv_lconst (v := 0) hx hb dX13_product_1 (by decide) ?_
  refine W.lcmp hx hb dX13_product_2 ?_
  refine lv_if_eq (tgt := 12) hx hb dX13_product_3 (by decide) (fun c_1 => absurd c_1 hc_0) (fun c_1 => ?_)
  refine lv_lload_n hx hb dX13_product_6 rfl (lv_at hl 1 rfl) ?_
  refine lv_lconst (v := 0) hx hb dX13_product_7 (by decide) ?_
  refine W.lcmp hx hb dX13_product_8 ?_
  refine lv_if_ne (tgt := 14) hx hb dX13_product_9 (by decide) (fun c_2 => ?_) (fun c_2 => absurd c_2 hc_1)
  refine lv_lload_n hx hb dX13_product_14 rfl (lv_at hl 0 rfl) ?_
  refine lv_lconst (v := 0) hx hb dX13_product_15 (by decide) ?_
  refine W.lcmp hx hb dX13_product_16 ?_
  refine lv_if_ge (tgt := 25) hx hb dX13_product_17 (by decide) (fun c_3 => absurd c_3 hc_2) (fun c_3 => ?_)
  refine lv_lload_n hx hb dX13_product_20 rfl (lv_at hl 0 rfl) ?_
  refine lv_lneg hx hb dX13_product_21 ?_
  refine lv_goto (tgt := 26) hx hb dX13_product_22 (by decide) ?_
  refine lv_lstore (lv' := [(4, .long (-p0)), (0, .long p0), (2, .long p1)]) hx hb dX13_product_26 hl (by decide) rfl (fun ls hl => ?_)
  refine lv_lload_n hx hb dX13_product_28 rfl (lv_at hl 2 rfl) ?_
  refine lv_lconst (v := 0) hx hb dX13_product_29 (by decide) ?_
  refine W.lcmp hx hb dX13_product_30 ?_
  refine lv_if_ge (tgt := 39) hx hb dX13_product_31 (by decide) (fun c_4 => ?_) (fun c_4 => absurd hc_3 c_4)
  refine lv_lload_n hx hb dX13_product_39 rfl (lv_at hl 2 rfl) ?_
  refine lv_lstore (lv' := [(6, .long p1), (4, .long (-p0)), (0, .long p0), (2, .long p1)]) hx hb dX13_product_40 hl (by decide) rfl (fun ls hl => ?_)
  refine lv_lload_n hx hb dX13_product_42 rfl (lv_at hl 2 rfl) ?_
  refine lv_lconst (v := 0) hx hb dX13_product_43 (by decide) ?_
  refine W.lcmp hx hb dX13_product_44 ?_
  refine lv_if_ge (tgt := 52) hx hb dX13_product_45 (by decide) (fun c_5 => ?_) (fun c_5 => absurd hc_4 c_5)
  refine lv_iconst (v := 0) hx hb dX13_product_52 (by decide) ?_
  refine lv_lload_n hx hb dX13_product_53 rfl (lv_at hl 3 rfl) ?_
  refine lv_lconst (v := 0) hx hb dX13_product_54 (by decide) ?_
  refine W.lcmp hx hb dX13_product_55 ?_
  refine lv_if_ge (tgt := 63) hx hb dX13_product_56 (by decide) (fun c_6 => absurd c_6 hc_5) (fun c_6 => ?_)
  refine lv_iconst (v := 1) hx hb dX13_product_59 (by decide) ?_
  refine lv_goto (tgt := 64) hx hb dX13_product_60 (by decide) ?_
  refine lv_icmp_eq (tgt := 71) hx hb dX13_product_64 (by decide) (fun c_7 => absurd c_7 (by decide)) (fun c_7 => ?_)
  refine lv_iconst (v := 1) hx hb dX13_product_67 (by decide) ?_
  refine lv_goto (tgt := 72) hx hb dX13_product_68 (by decide) ?_
  refine lv_istore (lv' := [(8, .int 1), (6, .long p1), (4, .long (-p0)), (0, .long p0), (2, .long p1)]) hx hb dX13_product_72 hl (by decide) rfl (fun ls hl => ?_)
  refine lv_lload hx hb dX13_product_74 (lv_at hl 2 rfl) ?_
  refine lv_ldc2 (v := 2199023255552) hx hb hown (hts (.constantLong RX13 1128 (2199023255552)) (by decide +kernel)) dX13_product_76 ?_
  refine lv_lload hx hb dX13_product_79 (lv_at hl 1 rfl) ?_
  refine lv_ldiv hx hb dX13_product_81 hn_0 ?_
  refine W.lcmp hx hb dX13_product_82 ?_
  refine lv_if_le (tgt := 101) hx hb dX13_product_83 (by decide) (fun c_8 => absurd c_8 hc_6) (fun c_8 => ?_)
  refine lv_iload hx hb dX13_product_86 (lv_at hl 0 rfl) ?_
  refine lv_if_eq (tgt := 97) hx hb dX13_product_88 (by decide) (fun c_9 => absurd c_9 (by decide)) (fun c_9 => ?_)
  refine lv_ldc2 (v := -4398046511104) hx hb hown (hts (.constantLong RX13 1130 (-4398046511104)) (by decide +kernel)) dX13_product_91 ?_
  refine lv_goto (tgt := 100) hx hb dX13_product_94 (by decide) ?_
  have hP9 := hP.sub (ws' := []) [] rfl
  have hD9 := hD.sub (ws' := []) [] (by decide) rfl
  have hK9 := hK.sub (tys' := []) [] rfl
  exact W.lret (v := (-4398046511104)) hx hb hr (fun t ht hW => ⟨⟨(-4398046511104), (), rfl, rfl, (zB_mk (by rw [ht]; exact hP9) (va_K.moved hW.alike hK9) hD9)⟩, hS.F ht⟩) hS.2.2 dX13_product_100
set_option maxHeartbeats 4000000 in
set_option maxRecDepth 100000 in
/-- X13_product, a road -/
theorem c_X13_product_r21 (l : Launch) (dC : Nat → ClassId) (dI : Nat → Nat → Nat) (sz : Nat) (p0 : Int64) (p1 : Int64) (hn_0 : ¬ p1 = 0) (hc_0 : ¬ (lg_cmp p0 0) = 0) (hc_1 : ¬ (lg_cmp p1 0) = 0) (hc_2 : ¬ 0 ≤ (lg_cmp p0 0)) (hc_3 : 0 ≤ (lg_cmp p1 0)) (hc_4 : ¬ 0 ≤ (lg_cmp p0 0)) (hc_5 : 0 ≤ (lg_cmp p1 0)) (hc_6 : (lg_cmp (-p0) (2199023255552 / p1)) ≤ 0) : Met l yX13_product wsX13_product ({ frames := 0, cells := 0, slots := 0, locals := 0 }) (zPc dC dI sz [.long p0, .long p1] [] []) (va_Ql (fun (r : Int64) (_ : Unit) => r = (p0 * p1)) (zB dC dI (fun _ => []) (fun _ : Unit => []) (va_A [] sz)) (va_A [] sz)) 0 0 (va_A [] sz) := by
  refine Met.ofW (cc := cX13_product) (maxL := 9) (ret := (some .long)) (by decide) rfl ?_
  intro p e s m args below meth c s₁ B hml hv
  obtain ⟨rfl, hsz, hP, hK, hD0⟩ := hv
  have hx := B.exec
  have hb := B.bytes
  have hr := B.returns
  have hts := atoms_spec (ws := wsX13_product) B.pre
  have hown : s.vm.findClass RX13 = some m.cls := findClass_of_methodNamed B.named
  have hlocks := B.notSynchronized
  subst hsz
  have hD := hD0.self (sz := s.heap.size)
  generalize hAe : va_A [] s.heap.size = A at hD ⊢
  have hA : ∀ q : Nat, s.heap.size ≤ q → A q := fun q h => by rw [← hAe]; exact Or.inr h
  have hS : va_S A s.heap s.heap [] := va_S.rf
  have hP : va_P (dC, dI) vwCl [] s.heap := hP
  have hl := lv_entry ([.long p0, .long p1]) (n := 9) (Nat.le_of_ble_eq_true rfl)
  rw [lg_entry_eq]
  generalize (lg_sl ([.long p0, .long p1]) ++ List.replicate (9 - (lg_sl ([.long p0, .long p1])).length) Slot.unset).toArray = ls at hl ⊢
  have hl : lv_has ls 9 [(0, .long p0), (2, .long p1)] := hl
  refine lv_lload_n hx hb dX13_product_0 rfl (lv_at hl 0 rfl) ?_
  refine lv_lconst (v := 0) hx hb dX13_product_1 (by decide) ?_
  refine W.lcmp hx hb dX13_product_2 ?_
  refine lv_if_eq (tgt := 12) hx hb dX13_product_3 (by decide) (fun c_1 => absurd c_1 hc_0) (fun c_1 => ?_)
  refine lv_lload_n hx hb dX13_product_6 rfl (lv_at hl 1 rfl) ?_
  refine lv_lconst (v := 0) hx hb dX13_product_7 (by decide) ?_
  refine W.lcmp hx hb dX13_product_8 ?_
  refine lv_if_ne (tgt := 14) hx hb dX13_product_9 (by decide) (fun c_2 => ?_) (fun c_2 => absurd c_2 hc_1)
  refine lv_lload_n hx hb dX13_product_14 rfl (lv_at hl 0 rfl) ?_
  refine lv_lconst (v := 0) hx hb dX13_product_15 (by decide) ?_
  refine W.lcmp hx hb dX13_product_16 ?_
  refine lv_if_ge (tgt := 25) hx hb dX13_product_17 (by decide) (fun c_3 => absurd c_3 hc_2) (fun c_3 => ?_)
  refine lv_lload_n hx hb dX13_product_20 rfl (lv_at hl 0 rfl) ?_
  refine lv_lneg hx hb dX13_product_21 ?_
  refine lv_goto (tgt := 26) hx hb dX13_product_22 (by decide) ?_
  refine lv_lstore (lv' := [(4, .long (-p0)), (0, .long p0), (2, .long p1)]) hx hb dX13_product_26 hl (by decide) rfl (fun ls hl => ?_)
  refine lv_lload_n hx hb dX13_product_28 rfl (lv_at hl 2 rfl) ?_
  refine lv_lconst (v := 0) hx hb dX13_product_29 (by decide) ?_
  refine W.lcmp hx hb dX13_product_30 ?_
  refine lv_if_ge (tgt := 39) hx hb dX13_product_31 (by decide) (fun c_4 => ?_) (fun c_4 => absurd hc_3 c_4)
  refine lv_lload_n hx hb dX13_product_39 rfl (lv_at hl 2 rfl) ?_
  refine lv_lstore (lv' := [(6, .long p1), (4, .long (-p0)), (0, .long p0), (2, .long p1)]) hx hb dX13_product_40 hl (by decide) rfl (fun ls hl => ?_)
  refine lv_lload_n hx hb dX13_product_42 rfl (lv_at hl 2 rfl) ?_
  refine lv_lconst (v := 0) hx hb dX13_product_43 (by decide) ?_
  refine W.lcmp hx hb dX13_product_44 ?_
  refine lv_if_ge (tgt := 52) hx hb dX13_product_45 (by decide) (fun c_5 => absurd c_5 hc_4) (fun c_5 => ?_)
  refine lv_iconst (v := 1) hx hb dX13_product_48 (by decide) ?_
  refine lv_goto (tgt := 53) hx hb dX13_product_49 (by decide) ?_
  refine lv_lload_n hx hb dX13_product_53 rfl (lv_at hl 3 rfl) ?_
  refine lv_lconst (v := 0) hx hb dX13_product_54 (by decide) ?_
  refine W.lcmp hx hb dX13_product_55 ?_
  refine lv_if_ge (tgt := 63) hx hb dX13_product_56 (by decide) (fun c_6 => ?_) (fun c_6 => absurd hc_5 c_6)
  refine lv_iconst (v := 0) hx hb dX13_product_63 (by decide) ?_
  refine lv_icmp_eq (tgt := 71) hx hb dX13_product_64 (by decide) (fun c_7 => absurd c_7 (by decide)) (fun c_7 => ?_)
  refine lv_iconst (v := 1) hx hb dX13_product_67 (by decide) ?_
  refine lv_goto (tgt := 72) hx hb dX13_product_68 (by decide) ?_
  refine lv_istore (lv' := [(8, .int 1), (6, .long p1), (4, .long (-p0)), (0, .long p0), (2, .long p1)]) hx hb dX13_product_72 hl (by decide) rfl (fun ls hl => ?_)
  refine lv_lload hx hb dX13_product_74 (lv_at hl 2 rfl) ?_
  refine lv_ldc2 (v := 2199023255552) hx hb hown (hts (.constantLong RX13 1128 (2199023255552)) (by decide +kernel)) dX13_product_76 ?_
  refine lv_lload hx hb dX13_product_79 (lv_at hl 1 rfl) ?_
  refine lv_ldiv hx hb dX13_product_81 hn_0 ?_
  refine W.lcmp hx hb dX13_product_82 ?_
  refine lv_if_le (tgt := 101) hx hb dX13_product_83 (by decide) (fun c_8 => ?_) (fun c_8 => absurd hc_6 c_8)
  refine lv_lload_n hx hb dX13_product_101 rfl (lv_at hl 3 rfl) ?_
  refine lv_lload_n hx hb dX13_product_102 rfl (lv_at hl 4 rfl) ?_
  refine lv_lmul hx hb dX13_product_103 ?_
  have hP9 := hP.sub (ws' := []) [] rfl
  have hD9 := hD.sub (ws' := []) [] (by decide) rfl
  have hK9 := hK.sub (tys' := []) [] rfl
  exact W.lret (v := (p0 * p1)) hx hb hr (fun t ht hW => ⟨⟨(p0 * p1), (), rfl, rfl, (zB_mk (by rw [ht]; exact hP9) (va_K.moved hW.alike hK9) hD9)⟩, hS.F ht⟩) hS.2.2 dX13_product_104
set_option maxHeartbeats 4000000 in
set_option maxRecDepth 100000 in
/-- X13_product, a road -/
theorem c_X13_product_r22 (l : Launch) (dC : Nat → ClassId) (dI : Nat → Nat → Nat) (sz : Nat) (p0 : Int64) (p1 : Int64) (hn_0 : ¬ p1 = 0) (hc_0 : ¬ (lg_cmp p0 0) = 0) (hc_1 : ¬ (lg_cmp p1 0) = 0) (hc_2 : ¬ 0 ≤ (lg_cmp p0 0)) (hc_3 : 0 ≤ (lg_cmp p1 0)) (hc_4 : ¬ 0 ≤ (lg_cmp p0 0)) (hc_5 : 0 ≤ (lg_cmp p1 0)) (hc_6 : ¬ (lg_cmp (-p0) (2199023255552 / p1)) ≤ 0) : Met l yX13_product wsX13_product ({ frames := 0, cells := 0, slots := 0, locals := 0 }) (zPc dC dI sz [.long p0, .long p1] [] []) (va_Ql (fun (r : Int64) (_ : Unit) => r = (-4398046511104)) (zB dC dI (fun _ => []) (fun _ : Unit => []) (va_A [] sz)) (va_A [] sz)) 0 0 (va_A [] sz) := by
  refine Met.ofW (cc := cX13_product) (maxL := 9) (ret := (some .long)) (by decide) rfl ?_
  intro p e s m args below meth c s₁ B hml hv
  obtain ⟨rfl, hsz, hP, hK, hD0⟩ := hv
  have hx := B.exec
  have hb := B.bytes
  have hr := B.returns
  have hts := atoms_spec (ws := wsX13_product) B.pre
  have hown : s.vm.findClass RX13 = some m.cls := findClass_of_methodNamed B.named
  have hlocks := B.notSynchronized
  subst hsz
  have hD := hD0.self (sz := s.heap.size)
  generalize hAe : va_A [] s.heap.size = A at hD ⊢
  have hA : ∀ q : Nat, s.heap.size ≤ q → A q := fun q h => by rw [← hAe]; exact Or.inr h
  have hS : va_S A s.heap s.heap [] := va_S.rf
  have hP : va_P (dC, dI) vwCl [] s.heap := hP
  have hl := lv_entry ([.long p0, .long p1]) (n := 9) (Nat.le_of_ble_eq_true rfl)
  rw [lg_entry_eq]
  generalize (lg_sl ([.long p0, .long p1]) ++ List.replicate (9 - (lg_sl ([.long p0, .long p1])).length) Slot.unset).toArray = ls at hl ⊢
  have hl : lv_has ls 9 [(0, .long p0), (2, .long p1)] := hl
  refine lv_lload_n hx hb dX13_product_0 rfl (lv_at hl 0 rfl) ?_
  refine lv_lconst (v := 0) hx hb dX13_product_1 (by decide) ?_
  refine W.lcmp hx hb dX13_product_2 ?_
  refine lv_if_eq (tgt := 12) hx hb dX13_product_3 (by decide) (fun c_1 => absurd c_1 hc_0) (fun c_1 => ?_)
  refine lv_lload_n hx hb dX13_product_6 rfl (lv_at hl 1 rfl) ?_
  refine lv_lconst (v := 0) hx hb dX13_product_7 (by decide) ?_
  refine W.lcmp hx hb dX13_product_8 ?_
  refine lv_if_ne (tgt := 14) hx hb dX13_product_9 (by decide) (fun c_2 => ?_) (fun c_2 => absurd c_2 hc_1)
  refine lv_lload_n hx hb dX13_product_14 rfl (lv_at hl 0 rfl) ?_
  refine lv_lconst (v := 0) hx hb dX13_product_15 (by decide) ?_
  refine W.lcmp hx hb dX13_product_16 ?_
  refine lv_if_ge (tgt := 25) hx hb dX13_product_17 (by decide) (fun c_3 => absurd c_3 hc_2) (fun c_3 => ?_)
  refine lv_lload_n hx hb dX13_product_20 rfl (lv_at hl 0 rfl) ?_
  refine lv_lneg hx hb dX13_product_21 ?_
  refine lv_goto (tgt := 26) hx hb dX13_product_22 (by decide) ?_
  refine lv_lstore (lv' := [(4, .long (-p0)), (0, .long p0), (2, .long p1)]) hx hb dX13_product_26 hl (by decide) rfl (fun ls hl => ?_)
  refine lv_lload_n hx hb dX13_product_28 rfl (lv_at hl 2 rfl) ?_
  refine lv_lconst (v := 0) hx hb dX13_product_29 (by decide) ?_
  refine W.lcmp hx hb dX13_product_30 ?_
  refine lv_if_ge (tgt := 39) hx hb dX13_product_31 (by decide) (fun c_4 => ?_) (fun c_4 => absurd hc_3 c_4)
  refine lv_lload_n hx hb dX13_product_39 rfl (lv_at hl 2 rfl) ?_
  refine lv_lstore (lv' := [(6, .long p1), (4, .long (-p0)), (0, .long p0), (2, .long p1)]) hx hb dX13_product_40 hl (by decide) rfl (fun ls hl => ?_)
  refine lv_lload_n hx hb dX13_product_42 rfl (lv_at hl 2 rfl) ?_
  refine lv_lconst (v := 0) hx hb dX13_product_43 (by decide) ?_
  refine W.lcmp hx hb dX13_product_44 ?_
  refine lv_if_ge (tgt := 52) hx hb dX13_product_45 (by decide) (fun c_5 => absurd c_5 hc_4) (fun c_5 => ?_)
  refine lv_iconst (v := 1) hx hb dX13_product_48 (by decide) ?_
  refine lv_goto (tgt := 53) hx hb dX13_product_49 (by decide) ?_
  refine lv_lload_n hx hb dX13_product_53 rfl (lv_at hl 3 rfl) ?_
  refine lv_lconst (v := 0) hx hb dX13_product_54 (by decide) ?_
  refine W.lcmp hx hb dX13_product_55 ?_
  refine lv_if_ge (tgt := 63) hx hb dX13_product_56 (by decide) (fun c_6 => ?_) (fun c_6 => absurd hc_5 c_6)
  refine lv_iconst (v := 0) hx hb dX13_product_63 (by decide) ?_
  refine lv_icmp_eq (tgt := 71) hx hb dX13_product_64 (by decide) (fun c_7 => absurd c_7 (by decide)) (fun c_7 => ?_)
  refine lv_iconst (v := 1) hx hb dX13_product_67 (by decide) ?_
  refine lv_goto (tgt := 72) hx hb dX13_product_68 (by decide) ?_
  refine lv_istore (lv' := [(8, .int 1), (6, .long p1), (4, .long (-p0)), (0, .long p0), (2, .long p1)]) hx hb dX13_product_72 hl (by decide) rfl (fun ls hl => ?_)
  refine lv_lload hx hb dX13_product_74 (lv_at hl 2 rfl) ?_
  refine lv_ldc2 (v := 2199023255552) hx hb hown (hts (.constantLong RX13 1128 (2199023255552)) (by decide +kernel)) dX13_product_76 ?_
  refine lv_lload hx hb dX13_product_79 (lv_at hl 1 rfl) ?_
  refine lv_ldiv hx hb dX13_product_81 hn_0 ?_
  refine W.lcmp hx hb dX13_product_82 ?_
  refine lv_if_le (tgt := 101) hx hb dX13_product_83 (by decide) (fun c_8 => absurd c_8 hc_6) (fun c_8 => ?_)
  refine lv_iload hx hb dX13_product_86 (lv_at hl 0 rfl) ?_
  refine lv_if_eq (tgt := 97) hx hb dX13_product_88 (by decide) (fun c_9 => absurd c_9 (by decide)) (fun c_9 => ?_)
  refine lv_ldc2 (v := -4398046511104) hx hb hown (hts (.constantLong RX13 1130 (-4398046511104)) (by decide +kernel)) dX13_product_91 ?_
  refine lv_goto (tgt := 100) hx hb dX13_product_94 (by decide) ?_
  have hP9 := hP.sub (ws' := []) [] rfl
  have hD9 := hD.sub (ws' := []) [] (by decide) rfl
  have hK9 := hK.sub (tys' := []) [] rfl
  exact W.lret (v := (-4398046511104)) hx hb hr (fun t ht hW => ⟨⟨(-4398046511104), (), rfl, rfl, (zB_mk (by rw [ht]; exact hP9) (va_K.moved hW.alike hK9) hD9)⟩, hS.F ht⟩) hS.2.2 dX13_product_100
set_option maxHeartbeats 4000000 in
set_option maxRecDepth 100000 in
/-- X13_product, a road -/
theorem c_X13_product_r23 (l : Launch) (dC : Nat → ClassId) (dI : Nat → Nat → Nat) (sz : Nat) (p0 : Int64) (p1 : Int64) (hn_0 : ¬ p1 = 0) (hc_0 : ¬ (lg_cmp p0 0) = 0) (hc_1 : ¬ (lg_cmp p1 0) = 0) (hc_2 : ¬ 0 ≤ (lg_cmp p0 0)) (hc_3 : 0 ≤ (lg_cmp p1 0)) (hc_4 : ¬ 0 ≤ (lg_cmp p0 0)) (hc_5 : ¬ 0 ≤ (lg_cmp p1 0)) (hc_6 : (lg_cmp (-p0) (2199023255552 / p1)) ≤ 0) : Met l yX13_product wsX13_product ({ frames := 0, cells := 0, slots := 0, locals := 0 }) (zPc dC dI sz [.long p0, .long p1] [] []) (va_Ql (fun (r : Int64) (_ : Unit) => r = (p0 * p1)) (zB dC dI (fun _ => []) (fun _ : Unit => []) (va_A [] sz)) (va_A [] sz)) 0 0 (va_A [] sz) := by
  refine Met.ofW (cc := cX13_product) (maxL := 9) (ret := (some .long)) (by decide) rfl ?_
  intro p e s m args below meth c s₁ B hml hv
  obtain ⟨rfl, hsz, hP, hK, hD0⟩ := hv
  have hx := B.exec
  have hb := B.bytes
  have hr := B.returns
  have hts := atoms_spec (ws := wsX13_product) B.pre
  have hown : s.vm.findClass RX13 = some m.cls := findClass_of_methodNamed B.named
  have hlocks := B.notSynchronized
  subst hsz
  have hD := hD0.self (sz := s.heap.size)
  generalize hAe : va_A [] s.heap.size = A at hD ⊢
  have hA : ∀ q : Nat, s.heap.size ≤ q → A q := fun q h => by rw [← hAe]; exact Or.inr h
  have hS : va_S A s.heap s.heap [] := va_S.rf
  have hP : va_P (dC, dI) vwCl [] s.heap := hP
  have hl := lv_entry ([.long p0, .long p1]) (n := 9) (Nat.le_of_ble_eq_true rfl)
  rw [lg_entry_eq]
  generalize (lg_sl ([.long p0, .long p1]) ++ List.replicate (9 - (lg_sl ([.long p0, .long p1])).length) Slot.unset).toArray = ls at hl ⊢
  have hl : lv_has ls 9 [(0, .long p0), (2, .long p1)] := hl
  refine lv_lload_n hx hb dX13_product_0 rfl (lv_at hl 0 rfl) ?_
  refine lv_lconst (v := 0) hx hb dX13_product_1 (by decide) ?_
  refine W.lcmp hx hb dX13_product_2 ?_
  refine lv_if_eq (tgt := 12) hx hb dX13_product_3 (by decide) (fun c_1 => absurd c_1 hc_0) (fun c_1 => ?_)
  refine lv_lload_n hx hb dX13_product_6 rfl (lv_at hl 1 rfl) ?_
  refine lv_lconst (v := 0) hx hb dX13_product_7 (by decide) ?_
  refine W.lcmp hx hb dX13_product_8 ?_
  refine lv_if_ne (tgt := 14) hx hb dX13_product_9 (by decide) (fun c_2 => ?_) (fun c_2 => absurd c_2 hc_1)
  refine lv_lload_n hx hb dX13_product_14 rfl (lv_at hl 0 rfl) ?_
  refine lv_lconst (v := 0) hx hb dX13_product_15 (by decide) ?_
  refine W.lcmp hx hb dX13_product_16 ?_
  refine lv_if_ge (tgt := 25) hx hb dX13_product_17 (by decide) (fun c_3 => absurd c_3 hc_2) (fun c_3 => ?_)
  refine lv_lload_n hx hb dX13_product_20 rfl (lv_at hl 0 rfl) ?_
  refine lv_lneg hx hb dX13_product_21 ?_
  refine lv_goto (tgt := 26) hx hb dX13_product_22 (by decide) ?_
  refine lv_lstore (lv' := [(4, .long (-p0)), (0, .long p0), (2, .long p1)]) hx hb dX13_product_26 hl (by decide) rfl (fun ls hl => ?_)
  refine lv_lload_n hx hb dX13_product_28 rfl (lv_at hl 2 rfl) ?_
  refine lv_lconst (v := 0) hx hb dX13_product_29 (by decide) ?_
  refine W.lcmp hx hb dX13_product_30 ?_
  refine lv_if_ge (tgt := 39) hx hb dX13_product_31 (by decide) (fun c_4 => ?_) (fun c_4 => absurd hc_3 c_4)
  refine lv_lload_n hx hb dX13_product_39 rfl (lv_at hl 2 rfl) ?_
  refine lv_lstore (lv' := [(6, .long p1), (4, .long (-p0)), (0, .long p0), (2, .long p1)]) hx hb dX13_product_40 hl (by decide) rfl (fun ls hl => ?_)
  refine lv_lload_n hx hb dX13_product_42 rfl (lv_at hl 2 rfl) ?_
  refine lv_lconst (v := 0) hx hb dX13_product_43 (by decide) ?_
  refine W.lcmp hx hb dX13_product_44 ?_
  refine lv_if_ge (tgt := 52) hx hb dX13_product_45 (by decide) (fun c_5 => absurd c_5 hc_4) (fun c_5 => ?_)
  refine lv_iconst (v := 1) hx hb dX13_product_48 (by decide) ?_
  refine lv_goto (tgt := 53) hx hb dX13_product_49 (by decide) ?_
  refine lv_lload_n hx hb dX13_product_53 rfl (lv_at hl 3 rfl) ?_
  refine lv_lconst (v := 0) hx hb dX13_product_54 (by decide) ?_
  refine W.lcmp hx hb dX13_product_55 ?_
  refine lv_if_ge (tgt := 63) hx hb dX13_product_56 (by decide) (fun c_6 => absurd c_6 hc_5) (fun c_6 => ?_)
  refine lv_iconst (v := 1) hx hb dX13_product_59 (by decide) ?_
  refine lv_goto (tgt := 64) hx hb dX13_product_60 (by decide) ?_
  refine lv_icmp_eq (tgt := 71) hx hb dX13_product_64 (by decide) (fun c_7 => ?_) (fun c_7 => absurd (by decide) c_7)
  refine lv_iconst (v := 0) hx hb dX13_product_71 (by decide) ?_
  refine lv_istore (lv' := [(8, .int 0), (6, .long p1), (4, .long (-p0)), (0, .long p0), (2, .long p1)]) hx hb dX13_product_72 hl (by decide) rfl (fun ls hl => ?_)
  refine lv_lload hx hb dX13_product_74 (lv_at hl 2 rfl) ?_
  refine lv_ldc2 (v := 2199023255552) hx hb hown (hts (.constantLong RX13 1128 (2199023255552)) (by decide +kernel)) dX13_product_76 ?_
  refine lv_lload hx hb dX13_product_79 (lv_at hl 1 rfl) ?_
  refine lv_ldiv hx hb dX13_product_81 hn_0 ?_
  refine W.lcmp hx hb dX13_product_82 ?_
  refine lv_if_le (tgt := 101) hx hb dX13_product_83 (by decide) (fun c_8 => ?_) (fun c_8 => absurd hc_6 c_8)
  refine lv_lload_n hx hb dX13_product_101 rfl (lv_at hl 3 rfl) ?_
  refine lv_lload_n hx hb dX13_product_102 rfl (lv_at hl 4 rfl) ?_
  refine lv_lmul hx hb dX13_product_103 ?_
  have hP9 := hP.sub (ws' := []) [] rfl
  have hD9 := hD.sub (ws' := []) [] (by decide) rfl
  have hK9 := hK.sub (tys' := []) [] rfl
  exact W.lret (v := (p0 * p1)) hx hb hr (fun t ht hW => ⟨⟨(p0 * p1), (), rfl, rfl, (zB_mk (by rw [ht]; exact hP9) (va_K.moved hW.alike hK9) hD9)⟩, hS.F ht⟩) hS.2.2 dX13_product_104
set_option maxHeartbeats 4000000 in
set_option maxRecDepth 100000 in
/-- X13_product, a road -/
theorem c_X13_product_r24 (l : Launch) (dC : Nat → ClassId) (dI : Nat → Nat → Nat) (sz : Nat) (p0 : Int64) (p1 : Int64) (hn_0 : ¬ p1 = 0) (hc_0 : ¬ (lg_cmp p0 0) = 0) (hc_1 : ¬ (lg_cmp p1 0) = 0) (hc_2 : ¬ 0 ≤ (lg_cmp p0 0)) (hc_3 : 0 ≤ (lg_cmp p1 0)) (hc_4 : ¬ 0 ≤ (lg_cmp p0 0)) (hc_5 : ¬ 0 ≤ (lg_cmp p1 0)) (hc_6 : ¬ (lg_cmp (-p0) (2199023255552 / p1)) ≤ 0) : Met l yX13_product wsX13_product ({ frames := 0, cells := 0, slots := 0, locals := 0 }) (zPc dC dI sz [.long p0, .long p1] [] []) (va_Ql (fun (r : Int64) (_ : Unit) => r = 4398046511104) (zB dC dI (fun _ => []) (fun _ : Unit => []) (va_A [] sz)) (va_A [] sz)) 0 0 (va_A [] sz) := by
  refine Met.ofW (cc := cX13_product) (maxL := 9) (ret := (some .long)) (by decide) rfl ?_
  intro p e s m args below meth c s₁ B hml hv
  obtain ⟨rfl, hsz, hP, hK, hD0⟩ := hv
  have hx := B.exec
  have hb := B.bytes
  have hr := B.returns
  have hts := atoms_spec (ws := wsX13_product) B.pre
  have hown : s.vm.findClass RX13 = some m.cls := findClass_of_methodNamed B.named
  have hlocks := B.notSynchronized
  subst hsz
  have hD := hD0.self (sz := s.heap.size)
  generalize hAe : va_A [] s.heap.size = A at hD ⊢
  have hA : ∀ q : Nat, s.heap.size ≤ q → A q := fun q h => by rw [← hAe]; exact Or.inr h
  have hS : va_S A s.heap s.heap [] := va_S.rf
  have hP : va_P (dC, dI) vwCl [] s.heap := hP
  have hl := lv_entry ([.long p0, .long p1]) (n := 9) (Nat.le_of_ble_eq_true rfl)
  rw [lg_entry_eq]
  generalize (lg_sl ([.long p0, .long p1]) ++ List.replicate (9 - (lg_sl ([.long p0, .long p1])).length) Slot.unset).toArray = ls at hl ⊢
  have hl : lv_has ls 9 [(0, .long p0), (2, .long p1)] := hl
  refine lv_lload_n hx hb dX13_product_0 rfl (lv_at hl 0 rfl) ?_
  refine lv_lconst (v := 0) hx hb dX13_product_1 (by decide) ?_
  refine W.lcmp hx hb dX13_product_2 ?_
  refine lv_if_eq (tgt := 12) hx hb dX13_product_3 (by decide) (fun c_1 => absurd c_1 hc_0) (fun c_1 => ?_)
  refine lv_lload_n hx hb dX13_product_6 rfl (lv_at hl 1 rfl) ?_
  refine lv_lconst (v := 0) hx hb dX13_product_7 (by decide) ?_
  refine W.lcmp hx hb dX13_product_8 ?_
  refine lv_if_ne (tgt := 14) hx hb dX13_product_9 (by decide) (fun c_2 => ?_) (fun c_2 => absurd c_2 hc_1)
  refine lv_lload_n hx hb dX13_product_14 rfl (lv_at hl 0 rfl) ?_
  refine lv_lconst (v := 0) hx hb dX13_product_15 (by decide) ?_
  refine W.lcmp hx hb dX13_product_16 ?_
  refine lv_if_ge (tgt := 25) hx hb dX13_product_17 (by decide) (fun c_3 => absurd c_3 hc_2) (fun c_3 => ?_)
  refine lv_lload_n hx hb dX13_product_20 rfl (lv_at hl 0 rfl) ?_
  refine lv_lneg hx hb dX13_product_21 ?_
  refine lv_goto (tgt := 26) hx hb dX13_product_22 (by decide) ?_
  refine lv_lstore (lv' := [(4, .long (-p0)), (0, .long p0), (2, .long p1)]) hx hb dX13_product_26 hl (by decide) rfl (fun ls hl => ?_)
  refine lv_lload_n hx hb dX13_product_28 rfl (lv_at hl 2 rfl) ?_
  refine lv_lconst (v := 0) hx hb dX13_product_29 (by decide) ?_
  refine W.lcmp hx hb dX13_product_30 ?_
  refine lv_if_ge (tgt := 39) hx hb dX13_product_31 (by decide) (fun c_4 => ?_) (fun c_4 => absurd hc_3 c_4)
  refine lv_lload_n hx hb dX13_product_39 rfl (lv_at hl 2 rfl) ?_
  refine lv_lstore (lv' := [(6, .long p1), (4, .long (-p0)), (0, .long p0), (2, .long p1)]) hx hb dX13_product_40 hl (by decide) rfl (fun ls hl => ?_)
  refine lv_lload_n hx hb dX13_product_42 rfl (lv_at hl 2 rfl) ?_
  refine lv_lconst (v := 0) hx hb dX13_product_43 (by decide) ?_
  refine W.lcmp hx hb dX13_product_44 ?_
  refine lv_if_ge (tgt := 52) hx hb dX13_product_45 (by decide) (fun c_5 => absurd c_5 hc_4) (fun c_5 => ?_)
  refine lv_iconst (v := 1) hx hb dX13_product_48 (by decide) ?_
  refine lv_goto (tgt := 53) hx hb dX13_product_49 (by decide) ?_
  refine lv_lload_n hx hb dX13_product_53 rfl (lv_at hl 3 rfl) ?_
  refine lv_lconst (v := 0) hx hb dX13_product_54 (by decide) ?_
  refine W.lcmp hx hb dX13_product_55 ?_
  refine lv_if_ge (tgt := 63) hx hb dX13_product_56 (by decide) (fun c_6 => absurd c_6 hc_5) (fun c_6 => ?_)
  refine lv_iconst (v := 1) hx hb dX13_product_59 (by decide) ?_
  refine lv_goto (tgt := 64) hx hb dX13_product_60 (by decide) ?_
  refine lv_icmp_eq (tgt := 71) hx hb dX13_product_64 (by decide) (fun c_7 => ?_) (fun c_7 => absurd (by decide) c_7)
  refine lv_iconst (v := 0) hx hb dX13_product_71 (by decide) ?_
  refine lv_istore (lv' := [(8, .int 0), (6, .long p1), (4, .long (-p0)), (0, .long p0), (2, .long p1)]) hx hb dX13_product_72 hl (by decide) rfl (fun ls hl => ?_)
  refine lv_lload hx hb dX13_product_74 (lv_at hl 2 rfl) ?_
  refine lv_ldc2 (v := 2199023255552) hx hb hown (hts (.constantLong RX13 1128 (2199023255552)) (by decide +kernel)) dX13_product_76 ?_
  refine lv_lload hx hb dX13_product_79 (lv_at hl 1 rfl) ?_
  refine lv_ldiv hx hb dX13_product_81 hn_0 ?_
  refine W.lcmp hx hb dX13_product_82 ?_
  refine lv_if_le (tgt := 101) hx hb dX13_product_83 (by decide) (fun c_8 => absurd c_8 hc_6) (fun c_8 => ?_)
  refine lv_iload hx hb dX13_product_86 (lv_at hl 0 rfl) ?_
  refine lv_if_eq (tgt := 97) hx hb dX13_product_88 (by decide) (fun c_9 => ?_) (fun c_9 => absurd (by decide) c_9)
  refine lv_ldc2 (v := 4398046511104) hx hb hown (hts (.constantLong RX13 1132 (4398046511104)) (by decide +kernel)) dX13_product_97 ?_
  have hP9 := hP.sub (ws' := []) [] rfl
  have hD9 := hD.sub (ws' := []) [] (by decide) rfl
  have hK9 := hK.sub (tys' := []) [] rfl
  exact W.lret (v := 4398046511104) hx hb hr (fun t ht hW => ⟨⟨4398046511104, (), rfl, rfl, (zB_mk (by rw [ht]; exact hP9) (va_K.moved hW.alike hK9) hD9)⟩, hS.F ht⟩) hS.2.2 dX13_product_100
set_option maxHeartbeats 4000000 in
set_option maxRecDepth 100000 in
/-- X13_product, a road -/
theorem c_X13_product_r25 (l : Launch) (dC : Nat → ClassId) (dI : Nat → Nat → Nat) (sz : Nat) (p0 : Int64) (p1 : Int64) (hn_0 : ¬ (-p1) = 0) (hc_0 : ¬ (lg_cmp p0 0) = 0) (hc_1 : ¬ (lg_cmp p1 0) = 0) (hc_2 : ¬ 0 ≤ (lg_cmp p0 0)) (hc_3 : ¬ 0 ≤ (lg_cmp p1 0)) (hc_4 : 0 ≤ (lg_cmp p0 0)) (hc_5 : 0 ≤ (lg_cmp p1 0)) (hc_6 : (lg_cmp (-p0) (2199023255552 / (-p1))) ≤ 0) : Met l yX13_product wsX13_product ({ frames := 0, cells := 0, slots := 0, locals := 0 }) (zPc dC dI sz [.long p0, .long p1] [] []) (va_Ql (fun (r : Int64) (_ : Unit) => r = (p0 * p1)) (zB dC dI (fun _ => []) (fun _ : Unit => []) (va_A [] sz)) (va_A [] sz)) 0 0 (va_A [] sz) := by
  refine Met.ofW (cc := cX13_product) (maxL := 9) (ret := (some .long)) (by decide) rfl ?_
  intro p e s m args below meth c s₁ B hml hv
  obtain ⟨rfl, hsz, hP, hK, hD0⟩ := hv
  have hx := B.exec
  have hb := B.bytes
  have hr := B.returns
  have hts := atoms_spec (ws := wsX13_product) B.pre
  have hown : s.vm.findClass RX13 = some m.cls := findClass_of_methodNamed B.named
  have hlocks := B.notSynchronized
  subst hsz
  have hD := hD0.self (sz := s.heap.size)
  generalize hAe : va_A [] s.heap.size = A at hD ⊢
  have hA : ∀ q : Nat, s.heap.size ≤ q → A q := fun q h => by rw [← hAe]; exact Or.inr h
  have hS : va_S A s.heap s.heap [] := va_S.rf
  have hP : va_P (dC, dI) vwCl [] s.heap := hP
  have hl := lv_entry ([.long p0, .long p1]) (n := 9) (Nat.le_of_ble_eq_true rfl)
  rw [lg_entry_eq]
  generalize (lg_sl ([.long p0, .long p1]) ++ List.replicate (9 - (lg_sl ([.long p0, .long p1])).length) Slot.unset).toArray = ls at hl ⊢
  have hl : lv_has ls 9 [(0, .long p0), (2, .long p1)] := hl
  refine lv_lload_n hx hb dX13_product_0 rfl (lv_at hl 0 rfl) ?_
  refine lv_lconst (v := 0) hx hb dX13_product_1 (by decide) ?_
  refine W.lcmp hx hb dX13_product_2 ?_
  refine lv_if_eq (tgt := 12) hx hb dX13_product_3 (by decide) (fun c_1 => absurd c_1 hc_0) (fun c_1 => ?_)
  refine lv_lload_n hx hb dX13_product_6 rfl (lv_at hl 1 rfl) ?_
  refine lv_lconst (v := 0) hx hb dX13_product_7 (by decide) ?_
  refine W.lcmp hx hb dX13_product_8 ?_
  refine lv_if_ne (tgt := 14) hx hb dX13_product_9 (by decide) (fun c_2 => ?_) (fun c_2 => absurd c_2 hc_1)
  refine lv_lload_n hx hb dX13_product_14 rfl (lv_at hl 0 rfl) ?_
  refine lv_lconst (v := 0) hx hb dX13_product_15 (by decide) ?_
  refine W.lcmp hx hb dX13_product_16 ?_
  refine lv_if_ge (tgt := 25) hx hb dX13_product_17 (by decide) (fun c_3 => absurd c_3 hc_2) (fun c_3 => ?_)
  refine lv_lload_n hx hb dX13_product_20 rfl (lv_at hl 0 rfl) ?_
  refine lv_lneg hx hb dX13_product_21 ?_
  refine lv_goto (tgt := 26) hx hb dX13_product_22 (by decide) ?_
  refine lv_lstore (lv' := [(4, .long (-p0)), (0, .long p0), (2, .long p1)]) hx hb dX13_product_26 hl (by decide) rfl (fun ls hl => ?_)
  refine lv_lload_n hx hb dX13_product_28 rfl (lv_at hl 2 rfl) ?_
  refine lv_lconst (v := 0) hx hb dX13_product_29 (by decide) ?_
  refine W.lcmp hx hb dX13_product_30 ?_
  refine lv_if_ge (tgt := 39) hx hb dX13_product_31 (by decide) (fun c_4 => absurd c_4 hc_3) (fun c_4 => ?_)
  refine lv_lload_n hx hb dX13_product_34 rfl (lv_at hl 2 rfl) ?_
  refine lv_lneg hx hb dX13_product_35 ?_
  refine lv_goto (tgt := 40) hx hb dX13_product_36 (by decide) ?_
  refine lv_lstore (lv' := [(6, .long (-p1)), (4, .long (-p0)), (0, .long p0), (2, .long p1)]) hx hb dX13_product_40 hl (by decide) rfl (fun ls hl => ?_)
  refine lv_lload_n hx hb dX13_product_42 rfl (lv_at hl 2 rfl) ?_
  refine lv_lconst (v := 0) hx hb dX13_product_43 (by decide) ?_
  refine W.lcmp hx hb dX13_product_44 ?_
  refine lv_if_ge (tgt := 52) hx hb dX13_product_45 (by decide) (fun c_5 => ?_) (fun c_5 => absurd hc_4 c_5)
  refine lv_iconst (v := 0) hx hb dX13_product_52 (by decide) ?_
  refine lv_lload_n hx hb dX13_product_53 rfl (lv_at hl 3 rfl) ?_
  refine lv_lconst (v := 0) hx hb dX13_product_54 (by decide) ?_
  refine W.lcmp hx hb dX13_product_55 ?_
  refine lv_if_ge (tgt := 63) hx hb dX13_product_56 (by decide) (fun c_6 => ?_) (fun c_6 => absurd hc_5 c_6)
  refine lv_iconst (v := 0) hx hb dX13_product_63 (by decide) ?_
  refine lv_icmp_eq (tgt := 71) hx hb dX13_product_64 (by decide) (fun c_7 => ?_) (fun c_7 => absurd (by decide) c_7)
  refine lv_iconst (v := 0) hx hb dX13_product_71 (by decide) ?_
  refine lv_istore (lv' := [(8, .int 0), (6, .long (-p1)), (4, .long (-p0)), (0, .long p0), (2, .long p1)]) hx hb dX13_product_72 hl (by decide) rfl (fun ls hl => ?_)
  refine lv_lload hx hb dX13_product_74 (lv_at hl 2 rfl) ?_
  refine lv_ldc2 (v := 2199023255552) hx hb hown (hts (.constantLong RX13 1128 (2199023255552)) (by decide +kernel)) dX13_product_76 ?_
  refine lv_lload hx hb dX13_product_79 (lv_at hl 1 rfl) ?_
  refine lv_ldiv hx hb dX13_product_81 hn_0 ?_
  refine W.lcmp hx hb dX13_product_82 ?_
  refine lv_if_le (tgt := 101) hx hb dX13_product_83 (by decide) (fun c_8 => ?_) (fun c_8 => absurd hc_6 c_8)
  refine lv_lload_n hx hb dX13_product_101 rfl (lv_at hl 3 rfl) ?_
  refine lv_lload_n hx hb dX13_product_102 rfl (lv_at hl 4 rfl) ?_
  refine lv_lmul hx hb dX13_product_103 ?_
  have hP9 := hP.sub (ws' := []) [] rfl
  have hD9 := hD.sub (ws' := []) [] (by decide) rfl
  have hK9 := hK.sub (tys' := []) [] rfl
  exact W.lret (v := (p0 * p1)) hx hb hr (fun t ht hW => ⟨⟨(p0 * p1), (), rfl, rfl, (zB_mk (by rw [ht]; exact hP9) (va_K.moved hW.alike hK9) hD9)⟩, hS.F ht⟩) hS.2.2 dX13_product_104
set_option maxHeartbeats 4000000 in
set_option maxRecDepth 100000 in
/-- X13_product, a road -/
theorem c_X13_product_r26 (l : Launch) (dC : Nat → ClassId) (dI : Nat → Nat → Nat) (sz : Nat) (p0 : Int64) (p1 : Int64) (hn_0 : ¬ (-p1) = 0) (hc_0 : ¬ (lg_cmp p0 0) = 0) (hc_1 : ¬ (lg_cmp p1 0) = 0) (hc_2 : ¬ 0 ≤ (lg_cmp p0 0)) (hc_3 : ¬ 0 ≤ (lg_cmp p1 0)) (hc_4 : 0 ≤ (lg_cmp p0 0)) (hc_5 : 0 ≤ (lg_cmp p1 0)) (hc_6 : ¬ (lg_cmp (-p0) (2199023255552 / (-p1))) ≤ 0) : Met l yX13_product wsX13_product ({ frames := 0, cells := 0, slots := 0, locals := 0 }) (zPc dC dI sz [.long p0, .long p1] [] []) (va_Ql (fun (r : Int64) (_ : Unit) => r = 4398046511104) (zB dC dI (fun _ => []) (fun _ : Unit => []) (va_A [] sz)) (va_A [] sz)) 0 0 (va_A [] sz) := by
  refine Met.ofW (cc := cX13_product) (maxL := 9) (ret := (some .long)) (by decide) rfl ?_
  intro p e s m args below meth c s₁ B hml hv
  obtain ⟨rfl, hsz, hP, hK, hD0⟩ := hv
  have hx := B.exec
  have hb := B.bytes
  have hr := B.returns
  have hts := atoms_spec (ws := wsX13_product) B.pre
  have hown : s.vm.findClass RX13 = some m.cls := findClass_of_methodNamed B.named
  have hlocks := B.notSynchronized
  subst hsz
  have hD := hD0.self (sz := s.heap.size)
  generalize hAe : va_A [] s.heap.size = A at hD ⊢
  have hA : ∀ q : Nat, s.heap.size ≤ q → A q := fun q h => by rw [← hAe]; exact Or.inr h
  have hS : va_S A s.heap s.heap [] := va_S.rf
  have hP : va_P (dC, dI) vwCl [] s.heap := hP
  have hl := lv_entry ([.long p0, .long p1]) (n := 9) (Nat.le_of_ble_eq_true rfl)
  rw [lg_entry_eq]
  generalize (lg_sl ([.long p0, .long p1]) ++ List.replicate (9 - (lg_sl ([.long p0, .long p1])).length) Slot.unset).toArray = ls at hl ⊢
  have hl : lv_has ls 9 [(0, .long p0), (2, .long p1)] := hl
  refine lv_lload_n hx hb dX13_product_0 rfl (lv_at hl 0 rfl) ?_
  refine lv_lconst (v := 0) hx hb dX13_product_1 (by decide) ?_
  refine W.lcmp hx hb dX13_product_2 ?_
  refine lv_if_eq (tgt := 12) hx hb dX13_product_3 (by decide) (fun c_1 => absurd c_1 hc_0) (fun c_1 => ?_)
  refine lv_lload_n hx hb dX13_product_6 rfl (lv_at hl 1 rfl) ?_
  refine lv_lconst (v := 0) hx hb dX13_product_7 (by decide) ?_
  refine W.lcmp hx hb dX13_product_8 ?_
  refine lv_if_ne (tgt := 14) hx hb dX13_product_9 (by decide) (fun c_2 => ?_) (fun c_2 => absurd c_2 hc_1)
  refine lv_lload_n hx hb dX13_product_14 rfl (lv_at hl 0 rfl) ?_
  refine lv_lconst (v := 0) hx hb dX13_product_15 (by decide) ?_
  refine W.lcmp hx hb dX13_product_16 ?_
  refine lv_if_ge (tgt := 25) hx hb dX13_product_17 (by decide) (fun c_3 => absurd c_3 hc_2) (fun c_3 => ?_)
  refine lv_lload_n hx hb dX13_product_20 rfl (lv_at hl 0 rfl) ?_
  refine lv_lneg hx hb dX13_product_21 ?_
  refine lv_goto (tgt := 26) hx hb dX13_product_22 (by decide) ?_
  refine lv_lstore (lv' := [(4, .long (-p0)), (0, .long p0), (2, .long p1)]) hx hb dX13_product_26 hl (by decide) rfl (fun ls hl => ?_)
  refine lv_lload_n hx hb dX13_product_28 rfl (lv_at hl 2 rfl) ?_
  refine lv_lconst (v := 0) hx hb dX13_product_29 (by decide) ?_
  refine W.lcmp hx hb dX13_product_30 ?_
  refine lv_if_ge (tgt := 39) hx hb dX13_product_31 (by decide) (fun c_4 => absurd c_4 hc_3) (fun c_4 => ?_)
  refine lv_lload_n hx hb dX13_product_34 rfl (lv_at hl 2 rfl) ?_
  refine lv_lneg hx hb dX13_product_35 ?_
  refine lv_goto (tgt := 40) hx hb dX13_product_36 (by decide) ?_
  refine lv_lstore (lv' := [(6, .long (-p1)), (4, .long (-p0)), (0, .long p0), (2, .long p1)]) hx hb dX13_product_40 hl (by decide) rfl (fun ls hl => ?_)
  refine lv_lload_n hx hb dX13_product_42 rfl (lv_at hl 2 rfl) ?_
  refine lv_lconst (v := 0) hx hb dX13_product_43 (by decide) ?_
  refine W.lcmp hx hb dX13_product_44 ?_
  refine lv_if_ge (tgt := 52) hx hb dX13_product_45 (by decide) (fun c_5 => ?_) (fun c_5 => absurd hc_4 c_5)
  refine lv_iconst (v := 0) hx hb dX13_product_52 (by decide) ?_
  refine lv_lload_n hx hb dX13_product_53 rfl (lv_at hl 3 rfl) ?_
  refine lv_lconst (v := 0) hx hb dX13_product_54 (by decide) ?_
  refine W.lcmp hx hb dX13_product_55 ?_
  refine lv_if_ge (tgt := 63) hx hb dX13_product_56 (by decide) (fun c_6 => ?_) (fun c_6 => absurd hc_5 c_6)
  refine lv_iconst (v := 0) hx hb dX13_product_63 (by decide) ?_
  refine lv_icmp_eq (tgt := 71) hx hb dX13_product_64 (by decide) (fun c_7 => ?_) (fun c_7 => absurd (by decide) c_7)
  refine lv_iconst (v := 0) hx hb dX13_product_71 (by decide) ?_
  refine lv_istore (lv' := [(8, .int 0), (6, .long (-p1)), (4, .long (-p0)), (0, .long p0), (2, .long p1)]) hx hb dX13_product_72 hl (by decide) rfl (fun ls hl => ?_)
  refine lv_lload hx hb dX13_product_74 (lv_at hl 2 rfl) ?_
  refine lv_ldc2 (v := 2199023255552) hx hb hown (hts (.constantLong RX13 1128 (2199023255552)) (by decide +kernel)) dX13_product_76 ?_
  refine lv_lload hx hb dX13_product_79 (lv_at hl 1 rfl) ?_
  refine lv_ldiv hx hb dX13_product_81 hn_0 ?_
  refine W.lcmp hx hb dX13_product_82 ?_
  refine lv_if_le (tgt := 101) hx hb dX13_product_83 (by decide) (fun c_8 => absurd c_8 hc_6) (fun c_8 => ?_)
  refine lv_iload hx hb dX13_product_86 (lv_at hl 0 rfl) ?_
  refine lv_if_eq (tgt := 97) hx hb dX13_product_88 (by decide) (fun c_9 => ?_) (fun c_9 => absurd (by decide) c_9)
  refine lv_ldc2 (v := 4398046511104) hx hb hown (hts (.constantLong RX13 1132 (4398046511104)) (by decide +kernel)) dX13_product_97 ?_
  have hP9 := hP.sub (ws' := []) [] rfl
  have hD9 := hD.sub (ws' := []) [] (by decide) rfl
  have hK9 := hK.sub (tys' := []) [] rfl
  exact W.lret (v := 4398046511104) hx hb hr (fun t ht hW => ⟨⟨4398046511104, (), rfl, rfl, (zB_mk (by rw [ht]; exact hP9) (va_K.moved hW.alike hK9) hD9)⟩, hS.F ht⟩) hS.2.2 dX13_product_100
set_option maxHeartbeats 4000000 in
set_option maxRecDepth 100000 in
/-- X13_product, a road -/
theorem c_X13_product_r27 (l : Launch) (dC : Nat → ClassId) (dI : Nat → Nat → Nat) (sz : Nat) (p0 : Int64) (p1 : Int64) (hn_0 : ¬ (-p1) = 0) (hc_0 : ¬ (lg_cmp p0 0) = 0) (hc_1 : ¬ (lg_cmp p1 0) = 0) (hc_2 : ¬ 0 ≤ (lg_cmp p0 0)) (hc_3 : ¬ 0 ≤ (lg_cmp p1 0)) (hc_4 : 0 ≤ (lg_cmp p0 0)) (hc_5 : ¬ 0 ≤ (lg_cmp p1 0)) (hc_6 : (lg_cmp (-p0) (2199023255552 / (-p1))) ≤ 0) : Met l yX13_product wsX13_product ({ frames := 0, cells := 0, slots := 0, locals := 0 }) (zPc dC dI sz [.long p0, .long p1] [] []) (va_Ql (fun (r : Int64) (_ : Unit) => r = (p0 * p1)) (zB dC dI (fun _ => []) (fun _ : Unit => []) (va_A [] sz)) (va_A [] sz)) 0 0 (va_A [] sz) := by
  refine Met.ofW (cc := cX13_product) (maxL := 9) (ret := (some .long)) (by decide) rfl ?_
  intro p e s m args below meth c s₁ B hml hv
  obtain ⟨rfl, hsz, hP, hK, hD0⟩ := hv
  have hx := B.exec
  have hb := B.bytes
  have hr := B.returns
  have hts := atoms_spec (ws := wsX13_product) B.pre
  have hown : s.vm.findClass RX13 = some m.cls := findClass_of_methodNamed B.named
  have hlocks := B.notSynchronized
  subst hsz
  have hD := hD0.self (sz := s.heap.size)
  generalize hAe : va_A [] s.heap.size = A at hD ⊢
  have hA : ∀ q : Nat, s.heap.size ≤ q → A q := fun q h => by rw [← hAe]; exact Or.inr h
  have hS : va_S A s.heap s.heap [] := va_S.rf
  have hP : va_P (dC, dI) vwCl [] s.heap := hP
  have hl := lv_entry ([.long p0, .long p1]) (n := 9) (Nat.le_of_ble_eq_true rfl)
  rw [lg_entry_eq]
  generalize (lg_sl ([.long p0, .long p1]) ++ List.replicate (9 - (lg_sl ([.long p0, .long p1])).length) Slot.unset).toArray = ls at hl ⊢
  have hl : lv_has ls 9 [(0, .long p0), (2, .long p1)] := hl
  refine lv_lload_n hx hb dX13_product_0 rfl (lv_at hl 0 rfl) ?_
  refine lv_lconst (v := 0) hx hb dX13_product_1 (by decide) ?_
  refine W.lcmp hx hb dX13_product_2 ?_
  refine lv_if_eq (tgt := 12) hx hb dX13_product_3 (by decide) (fun c_1 => absurd c_1 hc_0) (fun c_1 => ?_)
  refine lv_lload_n hx hb dX13_product_6 rfl (lv_at hl 1 rfl) ?_
  refine lv_lconst (v := 0) hx hb dX13_product_7 (by decide) ?_
  refine W.lcmp hx hb dX13_product_8 ?_
  refine lv_if_ne (tgt := 14) hx hb dX13_product_9 (by decide) (fun c_2 => ?_) (fun c_2 => absurd c_2 hc_1)
  refine lv_lload_n hx hb dX13_product_14 rfl (lv_at hl 0 rfl) ?_
  refine lv_lconst (v := 0) hx hb dX13_product_15 (by decide) ?_
  refine W.lcmp hx hb dX13_product_16 ?_
  refine lv_if_ge (tgt := 25) hx hb dX13_product_17 (by decide) (fun c_3 => absurd c_3 hc_2) (fun c_3 => ?_)
  refine lv_lload_n hx hb dX13_product_20 rfl (lv_at hl 0 rfl) ?_
  refine lv_lneg hx hb dX13_product_21 ?_
  refine lv_goto (tgt := 26) hx hb dX13_product_22 (by decide) ?_
  refine lv_lstore (lv' := [(4, .long (-p0)), (0, .long p0), (2, .long p1)]) hx hb dX13_product_26 hl (by decide) rfl (fun ls hl => ?_)
  refine lv_lload_n hx hb dX13_product_28 rfl (lv_at hl 2 rfl) ?_
  refine lv_lconst (v := 0) hx hb dX13_product_29 (by decide) ?_
  refine W.lcmp hx hb dX13_product_30 ?_
  refine lv_if_ge (tgt := 39) hx hb dX13_product_31 (by decide) (fun c_4 => absurd c_4 hc_3) (fun c_4 => ?_)
  refine lv_lload_n hx hb dX13_product_34 rfl (lv_at hl 2 rfl) ?_
  refine lv_lneg hx hb dX13_product_35 ?_
  refine lv_goto (tgt := 40) hx hb dX13_product_36 (by decide) ?_
  refine lv_lstore (lv' := [(6, .long (-p1)), (4, .long (-p0)), (0, .long p0), (2, .long p1)]) hx hb dX13_product_40 hl (by decide) rfl (fun ls hl => ?_)
  refine lv_lload_n hx hb dX13_product_42 rfl (lv_at hl 2 rfl) ?_
  refine lv_lconst (v := 0) hx hb dX13_product_43 (by decide) ?_
  refine W.lcmp hx hb dX13_product_44 ?_
  refine lv_if_ge (tgt := 52) hx hb dX13_product_45 (by decide) (fun c_5 => ?_) (fun c_5 => absurd hc_4 c_5)
  refine lv_iconst (v := 0) hx hb dX13_product_52 (by decide) ?_
  refine lv_lload_n hx hb dX13_product_53 rfl (lv_at hl 3 rfl) ?_
  refine lv_lconst (v := 0) hx hb dX13_product_54 (by decide) ?_
  refine W.lcmp hx hb dX13_product_55 ?_
  refine lv_if_ge (tgt := 63) hx hb dX13_product_56 (by decide) (fun c_6 => absurd c_6 hc_5) (fun c_6 => ?_)
  refine lv_iconst (v := 1) hx hb dX13_product_59 (by decide) ?_
  refine lv_goto (tgt := 64) hx hb dX13_product_60 (by decide) ?_
  refine lv_icmp_eq (tgt := 71) hx hb dX13_product_64 (by decide) (fun c_7 => absurd c_7 (by decide)) (fun c_7 => ?_)
  refine lv_iconst (v := 1) hx hb dX13_product_67 (by decide) ?_
  refine lv_goto (tgt := 72) hx hb dX13_product_68 (by decide) ?_
  refine lv_istore (lv' := [(8, .int 1), (6, .long (-p1)), (4, .long (-p0)), (0, .long p0), (2, .long p1)]) hx hb dX13_product_72 hl (by decide) rfl (fun ls hl => ?_)
  refine lv_lload hx hb dX13_product_74 (lv_at hl 2 rfl) ?_
  refine lv_ldc2 (v := 2199023255552) hx hb hown (hts (.constantLong RX13 1128 (2199023255552)) (by decide +kernel)) dX13_product_76 ?_
  refine lv_lload hx hb dX13_product_79 (lv_at hl 1 rfl) ?_
  refine lv_ldiv hx hb dX13_product_81 hn_0 ?_
  refine W.lcmp hx hb dX13_product_82 ?_
  refine lv_if_le (tgt := 101) hx hb dX13_product_83 (by decide) (fun c_8 => ?_) (fun c_8 => absurd hc_6 c_8)
  refine lv_lload_n hx hb dX13_product_101 rfl (lv_at hl 3 rfl) ?_
  refine lv_lload_n hx hb dX13_product_102 rfl (lv_at hl 4 rfl) ?_
  refine lv_lmul hx hb dX13_product_103 ?_
  have hP9 := hP.sub (ws' := []) [] rfl
  have hD9 := hD.sub (ws' := []) [] (by decide) rfl
  have hK9 := hK.sub (tys' := []) [] rfl
  exact W.lret (v := (p0 * p1)) hx hb hr (fun t ht hW => ⟨⟨(p0 * p1), (), rfl, rfl, (zB_mk (by rw [ht]; exact hP9) (va_K.moved hW.alike hK9) hD9)⟩, hS.F ht⟩) hS.2.2 dX13_product_104
set_option maxHeartbeats 4000000 in
set_option maxRecDepth 100000 in
/-- X13_product, a road -/
theorem c_X13_product_r28 (l : Launch) (dC : Nat → ClassId) (dI : Nat → Nat → Nat) (sz : Nat) (p0 : Int64) (p1 : Int64) (hn_0 : ¬ (-p1) = 0) (hc_0 : ¬ (lg_cmp p0 0) = 0) (hc_1 : ¬ (lg_cmp p1 0) = 0) (hc_2 : ¬ 0 ≤ (lg_cmp p0 0)) (hc_3 : ¬ 0 ≤ (lg_cmp p1 0)) (hc_4 : 0 ≤ (lg_cmp p0 0)) (hc_5 : ¬ 0 ≤ (lg_cmp p1 0)) (hc_6 : ¬ (lg_cmp (-p0) (2199023255552 / (-p1))) ≤ 0) : Met l yX13_product wsX13_product ({ frames := 0, cells := 0, slots := 0, locals := 0 }) (zPc dC dI sz [.long p0, .long p1] [] []) (va_Ql (fun (r : Int64) (_ : Unit) => r = (-4398046511104)) (zB dC dI (fun _ => []) (fun _ : Unit => []) (va_A [] sz)) (va_A [] sz)) 0 0 (va_A [] sz) := by
  refine Met.ofW (cc := cX13_product) (maxL := 9) (ret := (some .long)) (by decide) rfl ?_
  intro p e s m args below meth c s₁ B hml hv
  obtain ⟨rfl, hsz, hP, hK, hD0⟩ := hv
  have hx := B.exec
  have hb := B.bytes
  have hr := B.returns
  have hts := atoms_spec (ws := wsX13_product) B.pre
  have hown : s.vm.findClass RX13 = some m.cls := findClass_of_methodNamed B.named
  have hlocks := B.notSynchronized
  subst hsz
  have hD := hD0.self (sz := s.heap.size)
  generalize hAe : va_A [] s.heap.size = A at hD ⊢
  have hA : ∀ q : Nat, s.heap.size ≤ q → A q := fun q h => by rw [← hAe]; exact Or.inr h
  have hS : va_S A s.heap s.heap [] := va_S.rf
  have hP : va_P (dC, dI) vwCl [] s.heap := hP
  have hl := lv_entry ([.long p0, .long p1]) (n := 9) (Nat.le_of_ble_eq_true rfl)
  rw [lg_entry_eq]
  generalize (lg_sl ([.long p0, .long p1]) ++ List.replicate (9 - (lg_sl ([.long p0, .long p1])).length) Slot.unset).toArray = ls at hl ⊢
  have hl : lv_has ls 9 [(0, .long p0), (2, .long p1)] := hl
  refine lv_lload_n hx hb dX13_product_0 rfl (lv_at hl 0 rfl) ?_
  refine lv_lconst (v := 0) hx hb dX13_product_1 (by decide) ?_
  refine W.lcmp hx hb dX13_product_2 ?_
  refine lv_if_eq (tgt := 12) hx hb dX13_product_3 (by decide) (fun c_1 => absurd c_1 hc_0) (fun c_1 => ?_)
  refine lv_lload_n hx hb dX13_product_6 rfl (lv_at hl 1 rfl) ?_
  refine lv_lconst (v := 0) hx hb dX13_product_7 (by decide) ?_
  refine W.lcmp hx hb dX13_product_8 ?_
  refine lv_if_ne (tgt := 14) hx hb dX13_product_9 (by decide) (fun c_2 => ?_) (fun c_2 => absurd c_2 hc_1)
  refine lv_lload_n hx hb dX13_product_14 rfl (lv_at hl 0 rfl) ?_
  refine lv_lconst (v := 0) hx hb dX13_product_15 (by decide) ?_
  refine W.lcmp hx hb dX13_product_16 ?_
  refine lv_if_ge (tgt := 25) hx hb dX13_product_17 (by decide) (fun c_3 => absurd c_3 hc_2) (fun c_3 => ?_)
  refine lv_lload_n hx hb dX13_product_20 rfl (lv_at hl 0 rfl) ?_
  refine lv_lneg hx hb dX13_product_21 ?_
  refine lv_goto (tgt := 26) hx hb dX13_product_22 (by decide) ?_
  refine lv_lstore (lv' := [(4, .long (-p0)), (0, .long p0), (2, .long p1)]) hx hb dX13_product_26 hl (by decide) rfl (fun ls hl => ?_)
  refine lv_lload_n hx hb dX13_product_28 rfl (lv_at hl 2 rfl) ?_
  refine lv_lconst (v := 0) hx hb dX13_product_29 (by decide) ?_
  refine W.lcmp hx hb dX13_product_30 ?_
  refine lv_if_ge (tgt := 39) hx hb dX13_product_31 (by decide) (fun c_4 => absurd c_4 hc_3) (fun c_4 => ?_)
  refine lv_lload_n hx hb dX13_product_34 rfl (lv_at hl 2 rfl) ?_
  refine lv_lneg hx hb dX13_product_35 ?_
  refine lv_goto (tgt := 40) hx hb dX13_product_36 (by decide) ?_
  refine lv_lstore (lv' := [(6, .long (-p1)), (4, .long (-p0)), (0, .long p0), (2, .long p1)]) hx hb dX13_product_40 hl (by decide) rfl (fun ls hl => ?_)
  refine lv_lload_n hx hb dX13_product_42 rfl (lv_at hl 2 rfl) ?_
  refine lv_lconst (v := 0) hx hb dX13_product_43 (by decide) ?_
  refine W.lcmp hx hb dX13_product_44 ?_
  refine lv_if_ge (tgt := 52) hx hb dX13_product_45 (by decide) (fun c_5 => ?_) (fun c_5 => absurd hc_4 c_5)
  refine lv_iconst (v := 0) hx hb dX13_product_52 (by decide) ?_
  refine lv_lload_n hx hb dX13_product_53 rfl (lv_at hl 3 rfl) ?_
  refine lv_lconst (v := 0) hx hb dX13_product_54 (by decide) ?_
  refine W.lcmp hx hb dX13_product_55 ?_
  refine lv_if_ge (tgt := 63) hx hb dX13_product_56 (by decide) (fun c_6 => absurd c_6 hc_5) (fun c_6 => ?_)
  refine lv_iconst (v := 1) hx hb dX13_product_59 (by decide) ?_
  refine lv_goto (tgt := 64) hx hb dX13_product_60 (by decide) ?_
  refine lv_icmp_eq (tgt := 71) hx hb dX13_product_64 (by decide) (fun c_7 => absurd c_7 (by decide)) (fun c_7 => ?_)
  refine lv_iconst (v := 1) hx hb dX13_product_67 (by decide) ?_
  refine lv_goto (tgt := 72) hx hb dX13_product_68 (by decide) ?_
  refine lv_istore (lv' := [(8, .int 1), (6, .long (-p1)), (4, .long (-p0)), (0, .long p0), (2, .long p1)]) hx hb dX13_product_72 hl (by decide) rfl (fun ls hl => ?_)
  refine lv_lload hx hb dX13_product_74 (lv_at hl 2 rfl) ?_
  refine lv_ldc2 (v := 2199023255552) hx hb hown (hts (.constantLong RX13 1128 (2199023255552)) (by decide +kernel)) dX13_product_76 ?_
  refine lv_lload hx hb dX13_product_79 (lv_at hl 1 rfl) ?_
  refine lv_ldiv hx hb dX13_product_81 hn_0 ?_
  refine W.lcmp hx hb dX13_product_82 ?_
  refine lv_if_le (tgt := 101) hx hb dX13_product_83 (by decide) (fun c_8 => absurd c_8 hc_6) (fun c_8 => ?_)
  refine lv_iload hx hb dX13_product_86 (lv_at hl 0 rfl) ?_
  refine lv_if_eq (tgt := 97) hx hb dX13_product_88 (by decide) (fun c_9 => absurd c_9 (by decide)) (fun c_9 => ?_)
  refine lv_ldc2 (v := -4398046511104) hx hb hown (hts (.constantLong RX13 1130 (-4398046511104)) (by decide +kernel)) dX13_product_91 ?_
  refine lv_goto (tgt := 100) hx hb dX13_product_94 (by decide) ?_
  have hP9 := hP.sub (ws' := []) [] rfl
  have hD9 := hD.sub (ws' := []) [] (by decide) rfl
  have hK9 := hK.sub (tys' := []) [] rfl
  exact W.lret (v := (-4398046511104)) hx hb hr (fun t ht hW => ⟨⟨(-4398046511104), (), rfl, rfl, (zB_mk (by rw [ht]; exact hP9) (va_K.moved hW.alike hK9) hD9)⟩, hS.F ht⟩) hS.2.2 dX13_product_100
set_option maxHeartbeats 4000000 in
set_option maxRecDepth 100000 in
/-- X13_product, a road -/
theorem c_X13_product_r29 (l : Launch) (dC : Nat → ClassId) (dI : Nat → Nat → Nat) (sz : Nat) (p0 : Int64) (p1 : Int64) (hn_0 : ¬ (-p1) = 0) (hc_0 : ¬ (lg_cmp p0 0) = 0) (hc_1 : ¬ (lg_cmp p1 0) = 0) (hc_2 : ¬ 0 ≤ (lg_cmp p0 0)) (hc_3 : ¬ 0 ≤ (lg_cmp p1 0)) (hc_4 : ¬ 0 ≤ (lg_cmp p0 0)) (hc_5 : 0 ≤ (lg_cmp p1 0)) (hc_6 : (lg_cmp (-p0) (2199023255552 / (-p1))) ≤ 0) : Met l yX13_product wsX13_product ({ frames := 0, cells := 0, slots := 0, locals := 0 }) (zPc dC dI sz [.long p0, .long p1] [] []) (va_Ql (fun (r : Int64) (_ : Unit) => r = (p0 * p1)) (zB dC dI (fun _ => []) (fun _ : Unit => []) (va_A [] sz)) (va_A [] sz)) 0 0 (va_A [] sz) := by
  refine Met.ofW (cc := cX13_product) (maxL := 9) (ret := (some .long)) (by decide) rfl ?_
  intro p e s m args below meth c s₁ B hml hv
  obtain ⟨rfl, hsz, hP, hK, hD0⟩ := hv
  have hx := B.exec
  have hb := B.bytes
  have hr := B.returns
  have hts := atoms_spec (ws := wsX13_product) B.pre
  have hown : s.vm.findClass RX13 = some m.cls := findClass_of_methodNamed B.named
  have hlocks := B.notSynchronized
  subst hsz
  have hD := hD0.self (sz := s.heap.size)
  generalize hAe : va_A [] s.heap.size = A at hD ⊢
  have hA : ∀ q : Nat, s.heap.size ≤ q → A q := fun q h => by rw [← hAe]; exact Or.inr h
  have hS : va_S A s.heap s.heap [] := va_S.rf
  have hP : va_P (dC, dI) vwCl [] s.heap := hP
  have hl := lv_entry ([.long p0, .long p1]) (n := 9) (Nat.le_of_ble_eq_true rfl)
  rw [lg_entry_eq]
  generalize (lg_sl ([.long p0, .long p1]) ++ List.replicate (9 - (lg_sl ([.long p0, .long p1])).length) Slot.unset).toArray = ls at hl ⊢
  have hl : lv_has ls 9 [(0, .long p0), (2, .long p1)] := hl
  refine lv_lload_n hx hb dX13_product_0 rfl (lv_at hl 0 rfl) ?_
  refine lv_lconst (v := 0) hx hb dX13_product_1 (by decide) ?_
  refine W.lcmp hx hb dX13_product_2 ?_
  refine lv_if_eq (tgt := 12) hx hb dX13_product_3 (by decide) (fun c_1 => absurd c_1 hc_0) (fun c_1 => ?_)
  refine lv_lload_n hx hb dX13_product_6 rfl (lv_at hl 1 rfl) ?_
  refine lv_lconst (v := 0) hx hb dX13_product_7 (by decide) ?_
  refine W.lcmp hx hb dX13_product_8 ?_
  refine lv_if_ne (tgt := 14) hx hb dX13_product_9 (by decide) (fun c_2 => ?_) (fun c_2 => absurd c_2 hc_1)
  refine lv_lload_n hx hb dX13_product_14 rfl (lv_at hl 0 rfl) ?_
  refine lv_lconst (v := 0) hx hb dX13_product_15 (by decide) ?_
  refine W.lcmp hx hb dX13_product_16 ?_
  refine lv_if_ge (tgt := 25) hx hb dX13_product_17 (by decide) (fun c_3 => absurd c_3 hc_2) (fun c_3 => ?_)
  refine lv_lload_n hx hb dX13_product_20 rfl (lv_at hl 0 rfl) ?_
  refine lv_lneg hx hb dX13_product_21 ?_
  refine lv_goto (tgt := 26) hx hb dX13_product_22 (by decide) ?_
  refine lv_lstore (lv' := [(4, .long (-p0)), (0, .long p0), (2, .long p1)]) hx hb dX13_product_26 hl (by decide) rfl (fun ls hl => ?_)
  refine lv_lload_n hx hb dX13_product_28 rfl (lv_at hl 2 rfl) ?_
  refine lv_lconst (v := 0) hx hb dX13_product_29 (by decide) ?_
  refine W.lcmp hx hb dX13_product_30 ?_
  refine lv_if_ge (tgt := 39) hx hb dX13_product_31 (by decide) (fun c_4 => absurd c_4 hc_3) (fun c_4 => ?_)
  refine lv_lload_n hx hb dX13_product_34 rfl (lv_at hl 2 rfl) ?_
  refine lv_lneg hx hb dX13_product_35 ?_
  refine lv_goto (tgt := 40) hx hb dX13_product_36 (by decide) ?_
  refine lv_lstore (lv' := [(6, .long (-p1)), (4, .long (-p0)), (0, .long p0), (2, .long p1)]) hx hb dX13_product_40 hl (by decide) rfl (fun ls hl => ?_)
  refine lv_lload_n hx hb dX13_product_42 rfl (lv_at hl 2 rfl) ?_
  refine lv_lconst (v := 0) hx hb dX13_product_43 (by decide) ?_
  refine W.lcmp hx hb dX13_product_44 ?_
  refine lv_if_ge (tgt := 52) hx hb dX13_product_45 (by decide) (fun c_5 => absurd c_5 hc_4) (fun c_5 => ?_)
  refine lv_iconst (v := 1) hx hb dX13_product_48 (by decide) ?_
  refine lv_goto (tgt := 53) hx hb dX13_product_49 (by decide) ?_
  refine lv_lload_n hx hb dX13_product_53 rfl (lv_at hl 3 rfl) ?_
  refine lv_lconst (v := 0) hx hb dX13_product_54 (by decide) ?_
  refine W.lcmp hx hb dX13_product_55 ?_
  refine lv_if_ge (tgt := 63) hx hb dX13_product_56 (by decide) (fun c_6 => ?_) (fun c_6 => absurd hc_5 c_6)
  refine lv_iconst (v := 0) hx hb dX13_product_63 (by decide) ?_
  refine lv_icmp_eq (tgt := 71) hx hb dX13_product_64 (by decide) (fun c_7 => absurd c_7 (by decide)) (fun c_7 => ?_)
  refine lv_iconst (v := 1) hx hb dX13_product_67 (by decide) ?_
  refine lv_goto (tgt := 72) hx hb dX13_product_68 (by decide) ?_
  refine lv_istore (lv' := [(8, .int 1), (6, .long (-p1)), (4, .long (-p0)), (0, .long p0), (2, .long p1)]) hx hb dX13_product_72 hl (by decide) rfl (fun ls hl => ?_)
  refine lv_lload hx hb dX13_product_74 (lv_at hl 2 rfl) ?_
  refine lv_ldc2 (v := 2199023255552) hx hb hown (hts (.constantLong RX13 1128 (2199023255552)) (by decide +kernel)) dX13_product_76 ?_
  refine lv_lload hx hb dX13_product_79 (lv_at hl 1 rfl) ?_
  refine lv_ldiv hx hb dX13_product_81 hn_0 ?_
  refine W.lcmp hx hb dX13_product_82 ?_
  refine lv_if_le (tgt := 101) hx hb dX13_product_83 (by decide) (fun c_8 => ?_) (fun c_8 => absurd hc_6 c_8)
  refine lv_lload_n hx hb dX13_product_101 rfl (lv_at hl 3 rfl) ?_
  refine lv_lload_n hx hb dX13_product_102 rfl (lv_at hl 4 rfl) ?_
  refine lv_lmul hx hb dX13_product_103 ?_
  have hP9 := hP.sub (ws' := []) [] rfl
  have hD9 := hD.sub (ws' := []) [] (by decide) rfl
  have hK9 := hK.sub (tys' := []) [] rfl
  exact W.lret (v := (p0 * p1)) hx hb hr (fun t ht hW => ⟨⟨(p0 * p1), (), rfl, rfl, (zB_mk (by rw [ht]; exact hP9) (va_K.moved hW.alike hK9) hD9)⟩, hS.F ht⟩) hS.2.2 dX13_product_104
set_option maxHeartbeats 4000000 in
set_option maxRecDepth 100000 in
/-- X13_product, a road -/
theorem c_X13_product_r30 (l : Launch) (dC : Nat → ClassId) (dI : Nat → Nat → Nat) (sz : Nat) (p0 : Int64) (p1 : Int64) (hn_0 : ¬ (-p1) = 0) (hc_0 : ¬ (lg_cmp p0 0) = 0) (hc_1 : ¬ (lg_cmp p1 0) = 0) (hc_2 : ¬ 0 ≤ (lg_cmp p0 0)) (hc_3 : ¬ 0 ≤ (lg_cmp p1 0)) (hc_4 : ¬ 0 ≤ (lg_cmp p0 0)) (hc_5 : 0 ≤ (lg_cmp p1 0)) (hc_6 : ¬ (lg_cmp (-p0) (2199023255552 / (-p1))) ≤ 0) : Met l yX13_product wsX13_product ({ frames := 0, cells := 0, slots := 0, locals := 0 }) (zPc dC dI sz [.long p0, .long p1] [] []) (va_Ql (fun (r : Int64) (_ : Unit) => r = (-4398046511104)) (zB dC dI (fun _ => []) (fun _ : Unit => []) (va_A [] sz)) (va_A [] sz)) 0 0 (va_A [] sz) := by
  refine Met.ofW (cc := cX13_product) (maxL := 9) (ret := (some .long)) (by decide) rfl ?_
  intro p e s m args below meth c s₁ B hml hv
  obtain ⟨rfl, hsz, hP, hK, hD0⟩ := hv
  have hx := B.exec
  have hb := B.bytes
  have hr := B.returns
  have hts := atoms_spec (ws := wsX13_product) B.pre
  have hown : s.vm.findClass RX13 = some m.cls := findClass_of_methodNamed B.named
  have hlocks := B.notSynchronized
  subst hsz
  have hD := hD0.self (sz := s.heap.size)
  generalize hAe : va_A [] s.heap.size = A at hD ⊢
  have hA : ∀ q : Nat, s.heap.size ≤ q → A q := fun q h => by rw [← hAe]; exact Or.inr h
  have hS : va_S A s.heap s.heap [] := va_S.rf
  have hP : va_P (dC, dI) vwCl [] s.heap := hP
  have hl := lv_entry ([.long p0, .long p1]) (n := 9) (Nat.le_of_ble_eq_true rfl)
  rw [lg_entry_eq]
  generalize (lg_sl ([.long p0, .long p1]) ++ List.replicate (9 - (lg_sl ([.long p0, .long p1])).length) Slot.unset).toArray = ls at hl ⊢
  have hl : lv_has ls 9 [(0, .long p0), (2, .long p1)] := hl
  refine lv_lload_n hx hb dX13_product_0 rfl (lv_at hl 0 rfl) ?_
  refine lv_lconst (v := 0) hx hb dX13_product_1 (by decide) ?_
  refine W.lcmp hx hb dX13_product_2 ?_
  refine lv_if_eq (tgt := 12) hx hb dX13_product_3 (by decide) (fun c_1 => absurd c_1 hc_0) (fun c_1 => ?_)
  refine lv_lload_n hx hb dX13_product_6 rfl (lv_at hl 1 rfl) ?_
  refine lv_lconst (v := 0) hx hb dX13_product_7 (by decide) ?_
  refine W.lcmp hx hb dX13_product_8 ?_
  refine lv_if_ne (tgt := 14) hx hb dX13_product_9 (by decide) (fun c_2 => ?_) (fun c_2 => absurd c_2 hc_1)
  refine lv_lload_n hx hb dX13_product_14 rfl (lv_at hl 0 rfl) ?_
  refine lv_lconst (v := 0) hx hb dX13_product_15 (by decide) ?_
  refine W.lcmp hx hb dX13_product_16 ?_
  refine lv_if_ge (tgt := 25) hx hb dX13_product_17 (by decide) (fun c_3 => absurd c_3 hc_2) (fun c_3 => ?_)
  refine lv_lload_n hx hb dX13_product_20 rfl (lv_at hl 0 rfl) ?_
  refine lv_lneg hx hb dX13_product_21 ?_
  refine lv_goto (tgt := 26) hx hb dX13_product_22 (by decide) ?_
  refine lv_lstore (lv' := [(4, .long (-p0)), (0, .long p0), (2, .long p1)]) hx hb dX13_product_26 hl (by decide) rfl (fun ls hl => ?_)
  refine lv_lload_n hx hb dX13_product_28 rfl (lv_at hl 2 rfl) ?_
  refine lv_lconst (v := 0) hx hb dX13_product_29 (by decide) ?_
  refine W.lcmp hx hb dX13_product_30 ?_
  refine lv_if_ge (tgt := 39) hx hb dX13_product_31 (by decide) (fun c_4 => absurd c_4 hc_3) (fun c_4 => ?_)
  refine lv_lload_n hx hb dX13_product_34 rfl (lv_at hl 2 rfl) ?_
  refine lv_lneg hx hb dX13_product_35 ?_
  refine lv_goto (tgt := 40) hx hb dX13_product_36 (by decide) ?_
  refine lv_lstore (lv' := [(6, .long (-p1)), (4, .long (-p0)), (0, .long p0), (2, .long p1)]) hx hb dX13_product_40 hl (by decide) rfl (fun ls hl => ?_)
  refine lv_lload_n hx hb dX13_product_42 rfl (lv_at hl 2 rfl) ?_
  refine lv_lconst (v := 0) hx hb dX13_product_43 (by decide) ?_
  refine W.lcmp hx hb dX13_product_44 ?_
  refine lv_if_ge (tgt := 52) hx hb dX13_product_45 (by decide) (fun c_5 => absurd c_5 hc_4) (fun c_5 => ?_)
  refine lv_iconst (v := 1) hx hb dX13_product_48 (by decide) ?_
  refine lv_goto (tgt := 53) hx hb dX13_product_49 (by decide) ?_
  refine lv_lload_n hx hb dX13_product_53 rfl (lv_at hl 3 rfl) ?_
  refine lv_lconst (v := 0) hx hb dX13_product_54 (by decide) ?_
  refine W.lcmp hx hb dX13_product_55 ?_
  refine lv_if_ge (tgt := 63) hx hb dX13_product_56 (by decide) (fun c_6 => ?_) (fun c_6 => absurd hc_5 c_6)
  refine lv_iconst (v := 0) hx hb dX13_product_63 (by decide) ?_
  refine lv_icmp_eq (tgt := 71) hx hb dX13_product_64 (by decide) (fun c_7 => absurd c_7 (by decide)) (fun c_7 => ?_)
  refine lv_iconst (v := 1) hx hb dX13_product_67 (by decide) ?_
  refine lv_goto (tgt := 72) hx hb dX13_product_68 (by decide) ?_
  refine lv_istore (lv' := [(8, .int 1), (6, .long (-p1)), (4, .long (-p0)), (0, .long p0), (2, .long p1)]) hx hb dX13_product_72 hl (by decide) rfl (fun ls hl => ?_)
  refine lv_lload hx hb dX13_product_74 (lv_at hl 2 rfl) ?_
  refine lv_ldc2 (v := 2199023255552) hx hb hown (hts (.constantLong RX13 1128 (2199023255552)) (by decide +kernel)) dX13_product_76 ?_
  refine lv_lload hx hb dX13_product_79 (lv_at hl 1 rfl) ?_
  refine lv_ldiv hx hb dX13_product_81 hn_0 ?_
  refine W.lcmp hx hb dX13_product_82 ?_
  refine lv_if_le (tgt := 101) hx hb dX13_product_83 (by decide) (fun c_8 => absurd c_8 hc_6) (fun c_8 => ?_)
  refine lv_iload hx hb dX13_product_86 (lv_at hl 0 rfl) ?_
  refine lv_if_eq (tgt := 97) hx hb dX13_product_88 (by decide) (fun c_9 => absurd c_9 (by decide)) (fun c_9 => ?_)
  refine lv_ldc2 (v := -4398046511104) hx hb hown (hts (.constantLong RX13 1130 (-4398046511104)) (by decide +kernel)) dX13_product_91 ?_
  refine lv_goto (tgt := 100) hx hb dX13_product_94 (by decide) ?_
  have hP9 := hP.sub (ws' := []) [] rfl
  have hD9 := hD.sub (ws' := []) [] (by decide) rfl
  have hK9 := hK.sub (tys' := []) [] rfl
  exact W.lret (v := (-4398046511104)) hx hb hr (fun t ht hW => ⟨⟨(-4398046511104), (), rfl, rfl, (zB_mk (by rw [ht]; exact hP9) (va_K.moved hW.alike hK9) hD9)⟩, hS.F ht⟩) hS.2.2 dX13_product_100
set_option maxHeartbeats 4000000 in
set_option maxRecDepth 100000 in
/-- X13_product, a road -/
theorem c_X13_product_r31 (l : Launch) (dC : Nat → ClassId) (dI : Nat → Nat → Nat) (sz : Nat) (p0 : Int64) (p1 : Int64) (hn_0 : ¬ (-p1) = 0) (hc_0 : ¬ (lg_cmp p0 0) = 0) (hc_1 : ¬ (lg_cmp p1 0) = 0) (hc_2 : ¬ 0 ≤ (lg_cmp p0 0)) (hc_3 : ¬ 0 ≤ (lg_cmp p1 0)) (hc_4 : ¬ 0 ≤ (lg_cmp p0 0)) (hc_5 : ¬ 0 ≤ (lg_cmp p1 0)) (hc_6 : (lg_cmp (-p0) (2199023255552 / (-p1))) ≤ 0) : Met l yX13_product wsX13_product ({ frames := 0, cells := 0, slots := 0, locals := 0 }) (zPc dC dI sz [.long p0, .long p1] [] []) (va_Ql (fun (r : Int64) (_ : Unit) => r = (p0 * p1)) (zB dC dI (fun _ => []) (fun _ : Unit => []) (va_A [] sz)) (va_A [] sz)) 0 0 (va_A [] sz) := by
  refine Met.ofW (cc := cX13_product) (maxL := 9) (ret := (some .long)) (by decide) rfl ?_
  intro p e s m args below meth c s₁ B hml hv
  obtain ⟨rfl, hsz, hP, hK, hD0⟩ := hv
  have hx := B.exec
  have hb := B.bytes
  have hr := B.returns
  have hts := atoms_spec (ws := wsX13_product) B.pre
  have hown : s.vm.findClass RX13 = some m.cls := findClass_of_methodNamed B.named
  have hlocks := B.notSynchronized
  subst hsz
  have hD := hD0.self (sz := s.heap.size)
  generalize hAe : va_A [] s.heap.size = A at hD ⊢
  have hA : ∀ q : Nat, s.heap.size ≤ q → A q := fun q h => by rw [← hAe]; exact Or.inr h
  have hS : va_S A s.heap s.heap [] := va_S.rf
  have hP : va_P (dC, dI) vwCl [] s.heap := hP
  have hl := lv_entry ([.long p0, .long p1]) (n := 9) (Nat.le_of_ble_eq_true rfl)
  rw [lg_entry_eq]
  generalize (lg_sl ([.long p0, .long p1]) ++ List.replicate (9 - (lg_sl ([.long p0, .long p1])).length) Slot.unset).toArray = ls at hl ⊢
  have hl : lv_has ls 9 [(0, .long p0), (2, .long p1)] := hl
  refine lv_lload_n hx hb dX13_product_0 rfl (lv_at hl 0 rfl) ?_
  refine lv_lconst (v := 0) hx hb dX13_product_1 (by decide) ?_
  refine W.lcmp hx hb dX13_product_2 ?_
  refine lv_if_eq (tgt := 12) hx hb dX13_product_3 (by decide) (fun c_1 => absurd c_1 hc_0) (fun c_1 => ?_)
  refine lv_lload_n hx hb dX13_product_6 rfl (lv_at hl 1 rfl) ?_
  refine lv_lconst (v := 0) hx hb dX13_product_7 (by decide) ?_
  refine W.lcmp hx hb dX13_product_8 ?_
  refine lv_if_ne (tgt := 14) hx hb dX13_product_9 (by decide) (fun c_2 => ?_) (fun c_2 => absurd c_2 hc_1)
  refine lv_lload_n hx hb dX13_product_14 rfl (lv_at hl 0 rfl) ?_
  refine lv_lconst (v := 0) hx hb dX13_product_15 (by decide) ?_
  refine W.lcmp hx hb dX13_product_16 ?_
  refine lv_if_ge (tgt := 25) hx hb dX13_product_17 (by decide) (fun c_3 => absurd c_3 hc_2) (fun c_3 => ?_)
  refine lv_lload_n hx hb dX13_product_20 rfl (lv_at hl 0 rfl) ?_
  refine lv_lneg hx hb dX13_product_21 ?_
  refine lv_goto (tgt := 26) hx hb dX13_product_22 (by decide) ?_
  refine lv_lstore (lv' := [(4, .long (-p0)), (0, .long p0), (2, .long p1)]) hx hb dX13_product_26 hl (by decide) rfl (fun ls hl => ?_)
  refine lv_lload_n hx hb dX13_product_28 rfl (lv_at hl 2 rfl) ?_
  refine lv_lconst (v := 0) hx hb dX13_product_29 (by decide) ?_
  refine W.lcmp hx hb dX13_product_30 ?_
  refine lv_if_ge (tgt := 39) hx hb dX13_product_31 (by decide) (fun c_4 => absurd c_4 hc_3) (fun c_4 => ?_)
  refine lv_lload_n hx hb dX13_product_34 rfl (lv_at hl 2 rfl) ?_
  refine lv_lneg hx hb dX13_product_35 ?_
  refine lv_goto (tgt := 40) hx hb dX13_product_36 (by decide) ?_
  refine lv_lstore (lv' := [(6, .long (-p1)), (4, .long (-p0)), (0, .long p0), (2, .long p1)]) hx hb dX13_product_40 hl (by decide) rfl (fun ls hl => ?_)
  refine lv_lload_n hx hb dX13_product_42 rfl (lv_at hl 2 rfl) ?_
  refine lv_lconst (v := 0) hx hb dX13_product_43 (by decide) ?_
  refine W.lcmp hx hb dX13_product_44 ?_
  refine lv_if_ge (tgt := 52) hx hb dX13_product_45 (by decide) (fun c_5 => absurd c_5 hc_4) (fun c_5 => ?_)
  refine lv_iconst (v := 1) hx hb dX13_product_48 (by decide) ?_
  refine lv_goto (tgt := 53) hx hb dX13_product_49 (by decide) ?_
  refine lv_lload_n hx hb dX13_product_53 rfl (lv_at hl 3 rfl) ?_
  refine lv_lconst (v := 0) hx hb dX13_product_54 (by decide) ?_
  refine W.lcmp hx hb dX13_product_55 ?_
  refine lv_if_ge (tgt := 63) hx hb dX13_product_56 (by decide) (fun c_6 => absurd c_6 hc_5) (fun c_6 => ?_)
  refine lv_iconst (v := 1) hx hb dX13_product_59 (by decide) ?_
  refine lv_goto (tgt := 64) hx hb dX13_product_60 (by decide) ?_
  refine lv_icmp_eq (tgt := 71) hx hb dX13_product_64 (by decide) (fun c_7 => ?_) (fun c_7 => absurd (by decide) c_7)
  refine lv_iconst (v := 0) hx hb dX13_product_71 (by decide) ?_
  refine lv_istore (lv' := [(8, .int 0), (6, .long (-p1)), (4, .long (-p0)), (0, .long p0), (2, .long p1)]) hx hb dX13_product_72 hl (by decide) rfl (fun ls hl => ?_)
  refine lv_lload hx hb dX13_product_74 (lv_at hl 2 rfl) ?_
  refine lv_ldc2 (v := 2199023255552) hx hb hown (hts (.constantLong RX13 1128 (2199023255552)) (by decide +kernel)) dX13_product_76 ?_
  refine lv_lload hx hb dX13_product_79 (lv_at hl 1 rfl) ?_
  refine lv_ldiv hx hb dX13_product_81 hn_0 ?_
  refine W.lcmp hx hb dX13_product_82 ?_
  refine lv_if_le (tgt := 101) hx hb dX13_product_83 (by decide) (fun c_8 => ?_) (fun c_8 => absurd hc_6 c_8)
  refine lv_lload_n hx hb dX13_product_101 rfl (lv_at hl 3 rfl) ?_
  refine lv_lload_n hx hb dX13_product_102 rfl (lv_at hl 4 rfl) ?_
  refine lv_lmul hx hb dX13_product_103 ?_
  have hP9 := hP.sub (ws' := []) [] rfl
  have hD9 := hD.sub (ws' := []) [] (by decide) rfl
  have hK9 := hK.sub (tys' := []) [] rfl
  exact W.lret (v := (p0 * p1)) hx hb hr (fun t ht hW => ⟨⟨(p0 * p1), (), rfl, rfl, (zB_mk (by rw [ht]; exact hP9) (va_K.moved hW.alike hK9) hD9)⟩, hS.F ht⟩) hS.2.2 dX13_product_104
set_option maxHeartbeats 4000000 in
set_option maxRecDepth 100000 in
/-- X13_product, a road -/
theorem c_X13_product_r32 (l : Launch) (dC : Nat → ClassId) (dI : Nat → Nat → Nat) (sz : Nat) (p0 : Int64) (p1 : Int64) (hn_0 : ¬ (-p1) = 0) (hc_0 : ¬ (lg_cmp p0 0) = 0) (hc_1 : ¬ (lg_cmp p1 0) = 0) (hc_2 : ¬ 0 ≤ (lg_cmp p0 0)) (hc_3 : ¬ 0 ≤ (lg_cmp p1 0)) (hc_4 : ¬ 0 ≤ (lg_cmp p0 0)) (hc_5 : ¬ 0 ≤ (lg_cmp p1 0)) (hc_6 : ¬ (lg_cmp (-p0) (2199023255552 / (-p1))) ≤ 0) : Met l yX13_product wsX13_product ({ frames := 0, cells := 0, slots := 0, locals := 0 }) (zPc dC dI sz [.long p0, .long p1] [] []) (va_Ql (fun (r : Int64) (_ : Unit) => r = 4398046511104) (zB dC dI (fun _ => []) (fun _ : Unit => []) (va_A [] sz)) (va_A [] sz)) 0 0 (va_A [] sz) := by
  refine Met.ofW (cc := cX13_product) (maxL := 9) (ret := (some .long)) (by decide) rfl ?_
  intro p e s m args below meth c s₁ B hml hv
  obtain ⟨rfl, hsz, hP, hK, hD0⟩ := hv
  have hx := B.exec
  have hb := B.bytes
  have hr := B.returns
  have hts := atoms_spec (ws := wsX13_product) B.pre
  have hown : s.vm.findClass RX13 = some m.cls := findClass_of_methodNamed B.named
  have hlocks := B.notSynchronized
  subst hsz
  have hD := hD0.self (sz := s.heap.size)
  generalize hAe : va_A [] s.heap.size = A at hD ⊢
  have hA : ∀ q : Nat, s.heap.size ≤ q → A q := fun q h => by rw [← hAe]; exact Or.inr h
  have hS : va_S A s.heap s.heap [] := va_S.rf
  have hP : va_P (dC, dI) vwCl [] s.heap := hP
  have hl := lv_entry ([.long p0, .long p1]) (n := 9) (Nat.le_of_ble_eq_true rfl)
  rw [lg_entry_eq]
  generalize (lg_sl ([.long p0, .long p1]) ++ List.replicate (9 - (lg_sl ([.long p0, .long p1])).length) Slot.unset).toArray = ls at hl ⊢
  have hl : lv_has ls 9 [(0, .long p0), (2, .long p1)] := hl
  refine lv_lload_n hx hb dX13_product_0 rfl (lv_at hl 0 rfl) ?_
  refine lv_lconst (v := 0) hx hb dX13_product_1 (by decide) ?_
  refine W.lcmp hx hb dX13_product_2 ?_
  refine lv_if_eq (tgt := 12) hx hb dX13_product_3 (by decide) (fun c_1 => absurd c_1 hc_0) (fun c_1 => ?_)
  refine lv_lload_n hx hb dX13_product_6 rfl (lv_at hl 1 rfl) ?_
  refine lv_lconst (v := 0) hx hb dX13_product_7 (by decide) ?_
  refine W.lcmp hx hb dX13_product_8 ?_
  refine lv_if_ne (tgt := 14) hx hb dX13_product_9 (by decide) (fun c_2 => ?_) (fun c_2 => absurd c_2 hc_1)
  refine lv_lload_n hx hb dX13_product_14 rfl (lv_at hl 0 rfl) ?_
  refine lv_lconst (v := 0) hx hb dX13_product_15 (by decide) ?_
  refine W.lcmp hx hb dX13_product_16 ?_
  refine lv_if_ge (tgt := 25) hx hb dX13_product_17 (by decide) (fun c_3 => absurd c_3 hc_2) (fun c_3 => ?_)
  refine lv_lload_n hx hb dX13_product_20 rfl (lv_at hl 0 rfl) ?_
  refine lv_lneg hx hb dX13_product_21 ?_
  refine lv_goto (tgt := 26) hx hb dX13_product_22 (by decide) ?_
  refine lv_lstore (lv' := [(4, .long (-p0)), (0, .long p0), (2, .long p1)]) hx hb dX13_product_26 hl (by decide) rfl (fun ls hl => ?_)
  refine lv_lload_n hx hb dX13_product_28 rfl (lv_at hl 2 rfl) ?_
  refine lv_lconst (v := 0) hx hb dX13_product_29 (by decide) ?_
  refine W.lcmp hx hb dX13_product_30 ?_
  refine lv_if_ge (tgt := 39) hx hb dX13_product_31 (by decide) (fun c_4 => absurd c_4 hc_3) (fun c_4 => ?_)
  refine lv_lload_n hx hb dX13_product_34 rfl (lv_at hl 2 rfl) ?_
  refine lv_lneg hx hb dX13_product_35 ?_
  refine lv_goto (tgt := 40) hx hb dX13_product_36 (by decide) ?_
  refine lv_lstore (lv' := [(6, .long (-p1)), (4, .long (-p0)), (0, .long p0), (2, .long p1)]) hx hb dX13_product_40 hl (by decide) rfl (fun ls hl => ?_)
  refine lv_lload_n hx hb dX13_product_42 rfl (lv_at hl 2 rfl) ?_
  refine lv_lconst (v := 0) hx hb dX13_product_43 (by decide) ?_
  refine W.lcmp hx hb dX13_product_44 ?_
  refine lv_if_ge (tgt := 52) hx hb dX13_product_45 (by decide) (fun c_5 => absurd c_5 hc_4) (fun c_5 => ?_)
  refine lv_iconst (v := 1) hx hb dX13_product_48 (by decide) ?_
  refine lv_goto (tgt := 53) hx hb dX13_product_49 (by decide) ?_
  refine lv_lload_n hx hb dX13_product_53 rfl (lv_at hl 3 rfl) ?_
  refine lv_lconst (v := 0) hx hb dX13_product_54 (by decide) ?_
  refine W.lcmp hx hb dX13_product_55 ?_
  refine lv_if_ge (tgt := 63) hx hb dX13_product_56 (by decide) (fun c_6 => absurd c_6 hc_5) (fun c_6 => ?_)
  refine lv_iconst (v := 1) hx hb dX13_product_59 (by decide) ?_
  refine lv_goto (tgt := 64) hx hb dX13_product_60 (by decide) ?_
  refine lv_icmp_eq (tgt := 71) hx hb dX13_product_64 (by decide) (fun c_7 => ?_) (fun c_7 => absurd (by decide) c_7)
  refine lv_iconst (v := 0) hx hb dX13_product_71 (by decide) ?_
  refine lv_istore (lv' := [(8, .int 0), (6, .long (-p1)), (4, .long (-p0)), (0, .long p0), (2, .long p1)]) hx hb dX13_product_72 hl (by decide) rfl (fun ls hl => ?_)
  refine lv_lload hx hb dX13_product_74 (lv_at hl 2 rfl) ?_
  refine lv_ldc2 (v := 2199023255552) hx hb hown (hts (.constantLong RX13 1128 (2199023255552)) (by decide +kernel)) dX13_product_76 ?_
  refine lv_lload hx hb dX13_product_79 (lv_at hl 1 rfl) ?_
  refine lv_ldiv hx hb dX13_product_81 hn_0 ?_
  refine W.lcmp hx hb dX13_product_82 ?_
  refine lv_if_le (tgt := 101) hx hb dX13_product_83 (by decide) (fun c_8 => absurd c_8 hc_6) (fun c_8 => ?_)
  refine lv_iload hx hb dX13_product_86 (lv_at hl 0 rfl) ?_
  refine lv_if_eq (tgt := 97) hx hb dX13_product_88 (by decide) (fun c_9 => ?_) (fun c_9 => absurd (by decide) c_9)
  refine lv_ldc2 (v := 4398046511104) hx hb hown (hts (.constantLong RX13 1132 (4398046511104)) (by decide +kernel)) dX13_product_97 ?_
  have hP9 := hP.sub (ws' := []) [] rfl
  have hD9 := hD.sub (ws' := []) [] (by decide) rfl
  have hK9 := hK.sub (tys' := []) [] rfl
  exact W.lret (v := 4398046511104) hx hb hr (fun t ht hW => ⟨⟨4398046511104, (), rfl, rfl, (zB_mk (by rw [ht]; exact hP9) (va_K.moved hW.alike hK9) hD9)⟩, hS.F ht⟩) hS.2.2 dX13_product_100
set_option maxHeartbeats 4000000 in
set_option maxRecDepth 100000 in
/-- X13_product, a road -/
theorem c_X13_product_r33 (l : Launch) (dC : Nat → ClassId) (dI : Nat → Nat → Nat) (sz : Nat) (p0 : Int64) (p1 : Int64) (hc_0 : ¬ (lg_cmp p0 0) = 0) (hc_1 : (lg_cmp p1 0) = 0) : Met l yX13_product wsX13_product ({ frames := 0, cells := 0, slots := 0, locals := 0 }) (zPc dC dI sz [.long p0, .long p1] [] []) (va_Ql (fun (r : Int64) (_ : Unit) => r = 0) (zB dC dI (fun _ => []) (fun _ : Unit => []) (va_A [] sz)) (va_A [] sz)) 0 0 (va_A [] sz) := by
  refine Met.ofW (cc := cX13_product) (maxL := 9) (ret := (some .long)) (by decide) rfl ?_
  intro p e s m args below meth c s₁ B hml hv
  obtain ⟨rfl, hsz, hP, hK, hD0⟩ := hv
  have hx := B.exec
  have hb := B.bytes
  have hr := B.returns
  have hts := atoms_spec (ws := wsX13_product) B.pre
  have hown : s.vm.findClass RX13 = some m.cls := findClass_of_methodNamed B.named
  have hlocks := B.notSynchronized
  subst hsz
  have hD := hD0.self (sz := s.heap.size)
  generalize hAe : va_A [] s.heap.size = A at hD ⊢
  have hA : ∀ q : Nat, s.heap.size ≤ q → A q := fun q h => by rw [← hAe]; exact Or.inr h
  have hS : va_S A s.heap s.heap [] := va_S.rf
  have hP : va_P (dC, dI) vwCl [] s.heap := hP
  have hl := lv_entry ([.long p0, .long p1]) (n := 9) (Nat.le_of_ble_eq_true rfl)
  rw [lg_entry_eq]
  generalize (lg_sl ([.long p0, .long p1]) ++ List.replicate (9 - (lg_sl ([.long p0, .long p1])).length) Slot.unset).toArray = ls at hl ⊢
  have hl : lv_has ls 9 [(0, .long p0), (2, .long p1)] := hl
  refine lv_lload_n hx hb dX13_product_0 rfl (lv_at hl 0 rfl) ?_
  refine lv_lconst (v := 0) hx hb dX13_product_1 (by decide) ?_
  refine W.lcmp hx hb dX13_product_2 ?_
  refine lv_if_eq (tgt := 12) hx hb dX13_product_3 (by decide) (fun c_1 => absurd c_1 hc_0) (fun c_1 => ?_)
  refine lv_lload_n hx hb dX13_product_6 rfl (lv_at hl 1 rfl) ?_
  refine lv_lconst (v := 0) hx hb dX13_product_7 (by decide) ?_
  refine W.lcmp hx hb dX13_product_8 ?_
  refine lv_if_ne (tgt := 14) hx hb dX13_product_9 (by decide) (fun c_2 => absurd hc_1 c_2) (fun c_2 => ?_)
  refine lv_lconst (v := 0) hx hb dX13_product_12 (by decide) ?_
  have hP9 := hP.sub (ws' := []) [] rfl
  have hD9 := hD.sub (ws' := []) [] (by decide) rfl
  have hK9 := hK.sub (tys' := []) [] rfl
  exact W.lret (v := 0) hx hb hr (fun t ht hW => ⟨⟨0, (), rfl, rfl, (zB_mk (by rw [ht]; exact hP9) (va_K.moved hW.alike hK9) hD9)⟩, hS.F ht⟩) hS.2.2 dX13_product_13
theorem iw_X13_rich_X13 : ∀ w ∈ wsX130, w ∈ wsX13_rich := fun w h => List.mem_cons_of_mem _ (List.mem_append_right _ h)
set_option maxHeartbeats 4000000 in
set_option maxRecDepth 100000 in
/-- X13_rich, a road -/
theorem c_X13_rich_r0 (l : Launch) (dC : Nat → ClassId) (dI : Nat → Nat → Nat) (sz : Nat) (h0 : Nat) (fs0 : List Value) (p0 : Int32) (p1 : Int32) (p2 : Int32) (p3 : Int32) (p4 : Int32) (v0_70 : Nat) (v0_75 : Int32) (c_v0_70 : ClassId) (f_v0_70 : Nat → Int32) (v0_71 : Nat) (c_v0_71 : ClassId) (f_v0_71 : Nat → Int32) (v0_72 : Nat) (c_v0_72 : ClassId) (f_v0_72 : Nat → Int32) (v0_73 : Nat) (c_v0_73 : ClassId) (f_v0_73 : Nat → Int32) (v0_74 : Nat) (c_v0_74 : ClassId) (f_v0_74 : Nat → Int32) (hl0 : fs0.length = 196) (hf0_70 : fs0[70]? = some (.ref v0_70)) (hf0_75 : fs0[75]? = some (.int v0_75)) (hf0_71 : fs0[71]? = some (.ref v0_71)) (hf0_72 : fs0[72]? = some (.ref v0_72)) (hf0_73 : fs0[73]? = some (.ref v0_73)) (hf0_74 : fs0[74]? = some (.ref v0_74)) (hi_0 : vp_in v0_75 40000) (hi_1 : vp_in v0_75 40000) (hi_2 : vp_in v0_75 40000) (hi_3 : vp_in v0_75 40000) (hi_4 : vp_in v0_75 40000) : Met l yX13_rich wsX13_rich ({ frames := 0, cells := 0, slots := 0, locals := 0 }) (zPc dC dI sz [.ref h0, .int p0, .int p1, .int p2, .int p3, .int p4] [(h0, .inr (15, fs0)), (v0_70, .inl (c_v0_70, 40000, .inl f_v0_70)), (v0_71, .inl (c_v0_71, 40000, .inl f_v0_71)), (v0_72, .inl (c_v0_72, 40000, .inl f_v0_72)), (v0_73, .inl (c_v0_73, 40000, .inl f_v0_73)), (v0_74, .inl (c_v0_74, 40000, .inl f_v0_74))] [(c_v0_70, .int), (c_v0_71, .int), (c_v0_72, .int), (c_v0_73, .int), (c_v0_74, .int)]) (va_Qi (fun (r : Int32) (_ : Unit) => r = ((v0_75 + 1) - 1)) (zB dC dI (fun _ => [(c_v0_70, .int), (c_v0_71, .int), (c_v0_72, .int), (c_v0_73, .int), (c_v0_74, .int)]) (fun _ : Unit => [(h0, .inr (15, (fs0.set 75 (.int (v0_75 + 1))))), (v0_70, .inl (c_v0_70, 40000, .inl (upd f_v0_70 (v0_75).toNatClampNeg p0))), (v0_71, .inl (c_v0_71, 40000, .inl (upd f_v0_71 (v0_75).toNatClampNeg p1))), (v0_72, .inl (c_v0_72, 40000, .inl (upd f_v0_72 (v0_75).toNatClampNeg p2))), (v0_73, .inl (c_v0_73, 40000, .inl (upd f_v0_73 (v0_75).toNatClampNeg p3))), (v0_74, .inl (c_v0_74, 40000, .inl (upd f_v0_74 (v0_75).toNatClampNeg p4)))]) (va_A [(h0, .inr (15, fs0)), (v0_70, .inl (c_v0_70, 40000, .inl f_v0_70)), (v0_71, .inl (c_v0_71, 40000, .inl f_v0_71)), (v0_72, .inl (c_v0_72, 40000, .inl f_v0_72)), (v0_73, .inl (c_v0_73, 40000, .inl f_v0_73)), (v0_74, .inl (c_v0_74, 40000, .inl f_v0_74))] sz)) (va_A [(h0, .inr (15, fs0)), (v0_70, .inl (c_v0_70, 40000, .inl f_v0_70)), (v0_71, .inl (c_v0_71, 40000, .inl f_v0_71)), (v0_72, .inl (c_v0_72, 40000, .inl f_v0_72)), (v0_73, .inl (c_v0_73, 40000, .inl f_v0_73)), (v0_74, .inl (c_v0_74, 40000, .inl f_v0_74))] sz)) 0 0 (va_A [(h0, .inr (15, fs0)), (v0_70, .inl (c_v0_70, 40000, .inl f_v0_70)), (v0_71, .inl (c_v0_71, 40000, .inl f_v0_71)), (v0_72, .inl (c_v0_72, 40000, .inl f_v0_72)), (v0_73, .inl (c_v0_73, 40000, .inl f_v0_73)), (v0_74, .inl (c_v0_74, 40000, .inl f_v0_74))] sz) := by
  refine Met.ofW (cc := cX13_rich) (maxL := 6) (ret := (some .int)) (by decide) rfl ?_
  intro p e s m args below meth c s₁ B hml hv
  obtain ⟨rfl, hsz, hP, hK, hD0⟩ := hv
  have hx := B.exec
  have hb := B.bytes
  have hr := B.returns
  have hts := atoms_spec (ws := wsX13_rich) B.pre
  have hown : s.vm.findClass RX13 = some m.cls := findClass_of_methodNamed B.named
  have hlocks := B.notSynchronized
  subst hsz
  have hD := hD0.self (sz := s.heap.size)
  generalize hAe : va_A [(h0, .inr (15, fs0)), (v0_70, .inl (c_v0_70, 40000, .inl f_v0_70)), (v0_71, .inl (c_v0_71, 40000, .inl f_v0_71)), (v0_72, .inl (c_v0_72, 40000, .inl f_v0_72)), (v0_73, .inl (c_v0_73, 40000, .inl f_v0_73)), (v0_74, .inl (c_v0_74, 40000, .inl f_v0_74))] s.heap.size = A at hD ⊢
  have hA : ∀ q : Nat, s.heap.size ≤ q → A q := fun q h => by rw [← hAe]; exact Or.inr h
  have hS : va_S A s.heap s.heap [] := va_S.rf
  have hP : va_P (dC, dI) vwCl [(h0, .inr (15, fs0)), (v0_70, .inl (c_v0_70, 40000, .inl f_v0_70)), (v0_71, .inl (c_v0_71, 40000, .inl f_v0_71)), (v0_72, .inl (c_v0_72, 40000, .inl f_v0_72)), (v0_73, .inl (c_v0_73, 40000, .inl f_v0_73)), (v0_74, .inl (c_v0_74, 40000, .inl f_v0_74))] s.heap := hP
  have hl := lv_entry ([.ref h0, .int p0, .int p1, .int p2, .int p3, .int p4]) (n := 6) (Nat.le_of_ble_eq_true rfl)
  rw [lg_entry_eq]
  generalize (lg_sl ([.ref h0, .int p0, .int p1, .int p2, .int p3, .int p4]) ++ List.replicate (6 - (lg_sl ([.ref h0, .int p0, .int p1, .int p2, .int p3, .int p4])).length) Slot.unset).toArray = ls at hl ⊢
  have hl : lv_has ls 6 [(0, .ref h0), (1, .int p0), (2, .int p1), (3, .int p2), (4, .int p3), (5, .int p4)] := hl
  refine lv_aload_n hx hb dX13_rich_0 rfl (lv_at hl 0 rfl) ?_
  refine va_get (D := (dC, dI)) (ci := 15) (v := .ref v0_70) (C := RX13) (T := TX13) (N := 196) hx hb hts iw_X13_rich_X13 hown hK hP 0 rfl rfl 70 (by decide) (hts (.fieldLink RX13 142 "LiquidTongueModel" "rKind" "[I") (by decide +kernel)) (fun _ h9 => h9) hf0_70 dX13_rich_1 ?_
  refine lv_aload_n hx hb dX13_rich_4 rfl (lv_at hl 0 rfl) ?_
  refine va_get (D := (dC, dI)) (ci := 15) (v := .int v0_75) (C := RX13) (T := TX13) (N := 196) hx hb hts iw_X13_rich_X13 hown hK hP 0 rfl rfl 75 (by decide) (hts (.fieldLink RX13 769 "LiquidTongueModel" "rich" "I") (by decide +kernel)) (fun _ h9 => h9) hf0_75 dX13_rich_5 ?_
  refine lv_iload_n hx hb dX13_rich_8 rfl (lv_at hl 1 rfl) ?_
  refine va_iast hx hb hK hP hD hS 1 0 rfl rfl hi_0 dX13_rich_9 (fun H locs hP hD hS => ?_)
  have hP : va_P (dC, dI) vwCl [(h0, .inr (15, fs0)), (v0_70, .inl (c_v0_70, 40000, .inl (upd f_v0_70 (v0_75).toNatClampNeg p0))), (v0_71, .inl (c_v0_71, 40000, .inl f_v0_71)), (v0_72, .inl (c_v0_72, 40000, .inl f_v0_72)), (v0_73, .inl (c_v0_73, 40000, .inl f_v0_73)), (v0_74, .inl (c_v0_74, 40000, .inl f_v0_74))] H := hP
  have hD : va_D A [(h0, .inr (15, fs0)), (v0_70, .inl (c_v0_70, 40000, .inl (upd f_v0_70 (v0_75).toNatClampNeg p0))), (v0_71, .inl (c_v0_71, 40000, .inl f_v0_71)), (v0_72, .inl (c_v0_72, 40000, .inl f_v0_72)), (v0_73, .inl (c_v0_73, 40000, .inl f_v0_73)), (v0_74, .inl (c_v0_74, 40000, .inl f_v0_74))] := hD
  refine lv_aload_n hx hb dX13_rich_10 rfl (lv_at hl 0 rfl) ?_
  refine va_get (D := (dC, dI)) (ci := 15) (v := .ref v0_71) (C := RX13) (T := TX13) (N := 196) hx hb hts iw_X13_rich_X13 hown hK hP 0 rfl rfl 71 (by decide) (hts (.fieldLink RX13 145 "LiquidTongueModel" "rSaid" "[I") (by decide +kernel)) (fun _ h9 => h9) hf0_71 dX13_rich_11 ?_
  refine lv_aload_n hx hb dX13_rich_14 rfl (lv_at hl 0 rfl) ?_
  refine va_get (D := (dC, dI)) (ci := 15) (v := .int v0_75) (C := RX13) (T := TX13) (N := 196) hx hb hts iw_X13_rich_X13 hown hK hP 0 rfl rfl 75 (by decide) (hts (.fieldLink RX13 769 "LiquidTongueModel" "rich" "I") (by decide +kernel)) (fun _ h9 => h9) hf0_75 dX13_rich_15 ?_
  refine lv_iload_n hx hb dX13_rich_18 rfl (lv_at hl 2 rfl) ?_
  refine va_iast hx hb hK hP hD hS 2 1 rfl rfl hi_1 dX13_rich_19 (fun H locs hP hD hS => ?_)
  have hP : va_P (dC, dI) vwCl [(h0, .inr (15, fs0)), (v0_70, .inl (c_v0_70, 40000, .inl (upd f_v0_70 (v0_75).toNatClampNeg p0))), (v0_71, .inl (c_v0_71, 40000, .inl (upd f_v0_71 (v0_75).toNatClampNeg p1))), (v0_72, .inl (c_v0_72, 40000, .inl f_v0_72)), (v0_73, .inl (c_v0_73, 40000, .inl f_v0_73)), (v0_74, .inl (c_v0_74, 40000, .inl f_v0_74))] H := hP
  have hD : va_D A [(h0, .inr (15, fs0)), (v0_70, .inl (c_v0_70, 40000, .inl (upd f_v0_70 (v0_75).toNatClampNeg p0))), (v0_71, .inl (c_v0_71, 40000, .inl (upd f_v0_71 (v0_75).toNatClampNeg p1))), (v0_72, .inl (c_v0_72, 40000, .inl f_v0_72)), (v0_73, .inl (c_v0_73, 40000, .inl f_v0_73)), (v0_74, .inl (c_v0_74, 40000, .inl f_v0_74))] := hD
  refine lv_aload_n hx hb dX13_rich_20 rfl (lv_at hl 0 rfl) ?_
  refine va_get (D := (dC, dI)) (ci := 15) (v := .ref v0_72) (C := RX13) (T := TX13) (N := 196) hx hb hts iw_X13_rich_X13 hown hK hP 0 rfl rfl 72 (by decide) (hts (.fieldLink RX13 148 "LiquidTongueModel" "rName" "[I") (by decide +kernel)) (fun _ h9 => h9) hf0_72 dX13_rich_21 ?_
  refine lv_aload_n hx hb dX13_rich_24 rfl (lv_at hl 0 rfl) ?_
  refine va_get (D := (dC, dI)) (ci := 15) (v := .int v0_75) (C := RX13) (T := TX13) (N := 196) hx hb hts iw_X13_rich_X13 hown hK hP 0 rfl rfl 75 (by decide) (hts (.fieldLink RX13 769 "LiquidTongueModel" "rich" "I") (by decide +kernel)) (fun _ h9 => h9) hf0_75 dX13_rich_25 ?_
  refine lv_iload_n hx hb dX13_rich_28 rfl (lv_at hl 3 rfl) ?_
  refine va_iast hx hb hK hP hD hS 3 2 rfl rfl hi_2 dX13_rich_29 (fun H locs hP hD hS => ?_)
  have hP : va_P (dC, dI) vwCl [(h0, .inr (15, fs0)), (v0_70, .inl (c_v0_70, 40000, .inl (upd f_v0_70 (v0_75).toNatClampNeg p0))), (v0_71, .inl (c_v0_71, 40000, .inl (upd f_v0_71 (v0_75).toNatClampNeg p1))), (v0_72, .inl (c_v0_72, 40000, .inl (upd f_v0_72 (v0_75).toNatClampNeg p2))), (v0_73, .inl (c_v0_73, 40000, .inl f_v0_73)), (v0_74, .inl (c_v0_74, 40000, .inl f_v0_74))] H := hP
  have hD : va_D A [(h0, .inr (15, fs0)), (v0_70, .inl (c_v0_70, 40000, .inl (upd f_v0_70 (v0_75).toNatClampNeg p0))), (v0_71, .inl (c_v0_71, 40000, .inl (upd f_v0_71 (v0_75).toNatClampNeg p1))), (v0_72, .inl (c_v0_72, 40000, .inl (upd f_v0_72 (v0_75).toNatClampNeg p2))), (v0_73, .inl (c_v0_73, 40000, .inl f_v0_73)), (v0_74, .inl (c_v0_74, 40000, .inl f_v0_74))] := hD
  refine lv_aload_n hx hb dX13_rich_30 rfl (lv_at hl 0 rfl) ?_
  refine va_get (D := (dC, dI)) (ci := 15) (v := .ref v0_73) (C := RX13) (T := TX13) (N := 196) hx hb hts iw_X13_rich_X13 hown hK hP 0 rfl rfl 73 (by decide) (hts (.fieldLink RX13 151 "LiquidTongueModel" "rLeft" "[I") (by decide +kernel)) (fun _ h9 => h9) hf0_73 dX13_rich_31 ?_
  refine lv_aload_n hx hb dX13_rich_34 rfl (lv_at hl 0 rfl) ?_
  refine va_get (D := (dC, dI)) (ci := 15) (v := .int v0_75) (C := RX13) (T := TX13) (N := 196) hx hb hts iw_X13_rich_X13 hown hK hP 0 rfl rfl 75 (by decide) (hts (.fieldLink RX13 769 "LiquidTongueModel" "rich" "I") (by decide +kernel)) (fun _ h9 => h9) hf0_75 dX13_rich_35 ?_
  refine lv_iload hx hb dX13_rich_38 (lv_at hl 4 rfl) ?_
  refine va_iast hx hb hK hP hD hS 4 3 rfl rfl hi_3 dX13_rich_40 (fun H locs hP hD hS => ?_)
  have hP : va_P (dC, dI) vwCl [(h0, .inr (15, fs0)), (v0_70, .inl (c_v0_70, 40000, .inl (upd f_v0_70 (v0_75).toNatClampNeg p0))), (v0_71, .inl (c_v0_71, 40000, .inl (upd f_v0_71 (v0_75).toNatClampNeg p1))), (v0_72, .inl (c_v0_72, 40000, .inl (upd f_v0_72 (v0_75).toNatClampNeg p2))), (v0_73, .inl (c_v0_73, 40000, .inl (upd f_v0_73 (v0_75).toNatClampNeg p3))), (v0_74, .inl (c_v0_74, 40000, .inl f_v0_74))] H := hP
  have hD : va_D A [(h0, .inr (15, fs0)), (v0_70, .inl (c_v0_70, 40000, .inl (upd f_v0_70 (v0_75).toNatClampNeg p0))), (v0_71, .inl (c_v0_71, 40000, .inl (upd f_v0_71 (v0_75).toNatClampNeg p1))), (v0_72, .inl (c_v0_72, 40000, .inl (upd f_v0_72 (v0_75).toNatClampNeg p2))), (v0_73, .inl (c_v0_73, 40000, .inl (upd f_v0_73 (v0_75).toNatClampNeg p3))), (v0_74, .inl (c_v0_74, 40000, .inl f_v0_74))] := hD
  refine lv_aload_n hx hb dX13_rich_41 rfl (lv_at hl 0 rfl) ?_
  refine va_get (D := (dC, dI)) (ci := 15) (v := .ref v0_74) (C := RX13) (T := TX13) (N := 196) hx hb hts iw_X13_rich_X13 hown hK hP 0 rfl rfl 74 (by decide) (hts (.fieldLink RX13 154 "LiquidTongueModel" "rRight" "[I") (by decide +kernel)) (fun _ h9 => h9) hf0_74 dX13_rich_42 ?_
  refine lv_aload_n hx hb dX13_rich_45 rfl (lv_at hl 0 rfl) ?_
  refine va_get (D := (dC, dI)) (ci := 15) (v := .int v0_75) (C := RX13) (T := TX13) (N := 196) hx hb hts iw_X13_rich_X13 hown hK hP 0 rfl rfl 75 (by decide) (hts (.fieldLink RX13 769 "LiquidTongueModel" "rich" "I") (by decide +kernel)) (fun _ h9 => h9) hf0_75 dX13_rich_46 ?_
  refine lv_iload hx hb dX13_rich_49 (lv_at hl 5 rfl) ?_
  refine va_iast hx hb hK hP hD hS 5 4 rfl rfl hi_4 dX13_rich_51 (fun H locs hP hD hS => ?_)
  have hP : va_P (dC, dI) vwCl [(h0, .inr (15, fs0)), (v0_70, .inl (c_v0_70, 40000, .inl (upd f_v0_70 (v0_75).toNatClampNeg p0))), (v0_71, .inl (c_v0_71, 40000, .inl (upd f_v0_71 (v0_75).toNatClampNeg p1))), (v0_72, .inl (c_v0_72, 40000, .inl (upd f_v0_72 (v0_75).toNatClampNeg p2))), (v0_73, .inl (c_v0_73, 40000, .inl (upd f_v0_73 (v0_75).toNatClampNeg p3))), (v0_74, .inl (c_v0_74, 40000, .inl (upd f_v0_74 (v0_75).toNatClampNeg p4)))] H := hP
  have hD : va_D A [(h0, .inr (15, fs0)), (v0_70, .inl (c_v0_70, 40000, .inl (upd f_v0_70 (v0_75).toNatClampNeg p0))), (v0_71, .inl (c_v0_71, 40000, .inl (upd f_v0_71 (v0_75).toNatClampNeg p1))), (v0_72, .inl (c_v0_72, 40000, .inl (upd f_v0_72 (v0_75).toNatClampNeg p2))), (v0_73, .inl (c_v0_73, 40000, .inl (upd f_v0_73 (v0_75).toNatClampNeg p3))), (v0_74, .inl (c_v0_74, 40000, .inl (upd f_v0_74 (v0_75).toNatClampNeg p4)))] := hD
  refine lv_aload_n hx hb dX13_rich_52 rfl (lv_at hl 0 rfl) ?_
  refine lv_dup hx hb dX13_rich_53 rfl ?_
  refine va_get (D := (dC, dI)) (ci := 15) (v := .int v0_75) (C := RX13) (T := TX13) (N := 196) hx hb hts iw_X13_rich_X13 hown hK hP 0 rfl rfl 75 (by decide) (hts (.fieldLink RX13 769 "LiquidTongueModel" "rich" "I") (by decide +kernel)) (fun _ h9 => h9) hf0_75 dX13_rich_54 ?_
  refine lv_iconst (v := 1) hx hb dX13_rich_57 (by decide) ?_
  refine lv_iadd hx hb dX13_rich_58 ?_
  refine va_put (D := (dC, dI)) (ci := 15) (v := .int (v0_75 + 1)) (ty := .int) (C := RX13) (T := TX13) (N := 196) hx hb hts iw_X13_rich_X13 tyX13 tyX13_ok nmX13 hown hK hP hD hS 0 rfl rfl 75 (by decide) (hts (.fieldLink RX13 769 "LiquidTongueModel" "rich" "I") (by decide +kernel)) (fun _ h9 => h9) rfl (by decide +kernel) rfl rfl (zs_lt hl0 (by decide)) dX13_rich_59 (fun H locs hP hD hS => ?_)
  have hP : va_P (dC, dI) vwCl [(h0, .inr (15, (fs0.set 75 (.int (v0_75 + 1))))), (v0_70, .inl (c_v0_70, 40000, .inl (upd f_v0_70 (v0_75).toNatClampNeg p0))), (v0_71, .inl (c_v0_71, 40000, .inl (upd f_v0_71 (v0_75).toNatClampNeg p1))), (v0_72, .inl (c_v0_72, 40000, .inl (upd f_v0_72 (v0_75).toNatClampNeg p2))), (v0_73, .inl (c_v0_73, 40000, .inl (upd f_v0_73 (v0_75).toNatClampNeg p3))), (v0_74, .inl (c_v0_74, 40000, .inl (upd f_v0_74 (v0_75).toNatClampNeg p4)))] H := hP
  have hD : va_D A [(h0, .inr (15, (fs0.set 75 (.int (v0_75 + 1))))), (v0_70, .inl (c_v0_70, 40000, .inl (upd f_v0_70 (v0_75).toNatClampNeg p0))), (v0_71, .inl (c_v0_71, 40000, .inl (upd f_v0_71 (v0_75).toNatClampNeg p1))), (v0_72, .inl (c_v0_72, 40000, .inl (upd f_v0_72 (v0_75).toNatClampNeg p2))), (v0_73, .inl (c_v0_73, 40000, .inl (upd f_v0_73 (v0_75).toNatClampNeg p3))), (v0_74, .inl (c_v0_74, 40000, .inl (upd f_v0_74 (v0_75).toNatClampNeg p4)))] := hD
  refine lv_aload_n hx hb dX13_rich_62 rfl (lv_at hl 0 rfl) ?_
  refine va_get (D := (dC, dI)) (ci := 15) (v := .int (v0_75 + 1)) (C := RX13) (T := TX13) (N := 196) hx hb hts iw_X13_rich_X13 hown hK hP 0 rfl rfl 75 (by decide) (hts (.fieldLink RX13 769 "LiquidTongueModel" "rich" "I") (by decide +kernel)) (fun _ h9 => h9) (zs_eq (zs_lt hl0 (by decide))) dX13_rich_63 ?_
  refine lv_iconst (v := 1) hx hb dX13_rich_66 (by decide) ?_
  refine lv_isub hx hb dX13_rich_67 ?_
  have hP9 := hP.sub (ws' := [(h0, .inr (15, (fs0.set 75 (.int (v0_75 + 1))))), (v0_70, .inl (c_v0_70, 40000, .inl (upd f_v0_70 (v0_75).toNatClampNeg p0))), (v0_71, .inl (c_v0_71, 40000, .inl (upd f_v0_71 (v0_75).toNatClampNeg p1))), (v0_72, .inl (c_v0_72, 40000, .inl (upd f_v0_72 (v0_75).toNatClampNeg p2))), (v0_73, .inl (c_v0_73, 40000, .inl (upd f_v0_73 (v0_75).toNatClampNeg p3))), (v0_74, .inl (c_v0_74, 40000, .inl (upd f_v0_74 (v0_75).toNatClampNeg p4)))]) [0, 1, 2, 3, 4, 5] rfl
  have hD9 := hD.sub (ws' := [(h0, .inr (15, (fs0.set 75 (.int (v0_75 + 1))))), (v0_70, .inl (c_v0_70, 40000, .inl (upd f_v0_70 (v0_75).toNatClampNeg p0))), (v0_71, .inl (c_v0_71, 40000, .inl (upd f_v0_71 (v0_75).toNatClampNeg p1))), (v0_72, .inl (c_v0_72, 40000, .inl (upd f_v0_72 (v0_75).toNatClampNeg p2))), (v0_73, .inl (c_v0_73, 40000, .inl (upd f_v0_73 (v0_75).toNatClampNeg p3))), (v0_74, .inl (c_v0_74, 40000, .inl (upd f_v0_74 (v0_75).toNatClampNeg p4)))]) [0, 1, 2, 3, 4, 5] (by decide) rfl
  have hK9 := hK.sub (tys' := [(c_v0_70, .int), (c_v0_71, .int), (c_v0_72, .int), (c_v0_73, .int), (c_v0_74, .int)]) [0, 1, 2, 3, 4] rfl
  exact W.iret (v := ((v0_75 + 1) - 1)) hx hb hr (fun t ht hW => ⟨⟨((v0_75 + 1) - 1), (), rfl, rfl, (zB_mk (by rw [ht]; exact hP9) (va_K.moved hW.alike hK9) hD9)⟩, hS.F ht⟩) hS.2.2 dX13_rich_68
theorem iw_X13_said_X13 : ∀ w ∈ wsX130, w ∈ wsX13_said := fun w h => List.mem_cons_of_mem _ (List.mem_append_right _ h)
set_option maxHeartbeats 4000000 in
set_option maxRecDepth 100000 in
/-- X13_said, a road -/
theorem c_X13_said_r0 (l : Launch) (dC : Nat → ClassId) (dI : Nat → Nat → Nat) (sz : Nat) (h0 : Nat) (fs0 : List Value) (p0 : Int32) (p1 : Int32) (p2 : Int32) (v0_76 : Nat) (v0_79 : Int32) (c_v0_76 : ClassId) (f_v0_76 : Nat → Int32) (v0_77 : Nat) (c_v0_77 : ClassId) (f_v0_77 : Nat → Int32) (v0_78 : Nat) (c_v0_78 : ClassId) (f_v0_78 : Nat → Int32) (hl0 : fs0.length = 196) (hf0_76 : fs0[76]? = some (.ref v0_76)) (hf0_79 : fs0[79]? = some (.int v0_79)) (hf0_77 : fs0[77]? = some (.ref v0_77)) (hf0_78 : fs0[78]? = some (.ref v0_78)) (hi_0 : vp_in v0_79 24000) (hi_1 : vp_in v0_79 24000) (hi_2 : vp_in v0_79 24000) : Met l yX13_said wsX13_said ({ frames := 0, cells := 0, slots := 0, locals := 0 }) (zPc dC dI sz [.ref h0, .int p0, .int p1, .int p2] [(h0, .inr (15, fs0)), (v0_76, .inl (c_v0_76, 24000, .inl f_v0_76)), (v0_77, .inl (c_v0_77, 24000, .inl f_v0_77)), (v0_78, .inl (c_v0_78, 24000, .inl f_v0_78))] [(c_v0_76, .int), (c_v0_77, .int), (c_v0_78, .int)]) (va_Qi (fun (r : Int32) (_ : Unit) => r = ((v0_79 + 1) - 1)) (zB dC dI (fun _ => [(c_v0_76, .int), (c_v0_77, .int), (c_v0_78, .int)]) (fun _ : Unit => [(h0, .inr (15, (fs0.set 79 (.int (v0_79 + 1))))), (v0_76, .inl (c_v0_76, 24000, .inl (upd f_v0_76 (v0_79).toNatClampNeg p0))), (v0_77, .inl (c_v0_77, 24000, .inl (upd f_v0_77 (v0_79).toNatClampNeg p1))), (v0_78, .inl (c_v0_78, 24000, .inl (upd f_v0_78 (v0_79).toNatClampNeg p2)))]) (va_A [(h0, .inr (15, fs0)), (v0_76, .inl (c_v0_76, 24000, .inl f_v0_76)), (v0_77, .inl (c_v0_77, 24000, .inl f_v0_77)), (v0_78, .inl (c_v0_78, 24000, .inl f_v0_78))] sz)) (va_A [(h0, .inr (15, fs0)), (v0_76, .inl (c_v0_76, 24000, .inl f_v0_76)), (v0_77, .inl (c_v0_77, 24000, .inl f_v0_77)), (v0_78, .inl (c_v0_78, 24000, .inl f_v0_78))] sz)) 0 0 (va_A [(h0, .inr (15, fs0)), (v0_76, .inl (c_v0_76, 24000, .inl f_v0_76)), (v0_77, .inl (c_v0_77, 24000, .inl f_v0_77)), (v0_78, .inl (c_v0_78, 24000, .inl f_v0_78))] sz) := by
  refine Met.ofW (cc := cX13_said) (maxL := 4) (ret := (some .int)) (by decide) rfl ?_
  intro p e s m args below meth c s₁ B hml hv
  obtain ⟨rfl, hsz, hP, hK, hD0⟩ := hv
  have hx := B.exec
  have hb := B.bytes
  have hr := B.returns
  have hts := atoms_spec (ws := wsX13_said) B.pre
  have hown : s.vm.findClass RX13 = some m.cls := findClass_of_methodNamed B.named
  have hlocks := B.notSynchronized
  subst hsz
  have hD := hD0.self (sz := s.heap.size)
  generalize hAe : va_A [(h0, .inr (15, fs0)), (v0_76, .inl (c_v0_76, 24000, .inl f_v0_76)), (v0_77, .inl (c_v0_77, 24000, .inl f_v0_77)), (v0_78, .inl (c_v0_78, 24000, .inl f_v0_78))] s.heap.size = A at hD ⊢
  have hA : ∀ q : Nat, s.heap.size ≤ q → A q := fun q h => by rw [← hAe]; exact Or.inr h
  have hS : va_S A s.heap s.heap [] := va_S.rf
  have hP : va_P (dC, dI) vwCl [(h0, .inr (15, fs0)), (v0_76, .inl (c_v0_76, 24000, .inl f_v0_76)), (v0_77, .inl (c_v0_77, 24000, .inl f_v0_77)), (v0_78, .inl (c_v0_78, 24000, .inl f_v0_78))] s.heap := hP
  have hl := lv_entry ([.ref h0, .int p0, .int p1, .int p2]) (n := 4) (Nat.le_of_ble_eq_true rfl)
  rw [lg_entry_eq]
  generalize (lg_sl ([.ref h0, .int p0, .int p1, .int p2]) ++ List.replicate (4 - (lg_sl ([.ref h0, .int p0, .int p1, .int p2])).length) Slot.unset).toArray = ls at hl ⊢
  have hl : lv_has ls 4 [(0, .ref h0), (1, .int p0), (2, .int p1), (3, .int p2)] := hl
  refine lv_aload_n hx hb dX13_said_0 rfl (lv_at hl 0 rfl) ?_
  refine va_get (D := (dC, dI)) (ci := 15) (v := .ref v0_76) (C := RX13) (T := TX13) (N := 196) hx hb hts iw_X13_said_X13 hown hK hP 0 rfl rfl 76 (by decide) (hts (.fieldLink RX13 157 "LiquidTongueModel" "saidCase" "[I") (by decide +kernel)) (fun _ h9 => h9) hf0_76 dX13_said_1 ?_
  refine lv_aload_n hx hb dX13_said_4 rfl (lv_at hl 0 rfl) ?_
  refine va_get (D := (dC, dI)) (ci := 15) (v := .int v0_79) (C := RX13) (T := TX13) (N := 196) hx hb hts iw_X13_said_X13 hown hK hP 0 rfl rfl 79 (by decide) (hts (.fieldLink RX13 772 "LiquidTongueModel" "saids" "I") (by decide +kernel)) (fun _ h9 => h9) hf0_79 dX13_said_5 ?_
  refine lv_iload_n hx hb dX13_said_8 rfl (lv_at hl 1 rfl) ?_
  refine va_iast hx hb hK hP hD hS 1 0 rfl rfl hi_0 dX13_said_9 (fun H locs hP hD hS => ?_)
  have hP : va_P (dC, dI) vwCl [(h0, .inr (15, fs0)), (v0_76, .inl (c_v0_76, 24000, .inl (upd f_v0_76 (v0_79).toNatClampNeg p0))), (v0_77, .inl (c_v0_77, 24000, .inl f_v0_77)), (v0_78, .inl (c_v0_78, 24000, .inl f_v0_78))] H := hP
  have hD : va_D A [(h0, .inr (15, fs0)), (v0_76, .inl (c_v0_76, 24000, .inl (upd f_v0_76 (v0_79).toNatClampNeg p0))), (v0_77, .inl (c_v0_77, 24000, .inl f_v0_77)), (v0_78, .inl (c_v0_78, 24000, .inl f_v0_78))] := hD
  refine lv_aload_n hx hb dX13_said_10 rfl (lv_at hl 0 rfl) ?_
  refine va_get (D := (dC, dI)) (ci := 15) (v := .ref v0_77) (C := RX13) (T := TX13) (N := 196) hx hb hts iw_X13_said_X13 hown hK hP 0 rfl rfl 77 (by decide) (hts (.fieldLink RX13 160 "LiquidTongueModel" "saidFact" "[I") (by decide +kernel)) (fun _ h9 => h9) hf0_77 dX13_said_11 ?_
  refine lv_aload_n hx hb dX13_said_14 rfl (lv_at hl 0 rfl) ?_
  refine va_get (D := (dC, dI)) (ci := 15) (v := .int v0_79) (C := RX13) (T := TX13) (N := 196) hx hb hts iw_X13_said_X13 hown hK hP 0 rfl rfl 79 (by decide) (hts (.fieldLink RX13 772 "LiquidTongueModel" "saids" "I") (by decide +kernel)) (fun _ h9 => h9) hf0_79 dX13_said_15 ?_
  refine lv_iload_n hx hb dX13_said_18 rfl (lv_at hl 2 rfl) ?_
  refine va_iast hx hb hK hP hD hS 2 1 rfl rfl hi_1 dX13_said_19 (fun H locs hP hD hS => ?_)
  have hP : va_P (dC, dI) vwCl [(h0, .inr (15, fs0)), (v0_76, .inl (c_v0_76, 24000, .inl (upd f_v0_76 (v0_79).toNatClampNeg p0))), (v0_77, .inl (c_v0_77, 24000, .inl (upd f_v0_77 (v0_79).toNatClampNeg p1))), (v0_78, .inl (c_v0_78, 24000, .inl f_v0_78))] H := hP
  have hD : va_D A [(h0, .inr (15, fs0)), (v0_76, .inl (c_v0_76, 24000, .inl (upd f_v0_76 (v0_79).toNatClampNeg p0))), (v0_77, .inl (c_v0_77, 24000, .inl (upd f_v0_77 (v0_79).toNatClampNeg p1))), (v0_78, .inl (c_v0_78, 24000, .inl f_v0_78))] := hD
  refine lv_aload_n hx hb dX13_said_20 rfl (lv_at hl 0 rfl) ?_
  refine va_get (D := (dC, dI)) (ci := 15) (v := .ref v0_78) (C := RX13) (T := TX13) (N := 196) hx hb hts iw_X13_said_X13 hown hK hP 0 rfl rfl 78 (by decide) (hts (.fieldLink RX13 163 "LiquidTongueModel" "saidPut" "[I") (by decide +kernel)) (fun _ h9 => h9) hf0_78 dX13_said_21 ?_
  refine lv_aload_n hx hb dX13_said_24 rfl (lv_at hl 0 rfl) ?_
  refine va_get (D := (dC, dI)) (ci := 15) (v := .int v0_79) (C := RX13) (T := TX13) (N := 196) hx hb hts iw_X13_said_X13 hown hK hP 0 rfl rfl 79 (by decide) (hts (.fieldLink RX13 772 "LiquidTongueModel" "saids" "I") (by decide +kernel)) (fun _ h9 => h9) hf0_79 dX13_said_25 ?_
  refine lv_iload_n hx hb dX13_said_28 rfl (lv_at hl 3 rfl) ?_
  refine va_iast hx hb hK hP hD hS 3 2 rfl rfl hi_2 dX13_said_29 (fun H locs hP hD hS => ?_)
  have hP : va_P (dC, dI) vwCl [(h0, .inr (15, fs0)), (v0_76, .inl (c_v0_76, 24000, .inl (upd f_v0_76 (v0_79).toNatClampNeg p0))), (v0_77, .inl (c_v0_77, 24000, .inl (upd f_v0_77 (v0_79).toNatClampNeg p1))), (v0_78, .inl (c_v0_78, 24000, .inl (upd f_v0_78 (v0_79).toNatClampNeg p2)))] H := hP
  have hD : va_D A [(h0, .inr (15, fs0)), (v0_76, .inl (c_v0_76, 24000, .inl (upd f_v0_76 (v0_79).toNatClampNeg p0))), (v0_77, .inl (c_v0_77, 24000, .inl (upd f_v0_77 (v0_79).toNatClampNeg p1))), (v0_78, .inl (c_v0_78, 24000, .inl (upd f_v0_78 (v0_79).toNatClampNeg p2)))] := hD
  refine lv_aload_n hx hb dX13_said_30 rfl (lv_at hl 0 rfl) ?_
  refine lv_dup hx hb dX13_said_31 rfl ?_
  refine va_get (D := (dC, dI)) (ci := 15) (v := .int v0_79) (C := RX13) (T := TX13) (N := 196) hx hb hts iw_X13_said_X13 hown hK hP 0 rfl rfl 79 (by decide) (hts (.fieldLink RX13 772 "LiquidTongueModel" "saids" "I") (by decide +kernel)) (fun _ h9 => h9) hf0_79 dX13_said_32 ?_
  refine lv_iconst (v := 1) hx hb dX13_said_35 (by decide) ?_
  refine lv_iadd hx hb dX13_said_36 ?_
  refine va_put (D := (dC, dI)) (ci := 15) (v := .int (v0_79 + 1)) (ty := .int) (C := RX13) (T := TX13) (N := 196) hx hb hts iw_X13_said_X13 tyX13 tyX13_ok nmX13 hown hK hP hD hS 0 rfl rfl 79 (by decide) (hts (.fieldLink RX13 772 "LiquidTongueModel" "saids" "I") (by decide +kernel)) (fun _ h9 => h9) rfl (by decide +kernel) rfl rfl (zs_lt hl0 (by decide)) dX13_said_37 (fun H locs hP hD hS => ?_)
  have hP : va_P (dC, dI) vwCl [(h0, .inr (15, (fs0.set 79 (.int (v0_79 + 1))))), (v0_76, .inl (c_v0_76, 24000, .inl (upd f_v0_76 (v0_79).toNatClampNeg p0))), (v0_77, .inl (c_v0_77, 24000, .inl (upd f_v0_77 (v0_79).toNatClampNeg p1))), (v0_78, .inl (c_v0_78, 24000, .inl (upd f_v0_78 (v0_79).toNatClampNeg p2)))] H := hP
  have hD : va_D A [(h0, .inr (15, (fs0.set 79 (.int (v0_79 + 1))))), (v0_76, .inl (c_v0_76, 24000, .inl (upd f_v0_76 (v0_79).toNatClampNeg p0))), (v0_77, .inl (c_v0_77, 24000, .inl (upd f_v0_77 (v0_79).toNatClampNeg p1))), (v0_78, .inl (c_v0_78, 24000, .inl (upd f_v0_78 (v0_79).toNatClampNeg p2)))] := hD
  refine lv_aload_n hx hb dX13_said_40 rfl (lv_at hl 0 rfl) ?_
  refine va_get (D := (dC, dI)) (ci := 15) (v := .int (v0_79 + 1)) (C := RX13) (T := TX13) (N := 196) hx hb hts iw_X13_said_X13 hown hK hP 0 rfl rfl 79 (by decide) (hts (.fieldLink RX13 772 "LiquidTongueModel" "saids" "I") (by decide +kernel)) (fun _ h9 => h9) (zs_eq (zs_lt hl0 (by decide))) dX13_said_41 ?_
  refine lv_iconst (v := 1) hx hb dX13_said_44 (by decide) ?_
  refine lv_isub hx hb dX13_said_45 ?_
  have hP9 := hP.sub (ws' := [(h0, .inr (15, (fs0.set 79 (.int (v0_79 + 1))))), (v0_76, .inl (c_v0_76, 24000, .inl (upd f_v0_76 (v0_79).toNatClampNeg p0))), (v0_77, .inl (c_v0_77, 24000, .inl (upd f_v0_77 (v0_79).toNatClampNeg p1))), (v0_78, .inl (c_v0_78, 24000, .inl (upd f_v0_78 (v0_79).toNatClampNeg p2)))]) [0, 1, 2, 3] rfl
  have hD9 := hD.sub (ws' := [(h0, .inr (15, (fs0.set 79 (.int (v0_79 + 1))))), (v0_76, .inl (c_v0_76, 24000, .inl (upd f_v0_76 (v0_79).toNatClampNeg p0))), (v0_77, .inl (c_v0_77, 24000, .inl (upd f_v0_77 (v0_79).toNatClampNeg p1))), (v0_78, .inl (c_v0_78, 24000, .inl (upd f_v0_78 (v0_79).toNatClampNeg p2)))]) [0, 1, 2, 3] (by decide) rfl
  have hK9 := hK.sub (tys' := [(c_v0_76, .int), (c_v0_77, .int), (c_v0_78, .int)]) [0, 1, 2] rfl
  exact W.iret (v := ((v0_79 + 1) - 1)) hx hb hr (fun t ht hW => ⟨⟨((v0_79 + 1) - 1), (), rfl, rfl, (zB_mk (by rw [ht]; exact hP9) (va_K.moved hW.alike hK9) hD9)⟩, hS.F ht⟩) hS.2.2 dX13_said_46
theorem iw_X13_say_X13 : ∀ w ∈ wsX130, w ∈ wsX13_say := fun w h => List.mem_cons_of_mem _ (List.mem_append_right _ h)
set_option maxHeartbeats 4000000 in
set_option maxRecDepth 100000 in
/-- X13_say, a road -/
theorem c_X13_say_r0 (l : Launch) (dC : Nat → ClassId) (dI : Nat → Nat → Nat) (sz : Nat) (h0 : Nat) (fs0 : List Value) (p0 : Int32) (v0_158 : Int32) (hl0 : fs0.length = 196) (hf0_158 : fs0[158]? = some (.int v0_158)) (hc_0 : 16000 ≤ v0_158) : Met l yX13_say wsX13_say ({ frames := 0, cells := 0, slots := 0, locals := 0 }) (zPc dC dI sz [.ref h0, .int p0] [(h0, .inr (15, fs0))] []) (va_Qv (fun _ : Unit => True) (zB dC dI (fun _ => []) (fun _ : Unit => [(h0, .inr (15, (fs0.set 158 (.int (v0_158 + 1)))))]) (va_A [(h0, .inr (15, fs0))] sz)) (va_A [(h0, .inr (15, fs0))] sz)) 0 0 (va_A [(h0, .inr (15, fs0))] sz) := by
  refine Met.ofW (cc := cX13_say) (maxL := 2) (ret := none) (by decide) rfl ?_
  intro p e s m args below meth c s₁ B hml hv
  obtain ⟨rfl, hsz, hP, hK, hD0⟩ := hv
  have hx := B.exec
  have hb := B.bytes
  have hr := B.returns
  have hts := atoms_spec (ws := wsX13_say) B.pre
  have hown : s.vm.findClass RX13 = some m.cls := findClass_of_methodNamed B.named
  have hlocks := B.notSynchronized
  subst hsz
  have hD := hD0.self (sz := s.heap.size)
  generalize hAe : va_A [(h0, .inr (15, fs0))] s.heap.size = A at hD ⊢
  have hA : ∀ q : Nat, s.heap.size ≤ q → A q := fun q h => by rw [← hAe]; exact Or.inr h
  have hS : va_S A s.heap s.heap [] := va_S.rf
  have hP : va_P (dC, dI) vwCl [(h0, .inr (15, fs0))] s.heap := hP
  have hl := lv_entry ([.ref h0, .int p0]) (n := 2) (Nat.le_of_ble_eq_true rfl)
  rw [lg_entry_eq]
  generalize (lg_sl ([.ref h0, .int p0]) ++ List.replicate (2 - (lg_sl ([.ref h0, .int p0])).length) Slot.unset).toArray = ls at hl ⊢
  have hl : lv_has ls 2 [(0, .ref h0), (1, .int p0)] := hl
  refine lv_aload_n hx hb dX13_say_0 rfl (lv_at hl 0 rfl) ?_
  refine va_get (D := (dC, dI)) (ci := 15) (v := .int v0_158) (C := RX13) (T := TX13) (N := 196) hx hb hts iw_X13_say_X13 hown hK hP 0 rfl rfl 158 (by decide) (hts (.fieldLink RX13 989 "LiquidTongueModel" "sayMany" "I") (by decide +kernel)) (fun _ h9 => h9) hf0_158 dX13_say_1 ?_
  refine lv_sipush (v := 16000) hx hb dX13_say_4 (by decide) ?_
  refine lv_icmp_ge (tgt := 21) hx hb dX13_say_7 (by decide) (fun c_1 => ?_) (fun c_1 => absurd hc_0 c_1)
  refine lv_aload_n hx hb dX13_say_21 rfl (lv_at hl 0 rfl) ?_
  refine lv_dup hx hb dX13_say_22 rfl ?_
  refine va_get (D := (dC, dI)) (ci := 15) (v := .int v0_158) (C := RX13) (T := TX13) (N := 196) hx hb hts iw_X13_say_X13 hown hK hP 0 rfl rfl 158 (by decide) (hts (.fieldLink RX13 989 "LiquidTongueModel" "sayMany" "I") (by decide +kernel)) (fun _ h9 => h9) hf0_158 dX13_say_23 ?_
  refine lv_iconst (v := 1) hx hb dX13_say_26 (by decide) ?_
  refine lv_iadd hx hb dX13_say_27 ?_
  refine va_put (D := (dC, dI)) (ci := 15) (v := .int (v0_158 + 1)) (ty := .int) (C := RX13) (T := TX13) (N := 196) hx hb hts iw_X13_say_X13 tyX13 tyX13_ok nmX13 hown hK hP hD hS 0 rfl rfl 158 (by decide) (hts (.fieldLink RX13 989 "LiquidTongueModel" "sayMany" "I") (by decide +kernel)) (fun _ h9 => h9) rfl (by decide +kernel) rfl rfl (zs_lt hl0 (by decide)) dX13_say_28 (fun H locs hP hD hS => ?_)
  have hP : va_P (dC, dI) vwCl [(h0, .inr (15, (fs0.set 158 (.int (v0_158 + 1)))))] H := hP
  have hD : va_D A [(h0, .inr (15, (fs0.set 158 (.int (v0_158 + 1)))))] := hD
  have hP9 := hP.sub (ws' := [(h0, .inr (15, (fs0.set 158 (.int (v0_158 + 1)))))]) [0] rfl
  have hD9 := hD.sub (ws' := [(h0, .inr (15, (fs0.set 158 (.int (v0_158 + 1)))))]) [0] (by decide) rfl
  have hK9 := hK.sub (tys' := []) [] rfl
  exact W.vret hx hb hr (fun t ht hW => ⟨⟨(), rfl, trivial, (zB_mk (by rw [ht]; exact hP9) (va_K.moved hW.alike hK9) hD9)⟩, hS.F ht⟩) hS.2.2 dX13_say_31
set_option maxHeartbeats 4000000 in
set_option maxRecDepth 100000 in
/-- X13_say, a road -/
theorem c_X13_say_r1 (l : Launch) (dC : Nat → ClassId) (dI : Nat → Nat → Nat) (sz : Nat) (h0 : Nat) (fs0 : List Value) (p0 : Int32) (v0_158 : Int32) (v0_157 : Nat) (c_v0_157 : ClassId) (f_v0_157 : Nat → Int32) (hl0 : fs0.length = 196) (hf0_158 : fs0[158]? = some (.int v0_158)) (hf0_157 : fs0[157]? = some (.ref v0_157)) (hi_0 : vp_in v0_158 16000) (hc_0 : ¬ 16000 ≤ v0_158) : Met l yX13_say wsX13_say ({ frames := 0, cells := 0, slots := 0, locals := 0 }) (zPc dC dI sz [.ref h0, .int p0] [(h0, .inr (15, fs0)), (v0_157, .inl (c_v0_157, 16000, .inl f_v0_157))] [(c_v0_157, .byte)]) (va_Qv (fun _ : Unit => True) (zB dC dI (fun _ => [(c_v0_157, .byte)]) (fun _ : Unit => [(h0, .inr (15, (fs0.set 158 (.int (v0_158 + 1))))), (v0_157, .inl (c_v0_157, 16000, .inl (upd f_v0_157 (v0_158).toNatClampNeg (vp_nar .byte ((p0).toInt8.toInt32)))))]) (va_A [(h0, .inr (15, fs0)), (v0_157, .inl (c_v0_157, 16000, .inl f_v0_157))] sz)) (va_A [(h0, .inr (15, fs0)), (v0_157, .inl (c_v0_157, 16000, .inl f_v0_157))] sz)) 0 0 (va_A [(h0, .inr (15, fs0)), (v0_157, .inl (c_v0_157, 16000, .inl f_v0_157))] sz) := by
  refine Met.ofW (cc := cX13_say) (maxL := 2) (ret := none) (by decide) rfl ?_
  intro p e s m args below meth c s₁ B hml hv
  obtain ⟨rfl, hsz, hP, hK, hD0⟩ := hv
  have hx := B.exec
  have hb := B.bytes
  have hr := B.returns
  have hts := atoms_spec (ws := wsX13_say) B.pre
  have hown : s.vm.findClass RX13 = some m.cls := findClass_of_methodNamed B.named
  have hlocks := B.notSynchronized
  subst hsz
  have hD := hD0.self (sz := s.heap.size)
  generalize hAe : va_A [(h0, .inr (15, fs0)), (v0_157, .inl (c_v0_157, 16000, .inl f_v0_157))] s.heap.size = A at hD ⊢
  have hA : ∀ q : Nat, s.heap.size ≤ q → A q := fun q h => by rw [← hAe]; exact Or.inr h
  have hS : va_S A s.heap s.heap [] := va_S.rf
  have hP : va_P (dC, dI) vwCl [(h0, .inr (15, fs0)), (v0_157, .inl (c_v0_157, 16000, .inl f_v0_157))] s.heap := hP
  have hl := lv_entry ([.ref h0, .int p0]) (n := 2) (Nat.le_of_ble_eq_true rfl)
  rw [lg_entry_eq]
  generalize (lg_sl ([.ref h0, .int p0]) ++ List.replicate (2 - (lg_sl ([.ref h0, .int p0])).length) Slot.unset).toArray = ls at hl ⊢
  have hl : lv_has ls 2 [(0, .ref h0), (1, .int p0)] := hl
  refine lv_aload_n hx hb dX13_say_0 rfl (lv_at hl 0 rfl) ?_
  refine va_get (D := (dC, dI)) (ci := 15) (v := .int v0_158) (C := RX13) (T := TX13) (N := 196) hx hb hts iw_X13_say_X13 hown hK hP 0 rfl rfl 158 (by decide) (hts (.fieldLink RX13 989 "LiquidTongueModel" "sayMany" "I") (by decide +kernel)) (fun _ h9 => h9) hf0_158 dX13_say_1 ?_
  refine lv_sipush (v := 16000) hx hb dX13_say_4 (by decide) ?_
  refine lv_icmp_ge (tgt := 21) hx hb dX13_say_7 (by decide) (fun c_1 => absurd c_1 hc_0) (fun c_1 => ?_)
  refine lv_aload_n hx hb dX13_say_10 rfl (lv_at hl 0 rfl) ?_
  refine va_get (D := (dC, dI)) (ci := 15) (v := .ref v0_157) (C := RX13) (T := TX13) (N := 196) hx hb hts iw_X13_say_X13 hown hK hP 0 rfl rfl 157 (by decide) (hts (.fieldLink RX13 321 "LiquidTongueModel" "saying" "[B") (by decide +kernel)) (fun _ h9 => h9) hf0_157 dX13_say_11 ?_
  refine lv_aload_n hx hb dX13_say_14 rfl (lv_at hl 0 rfl) ?_
  refine va_get (D := (dC, dI)) (ci := 15) (v := .int v0_158) (C := RX13) (T := TX13) (N := 196) hx hb hts iw_X13_say_X13 hown hK hP 0 rfl rfl 158 (by decide) (hts (.fieldLink RX13 989 "LiquidTongueModel" "sayMany" "I") (by decide +kernel)) (fun _ h9 => h9) hf0_158 dX13_say_15 ?_
  refine lv_iload_n hx hb dX13_say_18 rfl (lv_at hl 1 rfl) ?_
  refine lv_i2b (v := ((p0).toInt8.toInt32)) hx hb dX13_say_19 rfl ?_
  refine va_bast hx hb hK hP hD hS 1 0 rfl rfl hi_0 dX13_say_20 (fun H locs hP hD hS => ?_)
  have hP : va_P (dC, dI) vwCl [(h0, .inr (15, fs0)), (v0_157, .inl (c_v0_157, 16000, .inl (upd f_v0_157 (v0_158).toNatClampNeg (vp_nar .byte ((p0).toInt8.toInt32)))))] H := hP
  have hD : va_D A [(h0, .inr (15, fs0)), (v0_157, .inl (c_v0_157, 16000, .inl (upd f_v0_157 (v0_158).toNatClampNeg (vp_nar .byte ((p0).toInt8.toInt32)))))] := hD
  refine lv_aload_n hx hb dX13_say_21 rfl (lv_at hl 0 rfl) ?_
  refine lv_dup hx hb dX13_say_22 rfl ?_
  refine va_get (D := (dC, dI)) (ci := 15) (v := .int v0_158) (C := RX13) (T := TX13) (N := 196) hx hb hts iw_X13_say_X13 hown hK hP 0 rfl rfl 158 (by decide) (hts (.fieldLink RX13 989 "LiquidTongueModel" "sayMany" "I") (by decide +kernel)) (fun _ h9 => h9) hf0_158 dX13_say_23 ?_
  refine lv_iconst (v := 1) hx hb dX13_say_26 (by decide) ?_
  refine lv_iadd hx hb dX13_say_27 ?_
  refine va_put (D := (dC, dI)) (ci := 15) (v := .int (v0_158 + 1)) (ty := .int) (C := RX13) (T := TX13) (N := 196) hx hb hts iw_X13_say_X13 tyX13 tyX13_ok nmX13 hown hK hP hD hS 0 rfl rfl 158 (by decide) (hts (.fieldLink RX13 989 "LiquidTongueModel" "sayMany" "I") (by decide +kernel)) (fun _ h9 => h9) rfl (by decide +kernel) rfl rfl (zs_lt hl0 (by decide)) dX13_say_28 (fun H locs hP hD hS => ?_)
  have hP : va_P (dC, dI) vwCl [(h0, .inr (15, (fs0.set 158 (.int (v0_158 + 1))))), (v0_157, .inl (c_v0_157, 16000, .inl (upd f_v0_157 (v0_158).toNatClampNeg (vp_nar .byte ((p0).toInt8.toInt32)))))] H := hP
  have hD : va_D A [(h0, .inr (15, (fs0.set 158 (.int (v0_158 + 1))))), (v0_157, .inl (c_v0_157, 16000, .inl (upd f_v0_157 (v0_158).toNatClampNeg (vp_nar .byte ((p0).toInt8.toInt32)))))] := hD
  have hP9 := hP.sub (ws' := [(h0, .inr (15, (fs0.set 158 (.int (v0_158 + 1))))), (v0_157, .inl (c_v0_157, 16000, .inl (upd f_v0_157 (v0_158).toNatClampNeg (vp_nar .byte ((p0).toInt8.toInt32)))))]) [0, 1] rfl
  have hD9 := hD.sub (ws' := [(h0, .inr (15, (fs0.set 158 (.int (v0_158 + 1))))), (v0_157, .inl (c_v0_157, 16000, .inl (upd f_v0_157 (v0_158).toNatClampNeg (vp_nar .byte ((p0).toInt8.toInt32)))))]) [0, 1] (by decide) rfl
  have hK9 := hK.sub (tys' := [(c_v0_157, .byte)]) [0] rfl
  exact W.vret hx hb hr (fun t ht hW => ⟨⟨(), rfl, trivial, (zB_mk (by rw [ht]; exact hP9) (va_K.moved hW.alike hK9) hD9)⟩, hS.F ht⟩) hS.2.2 dX13_say_31
theorem iw_X13_sizeOf_X13 : ∀ w ∈ wsX130, w ∈ wsX13_sizeOf := fun w h => List.mem_cons_of_mem _ (List.mem_append_right _ h)
set_option maxHeartbeats 4000000 in
set_option maxRecDepth 100000 in
/-- X13_sizeOf, a road -/
theorem c_X13_sizeOf_r0 (l : Launch) (dC : Nat → ClassId) (dI : Nat → Nat → Nat) (sz : Nat) (h0 : Nat) (fs0 : List Value) (p0 : Int32) (v0_187 : Nat) (c_v0_187 : ClassId) (f_v0_187 : Nat → Int32) (hl0 : fs0.length = 196) (hf0_187 : fs0[187]? = some (.ref v0_187)) (hi_0 : vp_in p0 20001) (hc_0 : 0 ≤ p0) : Met l yX13_sizeOf wsX13_sizeOf ({ frames := 0, cells := 0, slots := 0, locals := 0 }) (zPc dC dI sz [.ref h0, .int p0] [(h0, .inr (15, fs0)), (v0_187, .inl (c_v0_187, 20001, .inl f_v0_187))] [(c_v0_187, .int)]) (va_Qi (fun (r : Int32) (_ : Unit) => r = (f_v0_187 (p0).toNatClampNeg)) (zB dC dI (fun _ => [(c_v0_187, .int)]) (fun _ : Unit => [(h0, .inr (15, fs0)), (v0_187, .inl (c_v0_187, 20001, .inl f_v0_187))]) (va_A [(h0, .inr (15, fs0)), (v0_187, .inl (c_v0_187, 20001, .inl f_v0_187))] sz)) (va_A [(h0, .inr (15, fs0)), (v0_187, .inl (c_v0_187, 20001, .inl f_v0_187))] sz)) 0 0 (va_A [(h0, .inr (15, fs0)), (v0_187, .inl (c_v0_187, 20001, .inl f_v0_187))] sz) := by
  refine Met.ofW (cc := cX13_sizeOf) (maxL := 2) (ret := (some .int)) (by decide) rfl ?_
  intro p e s m args below meth c s₁ B hml hv
  obtain ⟨rfl, hsz, hP, hK, hD0⟩ := hv
  have hx := B.exec
  have hb := B.bytes
  have hr := B.returns
  have hts := atoms_spec (ws := wsX13_sizeOf) B.pre
  have hown : s.vm.findClass RX13 = some m.cls := findClass_of_methodNamed B.named
  have hlocks := B.notSynchronized
  subst hsz
  have hD := hD0.self (sz := s.heap.size)
  generalize hAe : va_A [(h0, .inr (15, fs0)), (v0_187, .inl (c_v0_187, 20001, .inl f_v0_187))] s.heap.size = A at hD ⊢
  have hA : ∀ q : Nat, s.heap.size ≤ q → A q := fun q h => by rw [← hAe]; exact Or.inr h
  have hS : va_S A s.heap s.heap [] := va_S.rf
  have hP : va_P (dC, dI) vwCl [(h0, .inr (15, fs0)), (v0_187, .inl (c_v0_187, 20001, .inl f_v0_187))] s.heap := hP
  have hl := lv_entry ([.ref h0, .int p0]) (n := 2) (Nat.le_of_ble_eq_true rfl)
  rw [lg_entry_eq]
  generalize (lg_sl ([.ref h0, .int p0]) ++ List.replicate (2 - (lg_sl ([.ref h0, .int p0])).length) Slot.unset).toArray = ls at hl ⊢
  have hl : lv_has ls 2 [(0, .ref h0), (1, .int p0)] := hl
  refine lv_iload_n hx hb dX13_sizeOf_0 rfl (lv_at hl 1 rfl) ?_
  refine lv_if_ge (tgt := 8) hx hb dX13_sizeOf_1 (by decide) (fun c_1 => ?_) (fun c_1 => absurd hc_0 c_1)
  refine lv_aload_n hx hb dX13_sizeOf_8 rfl (lv_at hl 0 rfl) ?_
  refine va_get (D := (dC, dI)) (ci := 15) (v := .ref v0_187) (C := RX13) (T := TX13) (N := 196) hx hb hts iw_X13_sizeOf_X13 hown hK hP 0 rfl rfl 187 (by decide) (hts (.fieldLink RX13 383 "LiquidTongueModel" "cellMany" "[I") (by decide +kernel)) (fun _ h9 => h9) hf0_187 dX13_sizeOf_9 ?_
  refine lv_iload_n hx hb dX13_sizeOf_12 rfl (lv_at hl 1 rfl) ?_
  refine va_iald hx hb hK hP 1 0 rfl rfl hi_0 dX13_sizeOf_13 ?_
  have hP9 := hP.sub (ws' := [(h0, .inr (15, fs0)), (v0_187, .inl (c_v0_187, 20001, .inl f_v0_187))]) [0, 1] rfl
  have hD9 := hD.sub (ws' := [(h0, .inr (15, fs0)), (v0_187, .inl (c_v0_187, 20001, .inl f_v0_187))]) [0, 1] (by decide) rfl
  have hK9 := hK.sub (tys' := [(c_v0_187, .int)]) [0] rfl
  exact W.iret (v := (f_v0_187 (p0).toNatClampNeg)) hx hb hr (fun t ht hW => ⟨⟨(f_v0_187 (p0).toNatClampNeg), (), rfl, rfl, (zB_mk (by rw [ht]; exact hP9) (va_K.moved hW.alike hK9) hD9)⟩, hS.F ht⟩) hS.2.2 dX13_sizeOf_14
set_option maxHeartbeats 4000000 in
set_option maxRecDepth 100000 in
/-- X13_sizeOf, a road -/
theorem c_X13_sizeOf_r1 (l : Launch) (dC : Nat → ClassId) (dI : Nat → Nat → Nat) (sz : Nat) (h0 : Nat) (fs0 : List Value) (p0 : Int32) (hl0 : fs0.length = 196) (hc_0 : ¬ 0 ≤ p0) : Met l yX13_sizeOf wsX13_sizeOf ({ frames := 0, cells := 0, slots := 0, locals := 0 }) (zPc dC dI sz [.ref h0, .int p0] [(h0, .inr (15, fs0))] []) (va_Qi (fun (r : Int32) (_ : Unit) => r = 0) (zB dC dI (fun _ => []) (fun _ : Unit => [(h0, .inr (15, fs0))]) (va_A [(h0, .inr (15, fs0))] sz)) (va_A [(h0, .inr (15, fs0))] sz)) 0 0 (va_A [(h0, .inr (15, fs0))] sz) := by
  refine Met.ofW (cc := cX13_sizeOf) (maxL := 2) (ret := (some .int)) (by decide) rfl ?_
  intro p e s m args below meth c s₁ B hml hv
  obtain ⟨rfl, hsz, hP, hK, hD0⟩ := hv
  have hx := B.exec
  have hb := B.bytes
  have hr := B.returns
  have hts := atoms_spec (ws := wsX13_sizeOf) B.pre
  have hown : s.vm.findClass RX13 = some m.cls := findClass_of_methodNamed B.named
  have hlocks := B.notSynchronized
  subst hsz
  have hD := hD0.self (sz := s.heap.size)
  generalize hAe : va_A [(h0, .inr (15, fs0))] s.heap.size = A at hD ⊢
  have hA : ∀ q : Nat, s.heap.size ≤ q → A q := fun q h => by rw [← hAe]; exact Or.inr h
  have hS : va_S A s.heap s.heap [] := va_S.rf
  have hP : va_P (dC, dI) vwCl [(h0, .inr (15, fs0))] s.heap := hP
  have hl := lv_entry ([.ref h0, .int p0]) (n := 2) (Nat.le_of_ble_eq_true rfl)
  rw [lg_entry_eq]
  generalize (lg_sl ([.ref h0, .int p0]) ++ List.replicate (2 - (lg_sl ([.ref h0, .int p0])).length) Slot.unset).toArray = ls at hl ⊢
  have hl : lv_has ls 2 [(0, .ref h0), (1, .int p0)] := hl
  refine lv_iload_n hx hb dX13_sizeOf_0 rfl (lv_at hl 1 rfl) ?_
  refine lv_if_ge (tgt := 8) hx hb dX13_sizeOf_1 (by decide) (fun c_1 => absurd c_1 hc_0) (fun c_1 => ?_)
  refine lv_iconst (v := 0) hx hb dX13_sizeOf_4 (by decide) ?_
  refine lv_goto (tgt := 14) hx hb dX13_sizeOf_5 (by decide) ?_
  have hP9 := hP.sub (ws' := [(h0, .inr (15, fs0))]) [0] rfl
  have hD9 := hD.sub (ws' := [(h0, .inr (15, fs0))]) [0] (by decide) rfl
  have hK9 := hK.sub (tys' := []) [] rfl
  exact W.iret (v := 0) hx hb hr (fun t ht hW => ⟨⟨0, (), rfl, rfl, (zB_mk (by rw [ht]; exact hP9) (va_K.moved hW.alike hK9) hD9)⟩, hS.F ht⟩) hS.2.2 dX13_sizeOf_14
theorem iw_X13_slot_X13 : ∀ w ∈ wsX130, w ∈ wsX13_slot := fun w h => List.mem_cons_of_mem _ (List.mem_append_right _ h)
set_option maxHeartbeats 4000000 in
set_option maxRecDepth 100000 in
/-- X13_slot, a road -/
theorem c_X13_slot_r0 (l : Launch) (dC : Nat → ClassId) (dI : Nat → Nat → Nat) (sz : Nat) (h0 : Nat) (fs0 : List Value) (p0 : Int32) (p1 : Int32) (p2 : Int32) (p3 : Int64) (v0_167 : Nat) (v0_171 : Int32) (c_v0_167 : ClassId) (f_v0_167 : Nat → Int32) (v0_168 : Nat) (c_v0_168 : ClassId) (f_v0_168 : Nat → Int32) (v0_170 : Nat) (c_v0_170 : ClassId) (f_v0_170 : Nat → Int64) (v0_169 : Nat) (c_v0_169 : ClassId) (f_v0_169 : Nat → Int32) (hl0 : fs0.length = 196) (hf0_167 : fs0[167]? = some (.ref v0_167)) (hf0_171 : fs0[171]? = some (.int v0_171)) (hf0_168 : fs0[168]? = some (.ref v0_168)) (hf0_170 : fs0[170]? = some (.ref v0_170)) (hf0_169 : fs0[169]? = some (.ref v0_169)) (hi_0 : vp_in v0_171 260000) (hi_1 : vp_in v0_171 260000) (hi_2 : vp_in v0_171 260000) (hi_3 : vp_in v0_171 260000) : Met l yX13_slot wsX13_slot ({ frames := 0, cells := 0, slots := 0, locals := 0 }) (zPc dC dI sz [.ref h0, .int p0, .int p1, .int p2, .long p3] [(h0, .inr (15, fs0)), (v0_167, .inl (c_v0_167, 260000, .inl f_v0_167)), (v0_168, .inl (c_v0_168, 260000, .inl f_v0_168)), (v0_170, .inl (c_v0_170, 260000, .inr (.inl f_v0_170))), (v0_169, .inl (c_v0_169, 260000, .inl f_v0_169))] [(c_v0_167, .int), (c_v0_168, .int), (c_v0_170, .long), (c_v0_169, .int)]) (va_Qi (fun (r : Int32) (_ : Unit) => r = ((v0_171 + 1) - 1)) (zB dC dI (fun _ => [(c_v0_167, .int), (c_v0_168, .int), (c_v0_170, .long), (c_v0_169, .int)]) (fun _ : Unit => [(h0, .inr (15, (fs0.set 171 (.int (v0_171 + 1))))), (v0_167, .inl (c_v0_167, 260000, .inl (upd f_v0_167 (v0_171).toNatClampNeg p1))), (v0_168, .inl (c_v0_168, 260000, .inl (upd f_v0_168 (v0_171).toNatClampNeg p2))), (v0_170, .inl (c_v0_170, 260000, .inr (.inl (vp_updL f_v0_170 (v0_171).toNatClampNeg p3)))), (v0_169, .inl (c_v0_169, 260000, .inl (upd f_v0_169 (v0_171).toNatClampNeg p0)))]) (va_A [(h0, .inr (15, fs0)), (v0_167, .inl (c_v0_167, 260000, .inl f_v0_167)), (v0_168, .inl (c_v0_168, 260000, .inl f_v0_168)), (v0_170, .inl (c_v0_170, 260000, .inr (.inl f_v0_170))), (v0_169, .inl (c_v0_169, 260000, .inl f_v0_169))] sz)) (va_A [(h0, .inr (15, fs0)), (v0_167, .inl (c_v0_167, 260000, .inl f_v0_167)), (v0_168, .inl (c_v0_168, 260000, .inl f_v0_168)), (v0_170, .inl (c_v0_170, 260000, .inr (.inl f_v0_170))), (v0_169, .inl (c_v0_169, 260000, .inl f_v0_169))] sz)) 0 0 (va_A [(h0, .inr (15, fs0)), (v0_167, .inl (c_v0_167, 260000, .inl f_v0_167)), (v0_168, .inl (c_v0_168, 260000, .inl f_v0_168)), (v0_170, .inl (c_v0_170, 260000, .inr (.inl f_v0_170))), (v0_169, .inl (c_v0_169, 260000, .inl f_v0_169))] sz) := by
  refine Met.ofW (cc := cX13_slot) (maxL := 6) (ret := (some .int)) (by decide) rfl ?_
  intro p e s m args below meth c s₁ B hml hv
  obtain ⟨rfl, hsz, hP, hK, hD0⟩ := hv
  have hx := B.exec
  have hb := B.bytes
  have hr := B.returns
  have hts := atoms_spec (ws := wsX13_slot) B.pre
  have hown : s.vm.findClass RX13 = some m.cls := findClass_of_methodNamed B.named
  have hlocks := B.notSynchronized
  subst hsz
  have hD := hD0.self (sz := s.heap.size)
  generalize hAe : va_A [(h0, .inr (15, fs0)), (v0_167, .inl (c_v0_167, 260000, .inl f_v0_167)), (v0_168, .inl (c_v0_168, 260000, .inl f_v0_168)), (v0_170, .inl (c_v0_170, 260000, .inr (.inl f_v0_170))), (v0_169, .inl (c_v0_169, 260000, .inl f_v0_169))] s.heap.size = A at hD ⊢
  have hA : ∀ q : Nat, s.heap.size ≤ q → A q := fun q h => by rw [← hAe]; exact Or.inr h
  have hS : va_S A s.heap s.heap [] := va_S.rf
  have hP : va_P (dC, dI) vwCl [(h0, .inr (15, fs0)), (v0_167, .inl (c_v0_167, 260000, .inl f_v0_167)), (v0_168, .inl (c_v0_168, 260000, .inl f_v0_168)), (v0_170, .inl (c_v0_170, 260000, .inr (.inl f_v0_170))), (v0_169, .inl (c_v0_169, 260000, .inl f_v0_169))] s.heap := hP
  have hl := lv_entry ([.ref h0, .int p0, .int p1, .int p2, .long p3]) (n := 6) (Nat.le_of_ble_eq_true rfl)
  rw [lg_entry_eq]
  generalize (lg_sl ([.ref h0, .int p0, .int p1, .int p2, .long p3]) ++ List.replicate (6 - (lg_sl ([.ref h0, .int p0, .int p1, .int p2, .long p3])).length) Slot.unset).toArray = ls at hl ⊢
  have hl : lv_has ls 6 [(0, .ref h0), (1, .int p0), (2, .int p1), (3, .int p2), (4, .long p3)] := hl
  refine lv_aload_n hx hb dX13_slot_0 rfl (lv_at hl 0 rfl) ?_
  refine va_get (D := (dC, dI)) (ci := 15) (v := .ref v0_167) (C := RX13) (T := TX13) (N := 196) hx hb hts iw_X13_slot_X13 hown hK hP 0 rfl rfl 167 (by decide) (hts (.fieldLink RX13 334 "LiquidTongueModel" "slotName" "[I") (by decide +kernel)) (fun _ h9 => h9) hf0_167 dX13_slot_1 ?_
  refine lv_aload_n hx hb dX13_slot_4 rfl (lv_at hl 0 rfl) ?_
  refine va_get (D := (dC, dI)) (ci := 15) (v := .int v0_171) (C := RX13) (T := TX13) (N := 196) hx hb hts iw_X13_slot_X13 hown hK hP 0 rfl rfl 171 (by decide) (hts (.fieldLink RX13 1024 "LiquidTongueModel" "slots" "I") (by decide +kernel)) (fun _ h9 => h9) hf0_171 dX13_slot_5 ?_
  refine lv_iload_n hx hb dX13_slot_8 rfl (lv_at hl 2 rfl) ?_
  refine va_iast hx hb hK hP hD hS 1 0 rfl rfl hi_0 dX13_slot_9 (fun H locs hP hD hS => ?_)
  have hP : va_P (dC, dI) vwCl [(h0, .inr (15, fs0)), (v0_167, .inl (c_v0_167, 260000, .inl (upd f_v0_167 (v0_171).toNatClampNeg p1))), (v0_168, .inl (c_v0_168, 260000, .inl f_v0_168)), (v0_170, .inl (c_v0_170, 260000, .inr (.inl f_v0_170))), (v0_169, .inl (c_v0_169, 260000, .inl f_v0_169))] H := hP
  have hD : va_D A [(h0, .inr (15, fs0)), (v0_167, .inl (c_v0_167, 260000, .inl (upd f_v0_167 (v0_171).toNatClampNeg p1))), (v0_168, .inl (c_v0_168, 260000, .inl f_v0_168)), (v0_170, .inl (c_v0_170, 260000, .inr (.inl f_v0_170))), (v0_169, .inl (c_v0_169, 260000, .inl f_v0_169))] := hD
  refine lv_aload_n hx hb dX13_slot_10 rfl (lv_at hl 0 rfl) ?_
  refine va_get (D := (dC, dI)) (ci := 15) (v := .ref v0_168) (C := RX13) (T := TX13) (N := 196) hx hb hts iw_X13_slot_X13 hown hK hP 0 rfl rfl 168 (by decide) (hts (.fieldLink RX13 337 "LiquidTongueModel" "slotKind" "[I") (by decide +kernel)) (fun _ h9 => h9) hf0_168 dX13_slot_11 ?_
  refine lv_aload_n hx hb dX13_slot_14 rfl (lv_at hl 0 rfl) ?_
  refine va_get (D := (dC, dI)) (ci := 15) (v := .int v0_171) (C := RX13) (T := TX13) (N := 196) hx hb hts iw_X13_slot_X13 hown hK hP 0 rfl rfl 171 (by decide) (hts (.fieldLink RX13 1024 "LiquidTongueModel" "slots" "I") (by decide +kernel)) (fun _ h9 => h9) hf0_171 dX13_slot_15 ?_
  refine lv_iload_n hx hb dX13_slot_18 rfl (lv_at hl 3 rfl) ?_
  refine va_iast hx hb hK hP hD hS 2 1 rfl rfl hi_1 dX13_slot_19 (fun H locs hP hD hS => ?_)
  have hP : va_P (dC, dI) vwCl [(h0, .inr (15, fs0)), (v0_167, .inl (c_v0_167, 260000, .inl (upd f_v0_167 (v0_171).toNatClampNeg p1))), (v0_168, .inl (c_v0_168, 260000, .inl (upd f_v0_168 (v0_171).toNatClampNeg p2))), (v0_170, .inl (c_v0_170, 260000, .inr (.inl f_v0_170))), (v0_169, .inl (c_v0_169, 260000, .inl f_v0_169))] H := hP
  have hD : va_D A [(h0, .inr (15, fs0)), (v0_167, .inl (c_v0_167, 260000, .inl (upd f_v0_167 (v0_171).toNatClampNeg p1))), (v0_168, .inl (c_v0_168, 260000, .inl (upd f_v0_168 (v0_171).toNatClampNeg p2))), (v0_170, .inl (c_v0_170, 260000, .inr (.inl f_v0_170))), (v0_169, .inl (c_v0_169, 260000, .inl f_v0_169))] := hD
  refine lv_aload_n hx hb dX13_slot_20 rfl (lv_at hl 0 rfl) ?_
  refine va_get (D := (dC, dI)) (ci := 15) (v := .ref v0_170) (C := RX13) (T := TX13) (N := 196) hx hb hts iw_X13_slot_X13 hown hK hP 0 rfl rfl 170 (by decide) (hts (.fieldLink RX13 343 "LiquidTongueModel" "slotValue" "[J") (by decide +kernel)) (fun _ h9 => h9) hf0_170 dX13_slot_21 ?_
  refine lv_aload_n hx hb dX13_slot_24 rfl (lv_at hl 0 rfl) ?_
  refine va_get (D := (dC, dI)) (ci := 15) (v := .int v0_171) (C := RX13) (T := TX13) (N := 196) hx hb hts iw_X13_slot_X13 hown hK hP 0 rfl rfl 171 (by decide) (hts (.fieldLink RX13 1024 "LiquidTongueModel" "slots" "I") (by decide +kernel)) (fun _ h9 => h9) hf0_171 dX13_slot_25 ?_
  refine lv_lload hx hb dX13_slot_28 (lv_at hl 4 rfl) ?_
  refine va_last hx hb hK hP hD hS 3 2 rfl rfl hi_2 dX13_slot_30 (fun H locs hP hD hS => ?_)
  have hP : va_P (dC, dI) vwCl [(h0, .inr (15, fs0)), (v0_167, .inl (c_v0_167, 260000, .inl (upd f_v0_167 (v0_171).toNatClampNeg p1))), (v0_168, .inl (c_v0_168, 260000, .inl (upd f_v0_168 (v0_171).toNatClampNeg p2))), (v0_170, .inl (c_v0_170, 260000, .inr (.inl (vp_updL f_v0_170 (v0_171).toNatClampNeg p3)))), (v0_169, .inl (c_v0_169, 260000, .inl f_v0_169))] H := hP
  have hD : va_D A [(h0, .inr (15, fs0)), (v0_167, .inl (c_v0_167, 260000, .inl (upd f_v0_167 (v0_171).toNatClampNeg p1))), (v0_168, .inl (c_v0_168, 260000, .inl (upd f_v0_168 (v0_171).toNatClampNeg p2))), (v0_170, .inl (c_v0_170, 260000, .inr (.inl (vp_updL f_v0_170 (v0_171).toNatClampNeg p3)))), (v0_169, .inl (c_v0_169, 260000, .inl f_v0_169))] := hD
  refine lv_aload_n hx hb dX13_slot_31 rfl (lv_at hl 0 rfl) ?_
  refine va_get (D := (dC, dI)) (ci := 15) (v := .ref v0_169) (C := RX13) (T := TX13) (N := 196) hx hb hts iw_X13_slot_X13 hown hK hP 0 rfl rfl 169 (by decide) (hts (.fieldLink RX13 340 "LiquidTongueModel" "slotBefore" "[I") (by decide +kernel)) (fun _ h9 => h9) hf0_169 dX13_slot_32 ?_
  refine lv_aload_n hx hb dX13_slot_35 rfl (lv_at hl 0 rfl) ?_
  refine va_get (D := (dC, dI)) (ci := 15) (v := .int v0_171) (C := RX13) (T := TX13) (N := 196) hx hb hts iw_X13_slot_X13 hown hK hP 0 rfl rfl 171 (by decide) (hts (.fieldLink RX13 1024 "LiquidTongueModel" "slots" "I") (by decide +kernel)) (fun _ h9 => h9) hf0_171 dX13_slot_36 ?_
  refine lv_iload_n hx hb dX13_slot_39 rfl (lv_at hl 1 rfl) ?_
  refine va_iast hx hb hK hP hD hS 4 3 rfl rfl hi_3 dX13_slot_40 (fun H locs hP hD hS => ?_)
  have hP : va_P (dC, dI) vwCl [(h0, .inr (15, fs0)), (v0_167, .inl (c_v0_167, 260000, .inl (upd f_v0_167 (v0_171).toNatClampNeg p1))), (v0_168, .inl (c_v0_168, 260000, .inl (upd f_v0_168 (v0_171).toNatClampNeg p2))), (v0_170, .inl (c_v0_170, 260000, .inr (.inl (vp_updL f_v0_170 (v0_171).toNatClampNeg p3)))), (v0_169, .inl (c_v0_169, 260000, .inl (upd f_v0_169 (v0_171).toNatClampNeg p0)))] H := hP
  have hD : va_D A [(h0, .inr (15, fs0)), (v0_167, .inl (c_v0_167, 260000, .inl (upd f_v0_167 (v0_171).toNatClampNeg p1))), (v0_168, .inl (c_v0_168, 260000, .inl (upd f_v0_168 (v0_171).toNatClampNeg p2))), (v0_170, .inl (c_v0_170, 260000, .inr (.inl (vp_updL f_v0_170 (v0_171).toNatClampNeg p3)))), (v0_169, .inl (c_v0_169, 260000, .inl (upd f_v0_169 (v0_171).toNatClampNeg p0)))] := hD
  refine lv_aload_n hx hb dX13_slot_41 rfl (lv_at hl 0 rfl) ?_
  refine lv_dup hx hb dX13_slot_42 rfl ?_
  refine va_get (D := (dC, dI)) (ci := 15) (v := .int v0_171) (C := RX13) (T := TX13) (N := 196) hx hb hts iw_X13_slot_X13 hown hK hP 0 rfl rfl 171 (by decide) (hts (.fieldLink RX13 1024 "LiquidTongueModel" "slots" "I") (by decide +kernel)) (fun _ h9 => h9) hf0_171 dX13_slot_43 ?_
  refine lv_iconst (v := 1) hx hb dX13_slot_46 (by decide) ?_
  refine lv_iadd hx hb dX13_slot_47 ?_
  refine va_put (D := (dC, dI)) (ci := 15) (v := .int (v0_171 + 1)) (ty := .int) (C := RX13) (T := TX13) (N := 196) hx hb hts iw_X13_slot_X13 tyX13 tyX13_ok nmX13 hown hK hP hD hS 0 rfl rfl 171 (by decide) (hts (.fieldLink RX13 1024 "LiquidTongueModel" "slots" "I") (by decide +kernel)) (fun _ h9 => h9) rfl (by decide +kernel) rfl rfl (zs_lt hl0 (by decide)) dX13_slot_48 (fun H locs hP hD hS => ?_)
  have hP : va_P (dC, dI) vwCl [(h0, .inr (15, (fs0.set 171 (.int (v0_171 + 1))))), (v0_167, .inl (c_v0_167, 260000, .inl (upd f_v0_167 (v0_171).toNatClampNeg p1))), (v0_168, .inl (c_v0_168, 260000, .inl (upd f_v0_168 (v0_171).toNatClampNeg p2))), (v0_170, .inl (c_v0_170, 260000, .inr (.inl (vp_updL f_v0_170 (v0_171).toNatClampNeg p3)))), (v0_169, .inl (c_v0_169, 260000, .inl (upd f_v0_169 (v0_171).toNatClampNeg p0)))] H := hP
  have hD : va_D A [(h0, .inr (15, (fs0.set 171 (.int (v0_171 + 1))))), (v0_167, .inl (c_v0_167, 260000, .inl (upd f_v0_167 (v0_171).toNatClampNeg p1))), (v0_168, .inl (c_v0_168, 260000, .inl (upd f_v0_168 (v0_171).toNatClampNeg p2))), (v0_170, .inl (c_v0_170, 260000, .inr (.inl (vp_updL f_v0_170 (v0_171).toNatClampNeg p3)))), (v0_169, .inl (c_v0_169, 260000, .inl (upd f_v0_169 (v0_171).toNatClampNeg p0)))] := hD
  refine lv_aload_n hx hb dX13_slot_51 rfl (lv_at hl 0 rfl) ?_
  refine va_get (D := (dC, dI)) (ci := 15) (v := .int (v0_171 + 1)) (C := RX13) (T := TX13) (N := 196) hx hb hts iw_X13_slot_X13 hown hK hP 0 rfl rfl 171 (by decide) (hts (.fieldLink RX13 1024 "LiquidTongueModel" "slots" "I") (by decide +kernel)) (fun _ h9 => h9) (zs_eq (zs_lt hl0 (by decide))) dX13_slot_52 ?_
  refine lv_iconst (v := 1) hx hb dX13_slot_55 (by decide) ?_
  refine lv_isub hx hb dX13_slot_56 ?_
  have hP9 := hP.sub (ws' := [(h0, .inr (15, (fs0.set 171 (.int (v0_171 + 1))))), (v0_167, .inl (c_v0_167, 260000, .inl (upd f_v0_167 (v0_171).toNatClampNeg p1))), (v0_168, .inl (c_v0_168, 260000, .inl (upd f_v0_168 (v0_171).toNatClampNeg p2))), (v0_170, .inl (c_v0_170, 260000, .inr (.inl (vp_updL f_v0_170 (v0_171).toNatClampNeg p3)))), (v0_169, .inl (c_v0_169, 260000, .inl (upd f_v0_169 (v0_171).toNatClampNeg p0)))]) [0, 1, 2, 3, 4] rfl
  have hD9 := hD.sub (ws' := [(h0, .inr (15, (fs0.set 171 (.int (v0_171 + 1))))), (v0_167, .inl (c_v0_167, 260000, .inl (upd f_v0_167 (v0_171).toNatClampNeg p1))), (v0_168, .inl (c_v0_168, 260000, .inl (upd f_v0_168 (v0_171).toNatClampNeg p2))), (v0_170, .inl (c_v0_170, 260000, .inr (.inl (vp_updL f_v0_170 (v0_171).toNatClampNeg p3)))), (v0_169, .inl (c_v0_169, 260000, .inl (upd f_v0_169 (v0_171).toNatClampNeg p0)))]) [0, 1, 2, 3, 4] (by decide) rfl
  have hK9 := hK.sub (tys' := [(c_v0_167, .int), (c_v0_168, .int), (c_v0_170, .long), (c_v0_169, .int)]) [0, 1, 2, 3] rfl
  exact W.iret (v := ((v0_171 + 1) - 1)) hx hb hr (fun t ht hW => ⟨⟨((v0_171 + 1) - 1), (), rfl, rfl, (zB_mk (by rw [ht]; exact hP9) (va_K.moved hW.alike hK9) hD9)⟩, hS.F ht⟩) hS.2.2 dX13_slot_57
theorem iw_X13_tell_X13 : ∀ w ∈ wsX130, w ∈ wsX13_tell := fun w h => List.mem_cons_of_mem _ (List.mem_append_right _ h)
set_option maxHeartbeats 4000000 in
set_option maxRecDepth 100000 in
/-- X13_tell, a road -/
theorem c_X13_tell_r0 (l : Launch) (dC : Nat → ClassId) (dI : Nat → Nat → Nat) (sz : Nat) (h0 : Nat) (fs0 : List Value) (p0 : Int32) (v0_46 : Nat) (v0_50 : Int32) (c_v0_46 : ClassId) (f_v0_46 : Nat → Int32) (v0_48 : Nat) (c_v0_48 : ClassId) (f_v0_48 : Nat → Int32) (hl0 : fs0.length = 196) (hf0_46 : fs0[46]? = some (.ref v0_46)) (hf0_50 : fs0[50]? = some (.int v0_50)) (hf0_48 : fs0[48]? = some (.ref v0_48)) (hi_0 : vp_in v0_50 700) (hi_1 : vp_in p0 2010) : Met l yX13_tell wsX13_tell ({ frames := 0, cells := 0, slots := 0, locals := 0 }) (zPc dC dI sz [.ref h0, .int p0] [(h0, .inr (15, fs0)), (v0_46, .inl (c_v0_46, 700, .inl f_v0_46)), (v0_48, .inl (c_v0_48, 2010, .inl f_v0_48))] [(c_v0_46, .int), (c_v0_48, .int)]) (va_Qi (fun (r : Int32) (_ : Unit) => r = ((v0_50 + 1) - 1)) (zB dC dI (fun _ => [(c_v0_46, .int), (c_v0_48, .int)]) (fun _ : Unit => [(h0, .inr (15, (fs0.set 50 (.int (v0_50 + 1))))), (v0_46, .inl (c_v0_46, 700, .inl (upd f_v0_46 (v0_50).toNatClampNeg p0))), (v0_48, .inl (c_v0_48, 2010, .inl (upd f_v0_48 (p0).toNatClampNeg v0_50)))]) (va_A [(h0, .inr (15, fs0)), (v0_46, .inl (c_v0_46, 700, .inl f_v0_46)), (v0_48, .inl (c_v0_48, 2010, .inl f_v0_48))] sz)) (va_A [(h0, .inr (15, fs0)), (v0_46, .inl (c_v0_46, 700, .inl f_v0_46)), (v0_48, .inl (c_v0_48, 2010, .inl f_v0_48))] sz)) 0 0 (va_A [(h0, .inr (15, fs0)), (v0_46, .inl (c_v0_46, 700, .inl f_v0_46)), (v0_48, .inl (c_v0_48, 2010, .inl f_v0_48))] sz) := by
  refine Met.ofW (cc := cX13_tell) (maxL := 2) (ret := (some .int)) (by decide) rfl ?_
  intro p e s m args below meth c s₁ B hml hv
  obtain ⟨rfl, hsz, hP, hK, hD0⟩ := hv
  have hx := B.exec
  have hb := B.bytes
  have hr := B.returns
  have hts := atoms_spec (ws := wsX13_tell) B.pre
  have hown : s.vm.findClass RX13 = some m.cls := findClass_of_methodNamed B.named
  have hlocks := B.notSynchronized
  subst hsz
  have hD := hD0.self (sz := s.heap.size)
  generalize hAe : va_A [(h0, .inr (15, fs0)), (v0_46, .inl (c_v0_46, 700, .inl f_v0_46)), (v0_48, .inl (c_v0_48, 2010, .inl f_v0_48))] s.heap.size = A at hD ⊢
  have hA : ∀ q : Nat, s.heap.size ≤ q → A q := fun q h => by rw [← hAe]; exact Or.inr h
  have hS : va_S A s.heap s.heap [] := va_S.rf
  have hP : va_P (dC, dI) vwCl [(h0, .inr (15, fs0)), (v0_46, .inl (c_v0_46, 700, .inl f_v0_46)), (v0_48, .inl (c_v0_48, 2010, .inl f_v0_48))] s.heap := hP
  have hl := lv_entry ([.ref h0, .int p0]) (n := 2) (Nat.le_of_ble_eq_true rfl)
  rw [lg_entry_eq]
  generalize (lg_sl ([.ref h0, .int p0]) ++ List.replicate (2 - (lg_sl ([.ref h0, .int p0])).length) Slot.unset).toArray = ls at hl ⊢
  have hl : lv_has ls 2 [(0, .ref h0), (1, .int p0)] := hl
  refine lv_aload_n hx hb dX13_tell_0 rfl (lv_at hl 0 rfl) ?_
  refine va_get (D := (dC, dI)) (ci := 15) (v := .ref v0_46) (C := RX13) (T := TX13) (N := 196) hx hb hts iw_X13_tell_X13 hown hK hP 0 rfl rfl 46 (by decide) (hts (.fieldLink RX13 101 "LiquidTongueModel" "dWord" "[I") (by decide +kernel)) (fun _ h9 => h9) hf0_46 dX13_tell_1 ?_
  refine lv_aload_n hx hb dX13_tell_4 rfl (lv_at hl 0 rfl) ?_
  refine va_get (D := (dC, dI)) (ci := 15) (v := .int v0_50) (C := RX13) (T := TX13) (N := 196) hx hb hts iw_X13_tell_X13 hown hK hP 0 rfl rfl 50 (by decide) (hts (.fieldLink RX13 627 "LiquidTongueModel" "told" "I") (by decide +kernel)) (fun _ h9 => h9) hf0_50 dX13_tell_5 ?_
  refine lv_iload_n hx hb dX13_tell_8 rfl (lv_at hl 1 rfl) ?_
  refine va_iast hx hb hK hP hD hS 1 0 rfl rfl hi_0 dX13_tell_9 (fun H locs hP hD hS => ?_)
  have hP : va_P (dC, dI) vwCl [(h0, .inr (15, fs0)), (v0_46, .inl (c_v0_46, 700, .inl (upd f_v0_46 (v0_50).toNatClampNeg p0))), (v0_48, .inl (c_v0_48, 2010, .inl f_v0_48))] H := hP
  have hD : va_D A [(h0, .inr (15, fs0)), (v0_46, .inl (c_v0_46, 700, .inl (upd f_v0_46 (v0_50).toNatClampNeg p0))), (v0_48, .inl (c_v0_48, 2010, .inl f_v0_48))] := hD
  refine lv_aload_n hx hb dX13_tell_10 rfl (lv_at hl 0 rfl) ?_
  refine va_get (D := (dC, dI)) (ci := 15) (v := .ref v0_48) (C := RX13) (T := TX13) (N := 196) hx hb hts iw_X13_tell_X13 hown hK hP 0 rfl rfl 48 (by decide) (hts (.fieldLink RX13 107 "LiquidTongueModel" "whose" "[I") (by decide +kernel)) (fun _ h9 => h9) hf0_48 dX13_tell_11 ?_
  refine lv_iload_n hx hb dX13_tell_14 rfl (lv_at hl 1 rfl) ?_
  refine lv_aload_n hx hb dX13_tell_15 rfl (lv_at hl 0 rfl) ?_
  refine va_get (D := (dC, dI)) (ci := 15) (v := .int v0_50) (C := RX13) (T := TX13) (N := 196) hx hb hts iw_X13_tell_X13 hown hK hP 0 rfl rfl 50 (by decide) (hts (.fieldLink RX13 627 "LiquidTongueModel" "told" "I") (by decide +kernel)) (fun _ h9 => h9) hf0_50 dX13_tell_16 ?_
  refine va_iast hx hb hK hP hD hS 2 1 rfl rfl hi_1 dX13_tell_19 (fun H locs hP hD hS => ?_)
  have hP : va_P (dC, dI) vwCl [(h0, .inr (15, fs0)), (v0_46, .inl (c_v0_46, 700, .inl (upd f_v0_46 (v0_50).toNatClampNeg p0))), (v0_48, .inl (c_v0_48, 2010, .inl (upd f_v0_48 (p0).toNatClampNeg v0_50)))] H := hP
  have hD : va_D A [(h0, .inr (15, fs0)), (v0_46, .inl (c_v0_46, 700, .inl (upd f_v0_46 (v0_50).toNatClampNeg p0))), (v0_48, .inl (c_v0_48, 2010, .inl (upd f_v0_48 (p0).toNatClampNeg v0_50)))] := hD
  refine lv_aload_n hx hb dX13_tell_20 rfl (lv_at hl 0 rfl) ?_
  refine lv_dup hx hb dX13_tell_21 rfl ?_
  refine va_get (D := (dC, dI)) (ci := 15) (v := .int v0_50) (C := RX13) (T := TX13) (N := 196) hx hb hts iw_X13_tell_X13 hown hK hP 0 rfl rfl 50 (by decide) (hts (.fieldLink RX13 627 "LiquidTongueModel" "told" "I") (by decide +kernel)) (fun _ h9 => h9) hf0_50 dX13_tell_22 ?_
  refine lv_iconst (v := 1) hx hb dX13_tell_25 (by decide) ?_
  refine lv_iadd hx hb dX13_tell_26 ?_
  refine va_put (D := (dC, dI)) (ci := 15) (v := .int (v0_50 + 1)) (ty := .int) (C := RX13) (T := TX13) (N := 196) hx hb hts iw_X13_tell_X13 tyX13 tyX13_ok nmX13 hown hK hP hD hS 0 rfl rfl 50 (by decide) (hts (.fieldLink RX13 627 "LiquidTongueModel" "told" "I") (by decide +kernel)) (fun _ h9 => h9) rfl (by decide +kernel) rfl rfl (zs_lt hl0 (by decide)) dX13_tell_27 (fun H locs hP hD hS => ?_)
  have hP : va_P (dC, dI) vwCl [(h0, .inr (15, (fs0.set 50 (.int (v0_50 + 1))))), (v0_46, .inl (c_v0_46, 700, .inl (upd f_v0_46 (v0_50).toNatClampNeg p0))), (v0_48, .inl (c_v0_48, 2010, .inl (upd f_v0_48 (p0).toNatClampNeg v0_50)))] H := hP
  have hD : va_D A [(h0, .inr (15, (fs0.set 50 (.int (v0_50 + 1))))), (v0_46, .inl (c_v0_46, 700, .inl (upd f_v0_46 (v0_50).toNatClampNeg p0))), (v0_48, .inl (c_v0_48, 2010, .inl (upd f_v0_48 (p0).toNatClampNeg v0_50)))] := hD
  refine lv_aload_n hx hb dX13_tell_30 rfl (lv_at hl 0 rfl) ?_
  refine va_get (D := (dC, dI)) (ci := 15) (v := .int (v0_50 + 1)) (C := RX13) (T := TX13) (N := 196) hx hb hts iw_X13_tell_X13 hown hK hP 0 rfl rfl 50 (by decide) (hts (.fieldLink RX13 627 "LiquidTongueModel" "told" "I") (by decide +kernel)) (fun _ h9 => h9) (zs_eq (zs_lt hl0 (by decide))) dX13_tell_31 ?_
  refine lv_iconst (v := 1) hx hb dX13_tell_34 (by decide) ?_
  refine lv_isub hx hb dX13_tell_35 ?_
  have hP9 := hP.sub (ws' := [(h0, .inr (15, (fs0.set 50 (.int (v0_50 + 1))))), (v0_46, .inl (c_v0_46, 700, .inl (upd f_v0_46 (v0_50).toNatClampNeg p0))), (v0_48, .inl (c_v0_48, 2010, .inl (upd f_v0_48 (p0).toNatClampNeg v0_50)))]) [0, 1, 2] rfl
  have hD9 := hD.sub (ws' := [(h0, .inr (15, (fs0.set 50 (.int (v0_50 + 1))))), (v0_46, .inl (c_v0_46, 700, .inl (upd f_v0_46 (v0_50).toNatClampNeg p0))), (v0_48, .inl (c_v0_48, 2010, .inl (upd f_v0_48 (p0).toNatClampNeg v0_50)))]) [0, 1, 2] (by decide) rfl
  have hK9 := hK.sub (tys' := [(c_v0_46, .int), (c_v0_48, .int)]) [0, 1] rfl
  exact W.iret (v := ((v0_50 + 1) - 1)) hx hb hr (fun t ht hW => ⟨⟨((v0_50 + 1) - 1), (), rfl, rfl, (zB_mk (by rw [ht]; exact hP9) (va_K.moved hW.alike hK9) hD9)⟩, hS.F ht⟩) hS.2.2 dX13_tell_36
theorem iw_X13_todo_X13 : ∀ w ∈ wsX130, w ∈ wsX13_todo := fun w h => List.mem_cons_of_mem _ (List.mem_append_right _ h)
set_option maxHeartbeats 4000000 in
set_option maxRecDepth 100000 in
/-- X13_todo, a road -/
theorem c_X13_todo_r0 (l : Launch) (dC : Nat → ClassId) (dI : Nat → Nat → Nat) (sz : Nat) (h0 : Nat) (fs0 : List Value) (p0 : Int32) (p1 : Int32) (p2 : Int32) (v0_182 : Nat) (v0_189 : Int32) (c_v0_182 : ClassId) (f_v0_182 : Nat → Int32) (v0_183 : Nat) (c_v0_183 : ClassId) (f_v0_183 : Nat → Int32) (v0_184 : Nat) (c_v0_184 : ClassId) (f_v0_184 : Nat → Int32) (hl0 : fs0.length = 196) (hf0_182 : fs0[182]? = some (.ref v0_182)) (hf0_189 : fs0[189]? = some (.int v0_189)) (hf0_183 : fs0[183]? = some (.ref v0_183)) (hf0_184 : fs0[184]? = some (.ref v0_184)) (hi_0 : vp_in v0_189 20000) (hi_1 : vp_in v0_189 20000) (hi_2 : vp_in v0_189 20000) : Met l yX13_todo wsX13_todo ({ frames := 0, cells := 0, slots := 0, locals := 0 }) (zPc dC dI sz [.ref h0, .int p0, .int p1, .int p2] [(h0, .inr (15, fs0)), (v0_182, .inl (c_v0_182, 20000, .inl f_v0_182)), (v0_183, .inl (c_v0_183, 20000, .inl f_v0_183)), (v0_184, .inl (c_v0_184, 20000, .inl f_v0_184))] [(c_v0_182, .int), (c_v0_183, .int), (c_v0_184, .int)]) (va_Qv (fun _ : Unit => True) (zB dC dI (fun _ => [(c_v0_182, .int), (c_v0_183, .int), (c_v0_184, .int)]) (fun _ : Unit => [(h0, .inr (15, (fs0.set 189 (.int (v0_189 + 1))))), (v0_182, .inl (c_v0_182, 20000, .inl (upd f_v0_182 (v0_189).toNatClampNeg p0))), (v0_183, .inl (c_v0_183, 20000, .inl (upd f_v0_183 (v0_189).toNatClampNeg p1))), (v0_184, .inl (c_v0_184, 20000, .inl (upd f_v0_184 (v0_189).toNatClampNeg p2)))]) (va_A [(h0, .inr (15, fs0)), (v0_182, .inl (c_v0_182, 20000, .inl f_v0_182)), (v0_183, .inl (c_v0_183, 20000, .inl f_v0_183)), (v0_184, .inl (c_v0_184, 20000, .inl f_v0_184))] sz)) (va_A [(h0, .inr (15, fs0)), (v0_182, .inl (c_v0_182, 20000, .inl f_v0_182)), (v0_183, .inl (c_v0_183, 20000, .inl f_v0_183)), (v0_184, .inl (c_v0_184, 20000, .inl f_v0_184))] sz)) 0 0 (va_A [(h0, .inr (15, fs0)), (v0_182, .inl (c_v0_182, 20000, .inl f_v0_182)), (v0_183, .inl (c_v0_183, 20000, .inl f_v0_183)), (v0_184, .inl (c_v0_184, 20000, .inl f_v0_184))] sz) := by
  refine Met.ofW (cc := cX13_todo) (maxL := 4) (ret := none) (by decide) rfl ?_
  intro p e s m args below meth c s₁ B hml hv
  obtain ⟨rfl, hsz, hP, hK, hD0⟩ := hv
  have hx := B.exec
  have hb := B.bytes
  have hr := B.returns
  have hts := atoms_spec (ws := wsX13_todo) B.pre
  have hown : s.vm.findClass RX13 = some m.cls := findClass_of_methodNamed B.named
  have hlocks := B.notSynchronized
  subst hsz
  have hD := hD0.self (sz := s.heap.size)
  generalize hAe : va_A [(h0, .inr (15, fs0)), (v0_182, .inl (c_v0_182, 20000, .inl f_v0_182)), (v0_183, .inl (c_v0_183, 20000, .inl f_v0_183)), (v0_184, .inl (c_v0_184, 20000, .inl f_v0_184))] s.heap.size = A at hD ⊢
  have hA : ∀ q : Nat, s.heap.size ≤ q → A q := fun q h => by rw [← hAe]; exact Or.inr h
  have hS : va_S A s.heap s.heap [] := va_S.rf
  have hP : va_P (dC, dI) vwCl [(h0, .inr (15, fs0)), (v0_182, .inl (c_v0_182, 20000, .inl f_v0_182)), (v0_183, .inl (c_v0_183, 20000, .inl f_v0_183)), (v0_184, .inl (c_v0_184, 20000, .inl f_v0_184))] s.heap := hP
  have hl := lv_entry ([.ref h0, .int p0, .int p1, .int p2]) (n := 4) (Nat.le_of_ble_eq_true rfl)
  rw [lg_entry_eq]
  generalize (lg_sl ([.ref h0, .int p0, .int p1, .int p2]) ++ List.replicate (4 - (lg_sl ([.ref h0, .int p0, .int p1, .int p2])).length) Slot.unset).toArray = ls at hl ⊢
  have hl : lv_has ls 4 [(0, .ref h0), (1, .int p0), (2, .int p1), (3, .int p2)] := hl
  refine lv_aload_n hx hb dX13_todo_0 rfl (lv_at hl 0 rfl) ?_
  refine va_get (D := (dC, dI)) (ci := 15) (v := .ref v0_182) (C := RX13) (T := TX13) (N := 196) hx hb hts iw_X13_todo_X13 hown hK hP 0 rfl rfl 182 (by decide) (hts (.fieldLink RX13 368 "LiquidTongueModel" "doKind" "[I") (by decide +kernel)) (fun _ h9 => h9) hf0_182 dX13_todo_1 ?_
  refine lv_aload_n hx hb dX13_todo_4 rfl (lv_at hl 0 rfl) ?_
  refine va_get (D := (dC, dI)) (ci := 15) (v := .int v0_189) (C := RX13) (T := TX13) (N := 196) hx hb hts iw_X13_todo_X13 hown hK hP 0 rfl rfl 189 (by decide) (hts (.fieldLink RX13 1070 "LiquidTongueModel" "doing" "I") (by decide +kernel)) (fun _ h9 => h9) hf0_189 dX13_todo_5 ?_
  refine lv_iload_n hx hb dX13_todo_8 rfl (lv_at hl 1 rfl) ?_
  refine va_iast hx hb hK hP hD hS 1 0 rfl rfl hi_0 dX13_todo_9 (fun H locs hP hD hS => ?_)
  have hP : va_P (dC, dI) vwCl [(h0, .inr (15, fs0)), (v0_182, .inl (c_v0_182, 20000, .inl (upd f_v0_182 (v0_189).toNatClampNeg p0))), (v0_183, .inl (c_v0_183, 20000, .inl f_v0_183)), (v0_184, .inl (c_v0_184, 20000, .inl f_v0_184))] H := hP
  have hD : va_D A [(h0, .inr (15, fs0)), (v0_182, .inl (c_v0_182, 20000, .inl (upd f_v0_182 (v0_189).toNatClampNeg p0))), (v0_183, .inl (c_v0_183, 20000, .inl f_v0_183)), (v0_184, .inl (c_v0_184, 20000, .inl f_v0_184))] := hD
  refine lv_aload_n hx hb dX13_todo_10 rfl (lv_at hl 0 rfl) ?_
  refine va_get (D := (dC, dI)) (ci := 15) (v := .ref v0_183) (C := RX13) (T := TX13) (N := 196) hx hb hts iw_X13_todo_X13 hown hK hP 0 rfl rfl 183 (by decide) (hts (.fieldLink RX13 371 "LiquidTongueModel" "doWhat" "[I") (by decide +kernel)) (fun _ h9 => h9) hf0_183 dX13_todo_11 ?_
  refine lv_aload_n hx hb dX13_todo_14 rfl (lv_at hl 0 rfl) ?_
  refine va_get (D := (dC, dI)) (ci := 15) (v := .int v0_189) (C := RX13) (T := TX13) (N := 196) hx hb hts iw_X13_todo_X13 hown hK hP 0 rfl rfl 189 (by decide) (hts (.fieldLink RX13 1070 "LiquidTongueModel" "doing" "I") (by decide +kernel)) (fun _ h9 => h9) hf0_189 dX13_todo_15 ?_
  refine lv_iload_n hx hb dX13_todo_18 rfl (lv_at hl 2 rfl) ?_
  refine va_iast hx hb hK hP hD hS 2 1 rfl rfl hi_1 dX13_todo_19 (fun H locs hP hD hS => ?_)
  have hP : va_P (dC, dI) vwCl [(h0, .inr (15, fs0)), (v0_182, .inl (c_v0_182, 20000, .inl (upd f_v0_182 (v0_189).toNatClampNeg p0))), (v0_183, .inl (c_v0_183, 20000, .inl (upd f_v0_183 (v0_189).toNatClampNeg p1))), (v0_184, .inl (c_v0_184, 20000, .inl f_v0_184))] H := hP
  have hD : va_D A [(h0, .inr (15, fs0)), (v0_182, .inl (c_v0_182, 20000, .inl (upd f_v0_182 (v0_189).toNatClampNeg p0))), (v0_183, .inl (c_v0_183, 20000, .inl (upd f_v0_183 (v0_189).toNatClampNeg p1))), (v0_184, .inl (c_v0_184, 20000, .inl f_v0_184))] := hD
  refine lv_aload_n hx hb dX13_todo_20 rfl (lv_at hl 0 rfl) ?_
  refine va_get (D := (dC, dI)) (ci := 15) (v := .ref v0_184) (C := RX13) (T := TX13) (N := 196) hx hb hts iw_X13_todo_X13 hown hK hP 0 rfl rfl 184 (by decide) (hts (.fieldLink RX13 374 "LiquidTongueModel" "doSlots" "[I") (by decide +kernel)) (fun _ h9 => h9) hf0_184 dX13_todo_21 ?_
  refine lv_aload_n hx hb dX13_todo_24 rfl (lv_at hl 0 rfl) ?_
  refine va_get (D := (dC, dI)) (ci := 15) (v := .int v0_189) (C := RX13) (T := TX13) (N := 196) hx hb hts iw_X13_todo_X13 hown hK hP 0 rfl rfl 189 (by decide) (hts (.fieldLink RX13 1070 "LiquidTongueModel" "doing" "I") (by decide +kernel)) (fun _ h9 => h9) hf0_189 dX13_todo_25 ?_
  refine lv_iload_n hx hb dX13_todo_28 rfl (lv_at hl 3 rfl) ?_
  refine va_iast hx hb hK hP hD hS 3 2 rfl rfl hi_2 dX13_todo_29 (fun H locs hP hD hS => ?_)
  have hP : va_P (dC, dI) vwCl [(h0, .inr (15, fs0)), (v0_182, .inl (c_v0_182, 20000, .inl (upd f_v0_182 (v0_189).toNatClampNeg p0))), (v0_183, .inl (c_v0_183, 20000, .inl (upd f_v0_183 (v0_189).toNatClampNeg p1))), (v0_184, .inl (c_v0_184, 20000, .inl (upd f_v0_184 (v0_189).toNatClampNeg p2)))] H := hP
  have hD : va_D A [(h0, .inr (15, fs0)), (v0_182, .inl (c_v0_182, 20000, .inl (upd f_v0_182 (v0_189).toNatClampNeg p0))), (v0_183, .inl (c_v0_183, 20000, .inl (upd f_v0_183 (v0_189).toNatClampNeg p1))), (v0_184, .inl (c_v0_184, 20000, .inl (upd f_v0_184 (v0_189).toNatClampNeg p2)))] := hD
  refine lv_aload_n hx hb dX13_todo_30 rfl (lv_at hl 0 rfl) ?_
  refine lv_dup hx hb dX13_todo_31 rfl ?_
  refine va_get (D := (dC, dI)) (ci := 15) (v := .int v0_189) (C := RX13) (T := TX13) (N := 196) hx hb hts iw_X13_todo_X13 hown hK hP 0 rfl rfl 189 (by decide) (hts (.fieldLink RX13 1070 "LiquidTongueModel" "doing" "I") (by decide +kernel)) (fun _ h9 => h9) hf0_189 dX13_todo_32 ?_
  refine lv_iconst (v := 1) hx hb dX13_todo_35 (by decide) ?_
  refine lv_iadd hx hb dX13_todo_36 ?_
  refine va_put (D := (dC, dI)) (ci := 15) (v := .int (v0_189 + 1)) (ty := .int) (C := RX13) (T := TX13) (N := 196) hx hb hts iw_X13_todo_X13 tyX13 tyX13_ok nmX13 hown hK hP hD hS 0 rfl rfl 189 (by decide) (hts (.fieldLink RX13 1070 "LiquidTongueModel" "doing" "I") (by decide +kernel)) (fun _ h9 => h9) rfl (by decide +kernel) rfl rfl (zs_lt hl0 (by decide)) dX13_todo_37 (fun H locs hP hD hS => ?_)
  have hP : va_P (dC, dI) vwCl [(h0, .inr (15, (fs0.set 189 (.int (v0_189 + 1))))), (v0_182, .inl (c_v0_182, 20000, .inl (upd f_v0_182 (v0_189).toNatClampNeg p0))), (v0_183, .inl (c_v0_183, 20000, .inl (upd f_v0_183 (v0_189).toNatClampNeg p1))), (v0_184, .inl (c_v0_184, 20000, .inl (upd f_v0_184 (v0_189).toNatClampNeg p2)))] H := hP
  have hD : va_D A [(h0, .inr (15, (fs0.set 189 (.int (v0_189 + 1))))), (v0_182, .inl (c_v0_182, 20000, .inl (upd f_v0_182 (v0_189).toNatClampNeg p0))), (v0_183, .inl (c_v0_183, 20000, .inl (upd f_v0_183 (v0_189).toNatClampNeg p1))), (v0_184, .inl (c_v0_184, 20000, .inl (upd f_v0_184 (v0_189).toNatClampNeg p2)))] := hD
  have hP9 := hP.sub (ws' := [(h0, .inr (15, (fs0.set 189 (.int (v0_189 + 1))))), (v0_182, .inl (c_v0_182, 20000, .inl (upd f_v0_182 (v0_189).toNatClampNeg p0))), (v0_183, .inl (c_v0_183, 20000, .inl (upd f_v0_183 (v0_189).toNatClampNeg p1))), (v0_184, .inl (c_v0_184, 20000, .inl (upd f_v0_184 (v0_189).toNatClampNeg p2)))]) [0, 1, 2, 3] rfl
  have hD9 := hD.sub (ws' := [(h0, .inr (15, (fs0.set 189 (.int (v0_189 + 1))))), (v0_182, .inl (c_v0_182, 20000, .inl (upd f_v0_182 (v0_189).toNatClampNeg p0))), (v0_183, .inl (c_v0_183, 20000, .inl (upd f_v0_183 (v0_189).toNatClampNeg p1))), (v0_184, .inl (c_v0_184, 20000, .inl (upd f_v0_184 (v0_189).toNatClampNeg p2)))]) [0, 1, 2, 3] (by decide) rfl
  have hK9 := hK.sub (tys' := [(c_v0_182, .int), (c_v0_183, .int), (c_v0_184, .int)]) [0, 1, 2] rfl
  exact W.vret hx hb hr (fun t ht hW => ⟨⟨(), rfl, trivial, (zB_mk (by rw [ht]; exact hP9) (va_K.moved hW.alike hK9) hD9)⟩, hS.F ht⟩) hS.2.2 dX13_todo_40
theorem iw_X13_way_X13 : ∀ w ∈ wsX130, w ∈ wsX13_way := fun w h => List.mem_cons_of_mem _ (List.mem_append_right _ h)
set_option maxHeartbeats 4000000 in
set_option maxRecDepth 100000 in
/-- X13_way, a road -/
theorem c_X13_way_r0 (l : Launch) (dC : Nat → ClassId) (dI : Nat → Nat → Nat) (sz : Nat) (h0 : Nat) (fs0 : List Value) (p0 : Int32) (p1 : Int32) (p2 : Int32) (p3 : Int32) (p4 : Int64) (v0_145 : Nat) (v0_152 : Int32) (c_v0_145 : ClassId) (f_v0_145 : Nat → Int32) (v0_146 : Nat) (c_v0_146 : ClassId) (f_v0_146 : Nat → Int32) (v0_147 : Nat) (c_v0_147 : ClassId) (f_v0_147 : Nat → Int32) (v0_148 : Nat) (c_v0_148 : ClassId) (f_v0_148 : Nat → Int32) (v0_151 : Nat) (c_v0_151 : ClassId) (f_v0_151 : Nat → Int64) (hl0 : fs0.length = 196) (hf0_145 : fs0[145]? = some (.ref v0_145)) (hf0_152 : fs0[152]? = some (.int v0_152)) (hf0_146 : fs0[146]? = some (.ref v0_146)) (hf0_147 : fs0[147]? = some (.ref v0_147)) (hf0_148 : fs0[148]? = some (.ref v0_148)) (hf0_151 : fs0[151]? = some (.ref v0_151)) (hi_0 : vp_in v0_152 300) (hi_1 : vp_in v0_152 300) (hi_2 : vp_in v0_152 300) (hi_3 : vp_in v0_152 300) (hi_4 : vp_in v0_152 300) : Met l yX13_way wsX13_way ({ frames := 0, cells := 0, slots := 0, locals := 0 }) (zPc dC dI sz [.ref h0, .int p0, .int p1, .int p2, .int p3, .long p4] [(h0, .inr (15, fs0)), (v0_145, .inl (c_v0_145, 300, .inl f_v0_145)), (v0_146, .inl (c_v0_146, 300, .inl f_v0_146)), (v0_147, .inl (c_v0_147, 300, .inl f_v0_147)), (v0_148, .inl (c_v0_148, 300, .inl f_v0_148)), (v0_151, .inl (c_v0_151, 300, .inr (.inl f_v0_151)))] [(c_v0_145, .int), (c_v0_146, .int), (c_v0_147, .int), (c_v0_148, .int), (c_v0_151, .long)]) (va_Qv (fun _ : Unit => True) (zB dC dI (fun _ => [(c_v0_145, .int), (c_v0_146, .int), (c_v0_147, .int), (c_v0_148, .int), (c_v0_151, .long)]) (fun _ : Unit => [(h0, .inr (15, (fs0.set 152 (.int (v0_152 + 1))))), (v0_145, .inl (c_v0_145, 300, .inl (upd f_v0_145 (v0_152).toNatClampNeg p0))), (v0_146, .inl (c_v0_146, 300, .inl (upd f_v0_146 (v0_152).toNatClampNeg p1))), (v0_147, .inl (c_v0_147, 300, .inl (upd f_v0_147 (v0_152).toNatClampNeg p2))), (v0_148, .inl (c_v0_148, 300, .inl (upd f_v0_148 (v0_152).toNatClampNeg p3))), (v0_151, .inl (c_v0_151, 300, .inr (.inl (vp_updL f_v0_151 (v0_152).toNatClampNeg p4))))]) (va_A [(h0, .inr (15, fs0)), (v0_145, .inl (c_v0_145, 300, .inl f_v0_145)), (v0_146, .inl (c_v0_146, 300, .inl f_v0_146)), (v0_147, .inl (c_v0_147, 300, .inl f_v0_147)), (v0_148, .inl (c_v0_148, 300, .inl f_v0_148)), (v0_151, .inl (c_v0_151, 300, .inr (.inl f_v0_151)))] sz)) (va_A [(h0, .inr (15, fs0)), (v0_145, .inl (c_v0_145, 300, .inl f_v0_145)), (v0_146, .inl (c_v0_146, 300, .inl f_v0_146)), (v0_147, .inl (c_v0_147, 300, .inl f_v0_147)), (v0_148, .inl (c_v0_148, 300, .inl f_v0_148)), (v0_151, .inl (c_v0_151, 300, .inr (.inl f_v0_151)))] sz)) 0 0 (va_A [(h0, .inr (15, fs0)), (v0_145, .inl (c_v0_145, 300, .inl f_v0_145)), (v0_146, .inl (c_v0_146, 300, .inl f_v0_146)), (v0_147, .inl (c_v0_147, 300, .inl f_v0_147)), (v0_148, .inl (c_v0_148, 300, .inl f_v0_148)), (v0_151, .inl (c_v0_151, 300, .inr (.inl f_v0_151)))] sz) := by
  refine Met.ofW (cc := cX13_way) (maxL := 7) (ret := none) (by decide) rfl ?_
  intro p e s m args below meth c s₁ B hml hv
  obtain ⟨rfl, hsz, hP, hK, hD0⟩ := hv
  have hx := B.exec
  have hb := B.bytes
  have hr := B.returns
  have hts := atoms_spec (ws := wsX13_way) B.pre
  have hown : s.vm.findClass RX13 = some m.cls := findClass_of_methodNamed B.named
  have hlocks := B.notSynchronized
  subst hsz
  have hD := hD0.self (sz := s.heap.size)
  generalize hAe : va_A [(h0, .inr (15, fs0)), (v0_145, .inl (c_v0_145, 300, .inl f_v0_145)), (v0_146, .inl (c_v0_146, 300, .inl f_v0_146)), (v0_147, .inl (c_v0_147, 300, .inl f_v0_147)), (v0_148, .inl (c_v0_148, 300, .inl f_v0_148)), (v0_151, .inl (c_v0_151, 300, .inr (.inl f_v0_151)))] s.heap.size = A at hD ⊢
  have hA : ∀ q : Nat, s.heap.size ≤ q → A q := fun q h => by rw [← hAe]; exact Or.inr h
  have hS : va_S A s.heap s.heap [] := va_S.rf
  have hP : va_P (dC, dI) vwCl [(h0, .inr (15, fs0)), (v0_145, .inl (c_v0_145, 300, .inl f_v0_145)), (v0_146, .inl (c_v0_146, 300, .inl f_v0_146)), (v0_147, .inl (c_v0_147, 300, .inl f_v0_147)), (v0_148, .inl (c_v0_148, 300, .inl f_v0_148)), (v0_151, .inl (c_v0_151, 300, .inr (.inl f_v0_151)))] s.heap := hP
  have hl := lv_entry ([.ref h0, .int p0, .int p1, .int p2, .int p3, .long p4]) (n := 7) (Nat.le_of_ble_eq_true rfl)
  rw [lg_entry_eq]
  generalize (lg_sl ([.ref h0, .int p0, .int p1, .int p2, .int p3, .long p4]) ++ List.replicate (7 - (lg_sl ([.ref h0, .int p0, .int p1, .int p2, .int p3, .long p4])).length) Slot.unset).toArray = ls at hl ⊢
  have hl : lv_has ls 7 [(0, .ref h0), (1, .int p0), (2, .int p1), (3, .int p2), (4, .int p3), (5, .long p4)] := hl
  refine lv_aload_n hx hb dX13_way_0 rfl (lv_at hl 0 rfl) ?_
  refine va_get (D := (dC, dI)) (ci := 15) (v := .ref v0_145) (C := RX13) (T := TX13) (N := 196) hx hb hts iw_X13_way_X13 hown hK hP 0 rfl rfl 145 (by decide) (hts (.fieldLink RX13 297 "LiquidTongueModel" "wayA" "[I") (by decide +kernel)) (fun _ h9 => h9) hf0_145 dX13_way_1 ?_
  refine lv_aload_n hx hb dX13_way_4 rfl (lv_at hl 0 rfl) ?_
  refine va_get (D := (dC, dI)) (ci := 15) (v := .int v0_152) (C := RX13) (T := TX13) (N := 196) hx hb hts iw_X13_way_X13 hown hK hP 0 rfl rfl 152 (by decide) (hts (.fieldLink RX13 909 "LiquidTongueModel" "ways" "I") (by decide +kernel)) (fun _ h9 => h9) hf0_152 dX13_way_5 ?_
  refine lv_iload_n hx hb dX13_way_8 rfl (lv_at hl 1 rfl) ?_
  refine va_iast hx hb hK hP hD hS 1 0 rfl rfl hi_0 dX13_way_9 (fun H locs hP hD hS => ?_)
  have hP : va_P (dC, dI) vwCl [(h0, .inr (15, fs0)), (v0_145, .inl (c_v0_145, 300, .inl (upd f_v0_145 (v0_152).toNatClampNeg p0))), (v0_146, .inl (c_v0_146, 300, .inl f_v0_146)), (v0_147, .inl (c_v0_147, 300, .inl f_v0_147)), (v0_148, .inl (c_v0_148, 300, .inl f_v0_148)), (v0_151, .inl (c_v0_151, 300, .inr (.inl f_v0_151)))] H := hP
  have hD : va_D A [(h0, .inr (15, fs0)), (v0_145, .inl (c_v0_145, 300, .inl (upd f_v0_145 (v0_152).toNatClampNeg p0))), (v0_146, .inl (c_v0_146, 300, .inl f_v0_146)), (v0_147, .inl (c_v0_147, 300, .inl f_v0_147)), (v0_148, .inl (c_v0_148, 300, .inl f_v0_148)), (v0_151, .inl (c_v0_151, 300, .inr (.inl f_v0_151)))] := hD
  refine lv_aload_n hx hb dX13_way_10 rfl (lv_at hl 0 rfl) ?_
  refine va_get (D := (dC, dI)) (ci := 15) (v := .ref v0_146) (C := RX13) (T := TX13) (N := 196) hx hb hts iw_X13_way_X13 hown hK hP 0 rfl rfl 146 (by decide) (hts (.fieldLink RX13 300 "LiquidTongueModel" "wayTa" "[I") (by decide +kernel)) (fun _ h9 => h9) hf0_146 dX13_way_11 ?_
  refine lv_aload_n hx hb dX13_way_14 rfl (lv_at hl 0 rfl) ?_
  refine va_get (D := (dC, dI)) (ci := 15) (v := .int v0_152) (C := RX13) (T := TX13) (N := 196) hx hb hts iw_X13_way_X13 hown hK hP 0 rfl rfl 152 (by decide) (hts (.fieldLink RX13 909 "LiquidTongueModel" "ways" "I") (by decide +kernel)) (fun _ h9 => h9) hf0_152 dX13_way_15 ?_
  refine lv_iload_n hx hb dX13_way_18 rfl (lv_at hl 2 rfl) ?_
  refine va_iast hx hb hK hP hD hS 2 1 rfl rfl hi_1 dX13_way_19 (fun H locs hP hD hS => ?_)
  have hP : va_P (dC, dI) vwCl [(h0, .inr (15, fs0)), (v0_145, .inl (c_v0_145, 300, .inl (upd f_v0_145 (v0_152).toNatClampNeg p0))), (v0_146, .inl (c_v0_146, 300, .inl (upd f_v0_146 (v0_152).toNatClampNeg p1))), (v0_147, .inl (c_v0_147, 300, .inl f_v0_147)), (v0_148, .inl (c_v0_148, 300, .inl f_v0_148)), (v0_151, .inl (c_v0_151, 300, .inr (.inl f_v0_151)))] H := hP
  have hD : va_D A [(h0, .inr (15, fs0)), (v0_145, .inl (c_v0_145, 300, .inl (upd f_v0_145 (v0_152).toNatClampNeg p0))), (v0_146, .inl (c_v0_146, 300, .inl (upd f_v0_146 (v0_152).toNatClampNeg p1))), (v0_147, .inl (c_v0_147, 300, .inl f_v0_147)), (v0_148, .inl (c_v0_148, 300, .inl f_v0_148)), (v0_151, .inl (c_v0_151, 300, .inr (.inl f_v0_151)))] := hD
  refine lv_aload_n hx hb dX13_way_20 rfl (lv_at hl 0 rfl) ?_
  refine va_get (D := (dC, dI)) (ci := 15) (v := .ref v0_147) (C := RX13) (T := TX13) (N := 196) hx hb hts iw_X13_way_X13 hown hK hP 0 rfl rfl 147 (by decide) (hts (.fieldLink RX13 303 "LiquidTongueModel" "wayB" "[I") (by decide +kernel)) (fun _ h9 => h9) hf0_147 dX13_way_21 ?_
  refine lv_aload_n hx hb dX13_way_24 rfl (lv_at hl 0 rfl) ?_
  refine va_get (D := (dC, dI)) (ci := 15) (v := .int v0_152) (C := RX13) (T := TX13) (N := 196) hx hb hts iw_X13_way_X13 hown hK hP 0 rfl rfl 152 (by decide) (hts (.fieldLink RX13 909 "LiquidTongueModel" "ways" "I") (by decide +kernel)) (fun _ h9 => h9) hf0_152 dX13_way_25 ?_
  refine lv_iload_n hx hb dX13_way_28 rfl (lv_at hl 3 rfl) ?_
  refine va_iast hx hb hK hP hD hS 3 2 rfl rfl hi_2 dX13_way_29 (fun H locs hP hD hS => ?_)
  have hP : va_P (dC, dI) vwCl [(h0, .inr (15, fs0)), (v0_145, .inl (c_v0_145, 300, .inl (upd f_v0_145 (v0_152).toNatClampNeg p0))), (v0_146, .inl (c_v0_146, 300, .inl (upd f_v0_146 (v0_152).toNatClampNeg p1))), (v0_147, .inl (c_v0_147, 300, .inl (upd f_v0_147 (v0_152).toNatClampNeg p2))), (v0_148, .inl (c_v0_148, 300, .inl f_v0_148)), (v0_151, .inl (c_v0_151, 300, .inr (.inl f_v0_151)))] H := hP
  have hD : va_D A [(h0, .inr (15, fs0)), (v0_145, .inl (c_v0_145, 300, .inl (upd f_v0_145 (v0_152).toNatClampNeg p0))), (v0_146, .inl (c_v0_146, 300, .inl (upd f_v0_146 (v0_152).toNatClampNeg p1))), (v0_147, .inl (c_v0_147, 300, .inl (upd f_v0_147 (v0_152).toNatClampNeg p2))), (v0_148, .inl (c_v0_148, 300, .inl f_v0_148)), (v0_151, .inl (c_v0_151, 300, .inr (.inl f_v0_151)))] := hD
  refine lv_aload_n hx hb dX13_way_30 rfl (lv_at hl 0 rfl) ?_
  refine va_get (D := (dC, dI)) (ci := 15) (v := .ref v0_148) (C := RX13) (T := TX13) (N := 196) hx hb hts iw_X13_way_X13 hown hK hP 0 rfl rfl 148 (by decide) (hts (.fieldLink RX13 306 "LiquidTongueModel" "wayTb" "[I") (by decide +kernel)) (fun _ h9 => h9) hf0_148 dX13_way_31 ?_
  refine lv_aload_n hx hb dX13_way_34 rfl (lv_at hl 0 rfl) ?_
  refine va_get (D := (dC, dI)) (ci := 15) (v := .int v0_152) (C := RX13) (T := TX13) (N := 196) hx hb hts iw_X13_way_X13 hown hK hP 0 rfl rfl 152 (by decide) (hts (.fieldLink RX13 909 "LiquidTongueModel" "ways" "I") (by decide +kernel)) (fun _ h9 => h9) hf0_152 dX13_way_35 ?_
  refine lv_iload hx hb dX13_way_38 (lv_at hl 4 rfl) ?_
  refine va_iast hx hb hK hP hD hS 4 3 rfl rfl hi_3 dX13_way_40 (fun H locs hP hD hS => ?_)
  have hP : va_P (dC, dI) vwCl [(h0, .inr (15, fs0)), (v0_145, .inl (c_v0_145, 300, .inl (upd f_v0_145 (v0_152).toNatClampNeg p0))), (v0_146, .inl (c_v0_146, 300, .inl (upd f_v0_146 (v0_152).toNatClampNeg p1))), (v0_147, .inl (c_v0_147, 300, .inl (upd f_v0_147 (v0_152).toNatClampNeg p2))), (v0_148, .inl (c_v0_148, 300, .inl (upd f_v0_148 (v0_152).toNatClampNeg p3))), (v0_151, .inl (c_v0_151, 300, .inr (.inl f_v0_151)))] H := hP
  have hD : va_D A [(h0, .inr (15, fs0)), (v0_145, .inl (c_v0_145, 300, .inl (upd f_v0_145 (v0_152).toNatClampNeg p0))), (v0_146, .inl (c_v0_146, 300, .inl (upd f_v0_146 (v0_152).toNatClampNeg p1))), (v0_147, .inl (c_v0_147, 300, .inl (upd f_v0_147 (v0_152).toNatClampNeg p2))), (v0_148, .inl (c_v0_148, 300, .inl (upd f_v0_148 (v0_152).toNatClampNeg p3))), (v0_151, .inl (c_v0_151, 300, .inr (.inl f_v0_151)))] := hD
  refine lv_aload_n hx hb dX13_way_41 rfl (lv_at hl 0 rfl) ?_
  refine va_get (D := (dC, dI)) (ci := 15) (v := .ref v0_151) (C := RX13) (T := TX13) (N := 196) hx hb hts iw_X13_way_X13 hown hK hP 0 rfl rfl 151 (by decide) (hts (.fieldLink RX13 315 "LiquidTongueModel" "wayNumber" "[J") (by decide +kernel)) (fun _ h9 => h9) hf0_151 dX13_way_42 ?_
  refine lv_aload_n hx hb dX13_way_45 rfl (lv_at hl 0 rfl) ?_
  refine va_get (D := (dC, dI)) (ci := 15) (v := .int v0_152) (C := RX13) (T := TX13) (N := 196) hx hb hts iw_X13_way_X13 hown hK hP 0 rfl rfl 152 (by decide) (hts (.fieldLink RX13 909 "LiquidTongueModel" "ways" "I") (by decide +kernel)) (fun _ h9 => h9) hf0_152 dX13_way_46 ?_
  refine lv_lload hx hb dX13_way_49 (lv_at hl 5 rfl) ?_
  refine va_last hx hb hK hP hD hS 5 4 rfl rfl hi_4 dX13_way_51 (fun H locs hP hD hS => ?_)
  have hP : va_P (dC, dI) vwCl [(h0, .inr (15, fs0)), (v0_145, .inl (c_v0_145, 300, .inl (upd f_v0_145 (v0_152).toNatClampNeg p0))), (v0_146, .inl (c_v0_146, 300, .inl (upd f_v0_146 (v0_152).toNatClampNeg p1))), (v0_147, .inl (c_v0_147, 300, .inl (upd f_v0_147 (v0_152).toNatClampNeg p2))), (v0_148, .inl (c_v0_148, 300, .inl (upd f_v0_148 (v0_152).toNatClampNeg p3))), (v0_151, .inl (c_v0_151, 300, .inr (.inl (vp_updL f_v0_151 (v0_152).toNatClampNeg p4))))] H := hP
  have hD : va_D A [(h0, .inr (15, fs0)), (v0_145, .inl (c_v0_145, 300, .inl (upd f_v0_145 (v0_152).toNatClampNeg p0))), (v0_146, .inl (c_v0_146, 300, .inl (upd f_v0_146 (v0_152).toNatClampNeg p1))), (v0_147, .inl (c_v0_147, 300, .inl (upd f_v0_147 (v0_152).toNatClampNeg p2))), (v0_148, .inl (c_v0_148, 300, .inl (upd f_v0_148 (v0_152).toNatClampNeg p3))), (v0_151, .inl (c_v0_151, 300, .inr (.inl (vp_updL f_v0_151 (v0_152).toNatClampNeg p4))))] := hD
  refine lv_aload_n hx hb dX13_way_52 rfl (lv_at hl 0 rfl) ?_
  refine lv_dup hx hb dX13_way_53 rfl ?_
  refine va_get (D := (dC, dI)) (ci := 15) (v := .int v0_152) (C := RX13) (T := TX13) (N := 196) hx hb hts iw_X13_way_X13 hown hK hP 0 rfl rfl 152 (by decide) (hts (.fieldLink RX13 909 "LiquidTongueModel" "ways" "I") (by decide +kernel)) (fun _ h9 => h9) hf0_152 dX13_way_54 ?_
  refine lv_iconst (v := 1) hx hb dX13_way_57 (by decide) ?_
  refine lv_iadd hx hb dX13_way_58 ?_
  refine va_put (D := (dC, dI)) (ci := 15) (v := .int (v0_152 + 1)) (ty := .int) (C := RX13) (T := TX13) (N := 196) hx hb hts iw_X13_way_X13 tyX13 tyX13_ok nmX13 hown hK hP hD hS 0 rfl rfl 152 (by decide) (hts (.fieldLink RX13 909 "LiquidTongueModel" "ways" "I") (by decide +kernel)) (fun _ h9 => h9) rfl (by decide +kernel) rfl rfl (zs_lt hl0 (by decide)) dX13_way_59 (fun H locs hP hD hS => ?_)
  have hP : va_P (dC, dI) vwCl [(h0, .inr (15, (fs0.set 152 (.int (v0_152 + 1))))), (v0_145, .inl (c_v0_145, 300, .inl (upd f_v0_145 (v0_152).toNatClampNeg p0))), (v0_146, .inl (c_v0_146, 300, .inl (upd f_v0_146 (v0_152).toNatClampNeg p1))), (v0_147, .inl (c_v0_147, 300, .inl (upd f_v0_147 (v0_152).toNatClampNeg p2))), (v0_148, .inl (c_v0_148, 300, .inl (upd f_v0_148 (v0_152).toNatClampNeg p3))), (v0_151, .inl (c_v0_151, 300, .inr (.inl (vp_updL f_v0_151 (v0_152).toNatClampNeg p4))))] H := hP
  have hD : va_D A [(h0, .inr (15, (fs0.set 152 (.int (v0_152 + 1))))), (v0_145, .inl (c_v0_145, 300, .inl (upd f_v0_145 (v0_152).toNatClampNeg p0))), (v0_146, .inl (c_v0_146, 300, .inl (upd f_v0_146 (v0_152).toNatClampNeg p1))), (v0_147, .inl (c_v0_147, 300, .inl (upd f_v0_147 (v0_152).toNatClampNeg p2))), (v0_148, .inl (c_v0_148, 300, .inl (upd f_v0_148 (v0_152).toNatClampNeg p3))), (v0_151, .inl (c_v0_151, 300, .inr (.inl (vp_updL f_v0_151 (v0_152).toNatClampNeg p4))))] := hD
  have hP9 := hP.sub (ws' := [(h0, .inr (15, (fs0.set 152 (.int (v0_152 + 1))))), (v0_145, .inl (c_v0_145, 300, .inl (upd f_v0_145 (v0_152).toNatClampNeg p0))), (v0_146, .inl (c_v0_146, 300, .inl (upd f_v0_146 (v0_152).toNatClampNeg p1))), (v0_147, .inl (c_v0_147, 300, .inl (upd f_v0_147 (v0_152).toNatClampNeg p2))), (v0_148, .inl (c_v0_148, 300, .inl (upd f_v0_148 (v0_152).toNatClampNeg p3))), (v0_151, .inl (c_v0_151, 300, .inr (.inl (vp_updL f_v0_151 (v0_152).toNatClampNeg p4))))]) [0, 1, 2, 3, 4, 5] rfl
  have hD9 := hD.sub (ws' := [(h0, .inr (15, (fs0.set 152 (.int (v0_152 + 1))))), (v0_145, .inl (c_v0_145, 300, .inl (upd f_v0_145 (v0_152).toNatClampNeg p0))), (v0_146, .inl (c_v0_146, 300, .inl (upd f_v0_146 (v0_152).toNatClampNeg p1))), (v0_147, .inl (c_v0_147, 300, .inl (upd f_v0_147 (v0_152).toNatClampNeg p2))), (v0_148, .inl (c_v0_148, 300, .inl (upd f_v0_148 (v0_152).toNatClampNeg p3))), (v0_151, .inl (c_v0_151, 300, .inr (.inl (vp_updL f_v0_151 (v0_152).toNatClampNeg p4))))]) [0, 1, 2, 3, 4, 5] (by decide) rfl
  have hK9 := hK.sub (tys' := [(c_v0_145, .int), (c_v0_146, .int), (c_v0_147, .int), (c_v0_148, .int), (c_v0_151, .long)]) [0, 1, 2, 3, 4] rfl
  exact W.vret hx hb hr (fun t ht hW => ⟨⟨(), rfl, trivial, (zB_mk (by rw [ht]; exact hP9) (va_K.moved hW.alike hK9) hD9)⟩, hS.F ht⟩) hS.2.2 dX13_way_62
theorem iw_X1_isDecided_X1 : ∀ w ∈ wsX10, w ∈ wsX1_isDecided := fun w h => List.mem_cons_of_mem _ (List.mem_append_left _ (List.mem_append_right _ h))
theorem iw_X1_isDecided_X2 : ∀ w ∈ wsX20, w ∈ wsX1_isDecided := fun w h => List.mem_cons_of_mem _ (List.mem_append_right _ h)
set_option maxHeartbeats 4000000 in
set_option maxRecDepth 100000 in
/-- X1_isDecided, a road -/
theorem c_X1_isDecided_r0 (l : Launch) (dC : Nat → ClassId) (dI : Nat → Nat → Nat) (sz : Nat) (h0 : Nat) (fs0 : List Value) (v0_8 : Nat) (fs1 : List Value) (v1_1 : Nat) (fs2 : List Value) (v2_7 : Int32) (hl0 : fs0.length = 10) (hf0_8 : fs0[8]? = some (.ref v0_8)) (hl1 : fs1.length = 15) (hf1_1 : fs1[1]? = some (.ref v1_1)) (hl2 : fs2.length = 15) (hf2_7 : fs2[7]? = some (.int v2_7)) (hc_0 : ¬ v2_7 = 0) : Met l yX1_isDecided wsX1_isDecided ({ frames := 0, cells := 0, slots := 0, locals := 0 }) (zPc dC dI sz [.ref h0] [(h0, .inr (3, fs0)), (v0_8, .inr (4, fs1)), (v1_1, .inr (4, fs2))] []) (va_Qi (fun (r : Int32) (_ : Unit) => r = 0) (zB dC dI (fun _ => []) (fun _ : Unit => [(h0, .inr (3, fs0)), (v0_8, .inr (4, fs1)), (v1_1, .inr (4, fs2))]) (va_A [(h0, .inr (3, fs0)), (v0_8, .inr (4, fs1)), (v1_1, .inr (4, fs2))] sz)) (va_A [(h0, .inr (3, fs0)), (v0_8, .inr (4, fs1)), (v1_1, .inr (4, fs2))] sz)) 0 0 (va_A [(h0, .inr (3, fs0)), (v0_8, .inr (4, fs1)), (v1_1, .inr (4, fs2))] sz) := by
  refine Met.ofW (cc := cX1_isDecided) (maxL := 1) (ret := (some .boolean)) (by decide) rfl ?_
  intro p e s m args below meth c s₁ B hml hv
  obtain ⟨rfl, hsz, hP, hK, hD0⟩ := hv
  have hx := B.exec
  have hb := B.bytes
  have hr := B.returns
  have hts := atoms_spec (ws := wsX1_isDecided) B.pre
  have hown : s.vm.findClass RX1 = some m.cls := findClass_of_methodNamed B.named
  have hlocks := B.notSynchronized
  subst hsz
  have hD := hD0.self (sz := s.heap.size)
  generalize hAe : va_A [(h0, .inr (3, fs0)), (v0_8, .inr (4, fs1)), (v1_1, .inr (4, fs2))] s.heap.size = A at hD ⊢
  have hA : ∀ q : Nat, s.heap.size ≤ q → A q := fun q h => by rw [← hAe]; exact Or.inr h
  have hS : va_S A s.heap s.heap [] := va_S.rf
  have hP : va_P (dC, dI) vwCl [(h0, .inr (3, fs0)), (v0_8, .inr (4, fs1)), (v1_1, .inr (4, fs2))] s.heap := hP
  have hl := lv_entry ([.ref h0]) (n := 1) (Nat.le_of_ble_eq_true rfl)
  rw [lg_entry_eq]
  generalize (lg_sl ([.ref h0]) ++ List.replicate (1 - (lg_sl ([.ref h0])).length) Slot.unset).toArray = ls at hl ⊢
  have hl : lv_has ls 1 [(0, .ref h0)] := hl
  refine lv_aload_n hx hb dX1_isDecided_0 rfl (lv_at hl 0 rfl) ?_
  refine va_get (D := (dC, dI)) (ci := 3) (v := .ref v0_8) (C := RX1) (T := TX1) (N := 10) hx hb hts iw_X1_isDecided_X1 hown hK hP 0 rfl rfl 8 (by decide) (hts (.fieldLink RX1 47 "LiquidTongue$Judge" "weakened" "LLiquidTongue$Known;") (by decide +kernel)) (fun _ h9 => h9) hf0_8 dX1_isDecided_1 ?_
  refine lv_ifnonnull (tgt := 14) hx hb dX1_isDecided_4 (by decide) ?_
  refine lv_aload_n hx hb dX1_isDecided_14 rfl (lv_at hl 0 rfl) ?_
  refine va_get (D := (dC, dI)) (ci := 3) (v := .ref v0_8) (C := RX1) (T := TX1) (N := 10) hx hb hts iw_X1_isDecided_X1 hown hK hP 0 rfl rfl 8 (by decide) (hts (.fieldLink RX1 47 "LiquidTongue$Judge" "weakened" "LLiquidTongue$Known;") (by decide +kernel)) (fun _ h9 => h9) hf0_8 dX1_isDecided_15 ?_
  refine va_get (D := (dC, dI)) (ci := 4) (v := .ref v1_1) (C := RX2) (T := TX2) (N := 15) hx hb hts iw_X1_isDecided_X2 hown hK hP 1 rfl rfl 1 (by decide) (hts (.fieldLink RX1 37 "LiquidTongue$Known" "origin" "LLiquidTongue$Known;") (by decide +kernel)) (fun _ h9 => h9) hf1_1 dX1_isDecided_18 ?_
  refine va_get (D := (dC, dI)) (ci := 4) (v := .int v2_7) (C := RX2) (T := TX2) (N := 15) hx hb hts iw_X1_isDecided_X2 hown hK hP 2 rfl rfl 7 (by decide) (hts (.fieldLink RX1 43 "LiquidTongue$Known" "count" "I") (by decide +kernel)) (fun _ h9 => h9) hf2_7 dX1_isDecided_21 ?_
  refine lv_if_ne (tgt := 31) hx hb dX1_isDecided_24 (by decide) (fun c_1 => ?_) (fun c_1 => absurd c_1 hc_0)
  refine lv_iconst (v := 0) hx hb dX1_isDecided_31 (by decide) ?_
  have hP9 := hP.sub (ws' := [(h0, .inr (3, fs0)), (v0_8, .inr (4, fs1)), (v1_1, .inr (4, fs2))]) [0, 1, 2] rfl
  have hD9 := hD.sub (ws' := [(h0, .inr (3, fs0)), (v0_8, .inr (4, fs1)), (v1_1, .inr (4, fs2))]) [0, 1, 2] (by decide) rfl
  have hK9 := hK.sub (tys' := []) [] rfl
  exact W.zret (v := 0) hx hb hr (by first | rfl | decide) (fun t ht hW => ⟨⟨0, (), rfl, rfl, (zB_mk (by rw [ht]; exact hP9) (va_K.moved hW.alike hK9) hD9)⟩, hS.F ht⟩) hS.2.2 dX1_isDecided_32
set_option maxHeartbeats 4000000 in
set_option maxRecDepth 100000 in
/-- X1_isDecided, a road -/
theorem c_X1_isDecided_r1 (l : Launch) (dC : Nat → ClassId) (dI : Nat → Nat → Nat) (sz : Nat) (h0 : Nat) (fs0 : List Value) (v0_8 : Nat) (fs1 : List Value) (v1_1 : Nat) (fs2 : List Value) (v2_7 : Int32) (hl0 : fs0.length = 10) (hf0_8 : fs0[8]? = some (.ref v0_8)) (hl1 : fs1.length = 15) (hf1_1 : fs1[1]? = some (.ref v1_1)) (hl2 : fs2.length = 15) (hf2_7 : fs2[7]? = some (.int v2_7)) (hc_0 : v2_7 = 0) : Met l yX1_isDecided wsX1_isDecided ({ frames := 0, cells := 0, slots := 0, locals := 0 }) (zPc dC dI sz [.ref h0] [(h0, .inr (3, fs0)), (v0_8, .inr (4, fs1)), (v1_1, .inr (4, fs2))] []) (va_Qi (fun (r : Int32) (_ : Unit) => r = 1) (zB dC dI (fun _ => []) (fun _ : Unit => [(h0, .inr (3, fs0)), (v0_8, .inr (4, fs1)), (v1_1, .inr (4, fs2))]) (va_A [(h0, .inr (3, fs0)), (v0_8, .inr (4, fs1)), (v1_1, .inr (4, fs2))] sz)) (va_A [(h0, .inr (3, fs0)), (v0_8, .inr (4, fs1)), (v1_1, .inr (4, fs2))] sz)) 0 0 (va_A [(h0, .inr (3, fs0)), (v0_8, .inr (4, fs1)), (v1_1, .inr (4, fs2))] sz) := by
  refine Met.ofW (cc := cX1_isDecided) (maxL := 1) (ret := (some .boolean)) (by decide) rfl ?_
  intro p e s m args below meth c s₁ B hml hv
  obtain ⟨rfl, hsz, hP, hK, hD0⟩ := hv
  have hx := B.exec
  have hb := B.bytes
  have hr := B.returns
  have hts := atoms_spec (ws := wsX1_isDecided) B.pre
  have hown : s.vm.findClass RX1 = some m.cls := findClass_of_methodNamed B.named
  have hlocks := B.notSynchronized
  subst hsz
  have hD := hD0.self (sz := s.heap.size)
  generalize hAe : va_A [(h0, .inr (3, fs0)), (v0_8, .inr (4, fs1)), (v1_1, .inr (4, fs2))] s.heap.size = A at hD ⊢
  have hA : ∀ q : Nat, s.heap.size ≤ q → A q := fun q h => by rw [← hAe]; exact Or.inr h
  have hS : va_S A s.heap s.heap [] := va_S.rf
  have hP : va_P (dC, dI) vwCl [(h0, .inr (3, fs0)), (v0_8, .inr (4, fs1)), (v1_1, .inr (4, fs2))] s.heap := hP
  have hl := lv_entry ([.ref h0]) (n := 1) (Nat.le_of_ble_eq_true rfl)
  rw [lg_entry_eq]
  generalize (lg_sl ([.ref h0]) ++ List.replicate (1 - (lg_sl ([.ref h0])).length) Slot.unset).toArray = ls at hl ⊢
  have hl : lv_has ls 1 [(0, .ref h0)] := hl
  refine lv_aload_n hx hb dX1_isDecided_0 rfl (lv_at hl 0 rfl) ?_
  refine va_get (D := (dC, dI)) (ci := 3) (v := .ref v0_8) (C := RX1) (T := TX1) (N := 10) hx hb hts iw_X1_isDecided_X1 hown hK hP 0 rfl rfl 8 (by decide) (hts (.fieldLink RX1 47 "LiquidTongue$Judge" "weakened" "LLiquidTongue$Known;") (by decide +kernel)) (fun _ h9 => h9) hf0_8 dX1_isDecided_1 ?_
  refine lv_ifnonnull (tgt := 14) hx hb dX1_isDecided_4 (by decide) ?_
  refine lv_aload_n hx hb dX1_isDecided_14 rfl (lv_at hl 0 rfl) ?_
  refine va_get (D := (dC, dI)) (ci := 3) (v := .ref v0_8) (C := RX1) (T := TX1) (N := 10) hx hb hts iw_X1_isDecided_X1 hown hK hP 0 rfl rfl 8 (by decide) (hts (.fieldLink RX1 47 "LiquidTongue$Judge" "weakened" "LLiquidTongue$Known;") (by decide +kernel)) (fun _ h9 => h9) hf0_8 dX1_isDecided_15 ?_
  refine va_get (D := (dC, dI)) (ci := 4) (v := .ref v1_1) (C := RX2) (T := TX2) (N := 15) hx hb hts iw_X1_isDecided_X2 hown hK hP 1 rfl rfl 1 (by decide) (hts (.fieldLink RX1 37 "LiquidTongue$Known" "origin" "LLiquidTongue$Known;") (by decide +kernel)) (fun _ h9 => h9) hf1_1 dX1_isDecided_18 ?_
  refine va_get (D := (dC, dI)) (ci := 4) (v := .int v2_7) (C := RX2) (T := TX2) (N := 15) hx hb hts iw_X1_isDecided_X2 hown hK hP 2 rfl rfl 7 (by decide) (hts (.fieldLink RX1 43 "LiquidTongue$Known" "count" "I") (by decide +kernel)) (fun _ h9 => h9) hf2_7 dX1_isDecided_21 ?_
  refine lv_if_ne (tgt := 31) hx hb dX1_isDecided_24 (by decide) (fun c_1 => absurd hc_0 c_1) (fun c_1 => ?_)
  refine lv_iconst (v := 1) hx hb dX1_isDecided_27 (by decide) ?_
  refine lv_goto (tgt := 32) hx hb dX1_isDecided_28 (by decide) ?_
  have hP9 := hP.sub (ws' := [(h0, .inr (3, fs0)), (v0_8, .inr (4, fs1)), (v1_1, .inr (4, fs2))]) [0, 1, 2] rfl
  have hD9 := hD.sub (ws' := [(h0, .inr (3, fs0)), (v0_8, .inr (4, fs1)), (v1_1, .inr (4, fs2))]) [0, 1, 2] (by decide) rfl
  have hK9 := hK.sub (tys' := []) [] rfl
  exact W.zret (v := 1) hx hb hr (by first | rfl | decide) (fun t ht hW => ⟨⟨1, (), rfl, rfl, (zB_mk (by rw [ht]; exact hP9) (va_K.moved hW.alike hK9) hD9)⟩, hS.F ht⟩) hS.2.2 dX1_isDecided_32
theorem iw_X1_side_X4 : ∀ w ∈ wsX40, w ∈ wsX1_side := fun w h => List.mem_cons_of_mem _ (List.mem_append_right _ h)
set_option maxHeartbeats 4000000 in
set_option maxRecDepth 100000 in
/-- X1_side, a road -/
theorem c_X1_side_r0 (l : Launch) (dC : Nat → ClassId) (dI : Nat → Nat → Nat) (sz : Nat) (p0 : Nat) (p1 : Int32) (fs0 : List Value) (v0_6 : Int32) (hl0 : fs0.length = 8) (hf0_6 : fs0[6]? = some (.int v0_6)) (hc_0 : p1 ≤ 0) : Met l yX1_side wsX1_side ({ frames := 0, cells := 0, slots := 0, locals := 0 }) (zPc dC dI sz [.ref p0, .int p1] [(p0, .inr (6, fs0))] []) (va_Qi (fun (r : Int32) (_ : Unit) => r = ((2 * v0_6) + 1)) (zB dC dI (fun _ => []) (fun _ : Unit => [(p0, .inr (6, fs0))]) (va_A [(p0, .inr (6, fs0))] sz)) (va_A [(p0, .inr (6, fs0))] sz)) 0 0 (va_A [(p0, .inr (6, fs0))] sz) := by
  refine Met.ofW (cc := cX1_side) (maxL := 2) (ret := (some .int)) (by decide) rfl ?_
  intro p e s m args below meth c s₁ B hml hv
  obtain ⟨rfl, hsz, hP, hK, hD0⟩ := hv
  have hx := B.exec
  have hb := B.bytes
  have hr := B.returns
  have hts := atoms_spec (ws := wsX1_side) B.pre
  have hown : s.vm.findClass RX1 = some m.cls := findClass_of_methodNamed B.named
  have hlocks := B.notSynchronized
  subst hsz
  have hD := hD0.self (sz := s.heap.size)
  generalize hAe : va_A [(p0, .inr (6, fs0))] s.heap.size = A at hD ⊢
  have hA : ∀ q : Nat, s.heap.size ≤ q → A q := fun q h => by rw [← hAe]; exact Or.inr h
  have hS : va_S A s.heap s.heap [] := va_S.rf
  have hP : va_P (dC, dI) vwCl [(p0, .inr (6, fs0))] s.heap := hP
  have hl := lv_entry ([.ref p0, .int p1]) (n := 2) (Nat.le_of_ble_eq_true rfl)
  rw [lg_entry_eq]
  generalize (lg_sl ([.ref p0, .int p1]) ++ List.replicate (2 - (lg_sl ([.ref p0, .int p1])).length) Slot.unset).toArray = ls at hl ⊢
  have hl : lv_has ls 2 [(0, .ref p0), (1, .int p1)] := hl
  refine lv_iconst (v := 2) hx hb dX1_side_0 (by decide) ?_
  refine lv_aload_n hx hb dX1_side_1 rfl (lv_at hl 0 rfl) ?_
  refine va_get (D := (dC, dI)) (ci := 6) (v := .int v0_6) (C := RX4) (T := TX4) (N := 8) hx hb hts iw_X1_side_X4 hown hK hP 0 rfl rfl 6 (by decide) (hts (.fieldLink RX1 118 "LiquidTongue$Name" "slot" "I") (by decide +kernel)) (fun _ h9 => h9) hf0_6 dX1_side_2 ?_
  refine lv_imul hx hb dX1_side_5 ?_
  refine lv_iload_n hx hb dX1_side_6 rfl (lv_at hl 1 rfl) ?_
  refine lv_if_le (tgt := 14) hx hb dX1_side_7 (by decide) (fun c_1 => ?_) (fun c_1 => absurd hc_0 c_1)
  refine lv_iconst (v := 1) hx hb dX1_side_14 (by decide) ?_
  refine lv_iadd hx hb dX1_side_15 ?_
  have hP9 := hP.sub (ws' := [(p0, .inr (6, fs0))]) [0] rfl
  have hD9 := hD.sub (ws' := [(p0, .inr (6, fs0))]) [0] (by decide) rfl
  have hK9 := hK.sub (tys' := []) [] rfl
  exact W.iret (v := ((2 * v0_6) + 1)) hx hb hr (fun t ht hW => ⟨⟨((2 * v0_6) + 1), (), rfl, rfl, (zB_mk (by rw [ht]; exact hP9) (va_K.moved hW.alike hK9) hD9)⟩, hS.F ht⟩) hS.2.2 dX1_side_16
set_option maxHeartbeats 4000000 in
set_option maxRecDepth 100000 in
/-- X1_side, a road -/
theorem c_X1_side_r1 (l : Launch) (dC : Nat → ClassId) (dI : Nat → Nat → Nat) (sz : Nat) (p0 : Nat) (p1 : Int32) (fs0 : List Value) (v0_6 : Int32) (hl0 : fs0.length = 8) (hf0_6 : fs0[6]? = some (.int v0_6)) (hc_0 : ¬ p1 ≤ 0) : Met l yX1_side wsX1_side ({ frames := 0, cells := 0, slots := 0, locals := 0 }) (zPc dC dI sz [.ref p0, .int p1] [(p0, .inr (6, fs0))] []) (va_Qi (fun (r : Int32) (_ : Unit) => r = ((2 * v0_6) + 0)) (zB dC dI (fun _ => []) (fun _ : Unit => [(p0, .inr (6, fs0))]) (va_A [(p0, .inr (6, fs0))] sz)) (va_A [(p0, .inr (6, fs0))] sz)) 0 0 (va_A [(p0, .inr (6, fs0))] sz) := by
  refine Met.ofW (cc := cX1_side) (maxL := 2) (ret := (some .int)) (by decide) rfl ?_
  intro p e s m args below meth c s₁ B hml hv
  obtain ⟨rfl, hsz, hP, hK, hD0⟩ := hv
  have hx := B.exec
  have hb := B.bytes
  have hr := B.returns
  have hts := atoms_spec (ws := wsX1_side) B.pre
  have hown : s.vm.findClass RX1 = some m.cls := findClass_of_methodNamed B.named
  have hlocks := B.notSynchronized
  subst hsz
  have hD := hD0.self (sz := s.heap.size)
  generalize hAe : va_A [(p0, .inr (6, fs0))] s.heap.size = A at hD ⊢
  have hA : ∀ q : Nat, s.heap.size ≤ q → A q := fun q h => by rw [← hAe]; exact Or.inr h
  have hS : va_S A s.heap s.heap [] := va_S.rf
  have hP : va_P (dC, dI) vwCl [(p0, .inr (6, fs0))] s.heap := hP
  have hl := lv_entry ([.ref p0, .int p1]) (n := 2) (Nat.le_of_ble_eq_true rfl)
  rw [lg_entry_eq]
  generalize (lg_sl ([.ref p0, .int p1]) ++ List.replicate (2 - (lg_sl ([.ref p0, .int p1])).length) Slot.unset).toArray = ls at hl ⊢
  have hl : lv_has ls 2 [(0, .ref p0), (1, .int p1)] := hl
  refine lv_iconst (v := 2) hx hb dX1_side_0 (by decide) ?_
  refine lv_aload_n hx hb dX1_side_1 rfl (lv_at hl 0 rfl) ?_
  refine va_get (D := (dC, dI)) (ci := 6) (v := .int v0_6) (C := RX4) (T := TX4) (N := 8) hx hb hts iw_X1_side_X4 hown hK hP 0 rfl rfl 6 (by decide) (hts (.fieldLink RX1 118 "LiquidTongue$Name" "slot" "I") (by decide +kernel)) (fun _ h9 => h9) hf0_6 dX1_side_2 ?_
  refine lv_imul hx hb dX1_side_5 ?_
  refine lv_iload_n hx hb dX1_side_6 rfl (lv_at hl 1 rfl) ?_
  refine lv_if_le (tgt := 14) hx hb dX1_side_7 (by decide) (fun c_1 => absurd c_1 hc_0) (fun c_1 => ?_)
  refine lv_iconst (v := 0) hx hb dX1_side_10 (by decide) ?_
  refine lv_goto (tgt := 15) hx hb dX1_side_11 (by decide) ?_
  refine lv_iadd hx hb dX1_side_15 ?_
  have hP9 := hP.sub (ws' := [(p0, .inr (6, fs0))]) [0] rfl
  have hD9 := hD.sub (ws' := [(p0, .inr (6, fs0))]) [0] (by decide) rfl
  have hK9 := hK.sub (tys' := []) [] rfl
  exact W.iret (v := ((2 * v0_6) + 0)) hx hb hr (fun t ht hW => ⟨⟨((2 * v0_6) + 0), (), rfl, rfl, (zB_mk (by rw [ht]; exact hP9) (va_K.moved hW.alike hK9) hD9)⟩, hS.F ht⟩) hS.2.2 dX1_side_16
theorem iw_X2_init_X2 : ∀ w ∈ wsX20, w ∈ wsX2_init := fun w h => List.mem_cons_of_mem _ (List.mem_append_right _ h)
set_option maxHeartbeats 4000000 in
set_option maxRecDepth 100000 in
/-- X2_init, a road -/
theorem c_X2_init_r0 (l : Launch) (dC : Nat → ClassId) (dI : Nat → Nat → Nat) (sz : Nat) (h0 : Nat) (fs0 : List Value) (p0 : Int32) (hl0 : fs0.length = 15) : Met l yX2_init wsX2_init ({ frames := 1, cells := 0, slots := 0, locals := 12 }) (zPc dC dI sz [.ref h0, .int p0] [(h0, .inr (4, fs0))] []) (va_Qv (fun _ : Unit => True) (zB dC dI (fun _ => []) (fun _ : Unit => [(h0, .inr (4, ((((fs0.set 0 (.int p0)).set 1 (.ref h0)).set 9 (.null)).set 10 (.null))))]) (va_A [(h0, .inr (4, fs0))] sz)) (va_A [(h0, .inr (4, fs0))] sz)) 0 0 (va_A [(h0, .inr (4, fs0))] sz) := by
  refine Met.ofW (cc := cX2_init) (maxL := 2) (ret := none) (by decide) rfl ?_
  intro p e s m args below meth c s₁ B hml hv
  obtain ⟨rfl, hsz, hP, hK, hD0⟩ := hv
  have hx := B.exec
  have hb := B.bytes
  have hr := B.returns
  have hts := atoms_spec (ws := wsX2_init) B.pre
  have hown : s.vm.findClass RX2 = some m.cls := findClass_of_methodNamed B.named
  have hlocks := B.notSynchronized
  have hin : meth.name = "<init>" := (name_of_methodNamed B.named B.method).1
  subst hsz
  have hD := hD0.self (sz := s.heap.size)
  generalize hAe : va_A [(h0, .inr (4, fs0))] s.heap.size = A at hD ⊢
  have hA : ∀ q : Nat, s.heap.size ≤ q → A q := fun q h => by rw [← hAe]; exact Or.inr h
  have hS : va_S A s.heap s.heap [] := va_S.rf
  have hP : va_P (dC, dI) vwCl [(h0, .inr (4, fs0))] s.heap := hP
  have hl := lv_entry ([.ref h0, .int p0]) (n := 2) (Nat.le_of_ble_eq_true rfl)
  rw [lg_entry_eq]
  generalize (lg_sl ([.ref h0, .int p0]) ++ List.replicate (2 - (lg_sl ([.ref h0, .int p0])).length) Slot.unset).toArray = ls at hl ⊢
  have hl : lv_has ls 2 [(0, .ref h0), (1, .int p0)] := hl
  refine lv_aload_n hx hb dX2_init_0 rfl (lv_at hl 0 rfl) ?_
  refine W.objInit hx hb hown (hts (.methodLink RX2 1 objectInit) (by decide +kernel)) (hts (.instanceMethod objectInit) (by decide +kernel)) (hts (.code objectInit ⟨#[0xb1]⟩ 1 none) (by decide +kernel)) rfl (by rw [hml]; exact hl.1) rfl dX2_init_1 (Nat.le_of_ble_eq_true rfl) (Nat.le_of_ble_eq_true rfl) ?_
  refine W.eq (g2 := F0 m 4 ls []) rfl ?_
  refine lv_aload_n hx hb dX2_init_4 rfl (lv_at hl 0 rfl) ?_
  refine lv_iload_n hx hb dX2_init_5 rfl (lv_at hl 1 rfl) ?_
  refine va_putF (D := (dC, dI)) (ci := 4) (v := .int p0) (ty := .int) (C := RX2) (T := TX2) (N := 15) hx hb hts iw_X2_init_X2 tyX2 tyX2_ok nmX2 hown hK hP hD hS 0 rfl rfl 0 (by decide) (hts (.fieldLink RX2 7 "LiquidTongue$Known" "kind" "I") (by decide +kernel)) (fun _ h9 => h9) rfl hin rfl (by decide +kernel) rfl rfl (zs_lt hl0 (by decide)) dX2_init_6 (fun H locs hP hD hS => ?_)
  have hP : va_P (dC, dI) vwCl [(h0, .inr (4, (fs0.set 0 (.int p0))))] H := hP
  have hD : va_D A [(h0, .inr (4, (fs0.set 0 (.int p0))))] := hD
  refine lv_aload_n hx hb dX2_init_9 rfl (lv_at hl 0 rfl) ?_
  refine lv_aload_n hx hb dX2_init_10 rfl (lv_at hl 0 rfl) ?_
  refine va_putF (D := (dC, dI)) (ci := 4) (v := .ref h0) (ty := .object "LiquidTongue$Known") (C := RX2) (T := TX2) (N := 15) hx hb hts iw_X2_init_X2 tyX2 tyX2_ok nmX2 hown hK hP hD hS 0 rfl rfl 1 (by decide) (hts (.fieldLink RX2 13 "LiquidTongue$Known" "origin" "LLiquidTongue$Known;") (by decide +kernel)) (fun _ h9 => h9) rfl hin rfl (by decide +kernel) rfl rfl (zs_lt (zs_len hl0) (by decide)) dX2_init_11 (fun H locs hP hD hS => ?_)
  have hP : va_P (dC, dI) vwCl [(h0, .inr (4, ((fs0.set 0 (.int p0)).set 1 (.ref h0))))] H := hP
  have hD : va_D A [(h0, .inr (4, ((fs0.set 0 (.int p0)).set 1 (.ref h0))))] := hD
  refine lv_aload_n hx hb dX2_init_14 rfl (lv_at hl 0 rfl) ?_
  refine lv_null hx hb dX2_init_15 ?_
  refine va_putF (D := (dC, dI)) (ci := 4) (v := .null) (ty := .array (.object "LiquidTongue$Name")) (C := RX2) (T := TX2) (N := 15) hx hb hts iw_X2_init_X2 tyX2 tyX2_ok nmX2 hown hK hP hD hS 0 rfl rfl 9 (by decide) (hts (.fieldLink RX2 17 "LiquidTongue$Known" "gone" "[LLiquidTongue$Name;") (by decide +kernel)) (fun _ h9 => h9) rfl hin rfl (by decide +kernel) rfl rfl (zs_lt (zs_len (zs_len hl0)) (by decide)) dX2_init_16 (fun H locs hP hD hS => ?_)
  have hP : va_P (dC, dI) vwCl [(h0, .inr (4, (((fs0.set 0 (.int p0)).set 1 (.ref h0)).set 9 (.null))))] H := hP
  have hD : va_D A [(h0, .inr (4, (((fs0.set 0 (.int p0)).set 1 (.ref h0)).set 9 (.null))))] := hD
  refine lv_aload_n hx hb dX2_init_19 rfl (lv_at hl 0 rfl) ?_
  refine lv_null hx hb dX2_init_20 ?_
  refine va_putF (D := (dC, dI)) (ci := 4) (v := .null) (ty := .array (.object "LiquidTongue$Sum")) (C := RX2) (T := TX2) (N := 15) hx hb hts iw_X2_init_X2 tyX2 tyX2_ok nmX2 hown hK hP hD hS 0 rfl rfl 10 (by decide) (hts (.fieldLink RX2 21 "LiquidTongue$Known" "instead" "[LLiquidTongue$Sum;") (by decide +kernel)) (fun _ h9 => h9) rfl hin rfl (by decide +kernel) rfl rfl (zs_lt (zs_len (zs_len (zs_len hl0))) (by decide)) dX2_init_21 (fun H locs hP hD hS => ?_)
  have hP : va_P (dC, dI) vwCl [(h0, .inr (4, ((((fs0.set 0 (.int p0)).set 1 (.ref h0)).set 9 (.null)).set 10 (.null))))] H := hP
  have hD : va_D A [(h0, .inr (4, ((((fs0.set 0 (.int p0)).set 1 (.ref h0)).set 9 (.null)).set 10 (.null))))] := hD
  have hP9 := hP.sub (ws' := [(h0, .inr (4, ((((fs0.set 0 (.int p0)).set 1 (.ref h0)).set 9 (.null)).set 10 (.null))))]) [0] rfl
  have hD9 := hD.sub (ws' := [(h0, .inr (4, ((((fs0.set 0 (.int p0)).set 1 (.ref h0)).set 9 (.null)).set 10 (.null))))]) [0] (by decide) rfl
  have hK9 := hK.sub (tys' := []) [] rfl
  exact W.vret hx hb hr (fun t ht hW => ⟨⟨(), rfl, trivial, (zB_mk (by rw [ht]; exact hP9) (va_K.moved hW.alike hK9) hD9)⟩, hS.F ht⟩) hS.2.2 dX2_init_24
theorem iw_X2_init__X2 : ∀ w ∈ wsX20, w ∈ wsX2_init_ := fun w h => List.mem_cons_of_mem _ (List.mem_append_right _ h)
set_option maxHeartbeats 4000000 in
set_option maxRecDepth 100000 in
/-- X2_init_, a road -/
theorem c_X2_init__r0 (l : Launch) (dC : Nat → ClassId) (dI : Nat → Nat → Nat) (sz : Nat) (h0 : Nat) (fs0 : List Value) (p0 : Nat) (p1 : Nat) (p2 : Nat) (fs1 : List Value) (v1_0 : Int32) (hl0 : fs0.length = 15) (hl1 : fs1.length = 15) (hf1_0 : fs1[0]? = some (.int v1_0)) : Met l yX2_init_ wsX2_init_ ({ frames := 1, cells := 0, slots := 0, locals := 12 }) (zPc dC dI sz [.ref h0, .ref p0, .ref p1, .ref p2] [(h0, .inr (4, fs0)), (p0, .inr (4, fs1))] []) (va_Qv (fun _ : Unit => True) (zB dC dI (fun _ => []) (fun _ : Unit => [(h0, .inr (4, ((((fs0.set 0 (.int v1_0)).set 1 (.ref p0)).set 9 (.ref p1)).set 10 (.ref p2)))), (p0, .inr (4, fs1))]) (va_A [(h0, .inr (4, fs0)), (p0, .inr (4, fs1))] sz)) (va_A [(h0, .inr (4, fs0)), (p0, .inr (4, fs1))] sz)) 0 0 (va_A [(h0, .inr (4, fs0)), (p0, .inr (4, fs1))] sz) := by
  refine Met.ofW (cc := cX2_init_) (maxL := 4) (ret := none) (by decide) rfl ?_
  intro p e s m args below meth c s₁ B hml hv
  obtain ⟨rfl, hsz, hP, hK, hD0⟩ := hv
  have hx := B.exec
  have hb := B.bytes
  have hr := B.returns
  have hts := atoms_spec (ws := wsX2_init_) B.pre
  have hown : s.vm.findClass RX2 = some m.cls := findClass_of_methodNamed B.named
  have hlocks := B.notSynchronized
  have hin : meth.name = "<init>" := (name_of_methodNamed B.named B.method).1
  subst hsz
  have hD := hD0.self (sz := s.heap.size)
  generalize hAe : va_A [(h0, .inr (4, fs0)), (p0, .inr (4, fs1))] s.heap.size = A at hD ⊢
  have hA : ∀ q : Nat, s.heap.size ≤ q → A q := fun q h => by rw [← hAe]; exact Or.inr h
  have hS : va_S A s.heap s.heap [] := va_S.rf
  have hP : va_P (dC, dI) vwCl [(h0, .inr (4, fs0)), (p0, .inr (4, fs1))] s.heap := hP
  have hl := lv_entry ([.ref h0, .ref p0, .ref p1, .ref p2]) (n := 4) (Nat.le_of_ble_eq_true rfl)
  rw [lg_entry_eq]
  generalize (lg_sl ([.ref h0, .ref p0, .ref p1, .ref p2]) ++ List.replicate (4 - (lg_sl ([.ref h0, .ref p0, .ref p1, .ref p2])).length) Slot.unset).toArray = ls at hl ⊢
  have hl : lv_has ls 4 [(0, .ref h0), (1, .ref p0), (2, .ref p1), (3, .ref p2)] := hl
  refine lv_aload_n hx hb dX2_init__0 rfl (lv_at hl 0 rfl) ?_
  refine W.objInit hx hb hown (hts (.methodLink RX2 1 objectInit) (by decide +kernel)) (hts (.instanceMethod objectInit) (by decide +kernel)) (hts (.code objectInit ⟨#[0xb1]⟩ 1 none) (by decide +kernel)) rfl (by rw [hml]; exact hl.1) rfl dX2_init__1 (Nat.le_of_ble_eq_true rfl) (Nat.le_of_ble_eq_true rfl) ?_
  refine W.eq (g2 := F0 m 4 ls []) rfl ?_
  refine lv_aload_n hx hb dX2_init__4 rfl (lv_at hl 0 rfl) ?_
  refine lv_aload_n hx hb dX2_init__5 rfl (lv_at hl 1 rfl) ?_
  refine va_get (D := (dC, dI)) (ci := 4) (v := .int v1_0) (C := RX2) (T := TX2) (N := 15) hx hb hts iw_X2_init__X2 hown hK hP 1 rfl rfl 0 (by decide) (hts (.fieldLink RX2 7 "LiquidTongue$Known" "kind" "I") (by decide +kernel)) (fun _ h9 => h9) hf1_0 dX2_init__6 ?_
  refine va_putF (D := (dC, dI)) (ci := 4) (v := .int v1_0) (ty := .int) (C := RX2) (T := TX2) (N := 15) hx hb hts iw_X2_init__X2 tyX2 tyX2_ok nmX2 hown hK hP hD hS 0 rfl rfl 0 (by decide) (hts (.fieldLink RX2 7 "LiquidTongue$Known" "kind" "I") (by decide +kernel)) (fun _ h9 => h9) rfl hin rfl (by decide +kernel) rfl rfl (zs_lt hl0 (by decide)) dX2_init__9 (fun H locs hP hD hS => ?_)
  have hP : va_P (dC, dI) vwCl [(h0, .inr (4, (fs0.set 0 (.int v1_0)))), (p0, .inr (4, fs1))] H := hP
  have hD : va_D A [(h0, .inr (4, (fs0.set 0 (.int v1_0)))), (p0, .inr (4, fs1))] := hD
  refine lv_aload_n hx hb dX2_init__12 rfl (lv_at hl 0 rfl) ?_
  refine lv_aload_n hx hb dX2_init__13 rfl (lv_at hl 1 rfl) ?_
  refine va_putF (D := (dC, dI)) (ci := 4) (v := .ref p0) (ty := .object "LiquidTongue$Known") (C := RX2) (T := TX2) (N := 15) hx hb hts iw_X2_init__X2 tyX2 tyX2_ok nmX2 hown hK hP hD hS 0 rfl rfl 1 (by decide) (hts (.fieldLink RX2 13 "LiquidTongue$Known" "origin" "LLiquidTongue$Known;") (by decide +kernel)) (fun _ h9 => h9) rfl hin rfl (by decide +kernel) rfl rfl (zs_lt (zs_len hl0) (by decide)) dX2_init__14 (fun H locs hP hD hS => ?_)
  have hP : va_P (dC, dI) vwCl [(h0, .inr (4, ((fs0.set 0 (.int v1_0)).set 1 (.ref p0)))), (p0, .inr (4, fs1))] H := hP
  have hD : va_D A [(h0, .inr (4, ((fs0.set 0 (.int v1_0)).set 1 (.ref p0)))), (p0, .inr (4, fs1))] := hD
  refine lv_aload_n hx hb dX2_init__17 rfl (lv_at hl 0 rfl) ?_
  refine lv_aload_n hx hb dX2_init__18 rfl (lv_at hl 2 rfl) ?_
  refine va_putF (D := (dC, dI)) (ci := 4) (v := .ref p1) (ty := .array (.object "LiquidTongue$Name")) (C := RX2) (T := TX2) (N := 15) hx hb hts iw_X2_init__X2 tyX2 tyX2_ok nmX2 hown hK hP hD hS 0 rfl rfl 9 (by decide) (hts (.fieldLink RX2 17 "LiquidTongue$Known" "gone" "[LLiquidTongue$Name;") (by decide +kernel)) (fun _ h9 => h9) rfl hin rfl (by decide +kernel) rfl rfl (zs_lt (zs_len (zs_len hl0)) (by decide)) dX2_init__19 (fun H locs hP hD hS => ?_)
  have hP : va_P (dC, dI) vwCl [(h0, .inr (4, (((fs0.set 0 (.int v1_0)).set 1 (.ref p0)).set 9 (.ref p1)))), (p0, .inr (4, fs1))] H := hP
  have hD : va_D A [(h0, .inr (4, (((fs0.set 0 (.int v1_0)).set 1 (.ref p0)).set 9 (.ref p1)))), (p0, .inr (4, fs1))] := hD
  refine lv_aload_n hx hb dX2_init__22 rfl (lv_at hl 0 rfl) ?_
  refine lv_aload_n hx hb dX2_init__23 rfl (lv_at hl 3 rfl) ?_
  refine va_putF (D := (dC, dI)) (ci := 4) (v := .ref p2) (ty := .array (.object "LiquidTongue$Sum")) (C := RX2) (T := TX2) (N := 15) hx hb hts iw_X2_init__X2 tyX2 tyX2_ok nmX2 hown hK hP hD hS 0 rfl rfl 10 (by decide) (hts (.fieldLink RX2 21 "LiquidTongue$Known" "instead" "[LLiquidTongue$Sum;") (by decide +kernel)) (fun _ h9 => h9) rfl hin rfl (by decide +kernel) rfl rfl (zs_lt (zs_len (zs_len (zs_len hl0))) (by decide)) dX2_init__24 (fun H locs hP hD hS => ?_)
  have hP : va_P (dC, dI) vwCl [(h0, .inr (4, ((((fs0.set 0 (.int v1_0)).set 1 (.ref p0)).set 9 (.ref p1)).set 10 (.ref p2)))), (p0, .inr (4, fs1))] H := hP
  have hD : va_D A [(h0, .inr (4, ((((fs0.set 0 (.int v1_0)).set 1 (.ref p0)).set 9 (.ref p1)).set 10 (.ref p2)))), (p0, .inr (4, fs1))] := hD
  have hP9 := hP.sub (ws' := [(h0, .inr (4, ((((fs0.set 0 (.int v1_0)).set 1 (.ref p0)).set 9 (.ref p1)).set 10 (.ref p2)))), (p0, .inr (4, fs1))]) [0, 1] rfl
  have hD9 := hD.sub (ws' := [(h0, .inr (4, ((((fs0.set 0 (.int v1_0)).set 1 (.ref p0)).set 9 (.ref p1)).set 10 (.ref p2)))), (p0, .inr (4, fs1))]) [0, 1] (by decide) rfl
  have hK9 := hK.sub (tys' := []) [] rfl
  exact W.vret hx hb hr (fun t ht hW => ⟨⟨(), rfl, trivial, (zB_mk (by rw [ht]; exact hP9) (va_K.moved hW.alike hK9) hD9)⟩, hS.F ht⟩) hS.2.2 dX2_init__27
theorem iw_X3_forget_X3 : ∀ w ∈ wsX30, w ∈ wsX3_forget := fun w h => List.mem_cons_of_mem _ (List.mem_append_right _ h)
set_option maxHeartbeats 4000000 in
set_option maxRecDepth 100000 in
/-- X3_forget, a road -/
theorem c_X3_forget_r0 (l : Launch) (dC : Nat → ClassId) (dI : Nat → Nat → Nat) (sz : Nat) (h0 : Nat) (fs0 : List Value) (hl0 : fs0.length = 18) : Met l yX3_forget wsX3_forget ({ frames := 0, cells := 0, slots := 0, locals := 0 }) (zPc dC dI sz [.ref h0] [(h0, .inr (5, fs0))] []) (va_Qv (fun _ : Unit => True) (zB dC dI (fun _ => []) (fun _ : Unit => [(h0, .inr (5, ((fs0.set 0 (.null)).set 16 (.long 0))))]) (va_A [(h0, .inr (5, fs0))] sz)) (va_A [(h0, .inr (5, fs0))] sz)) 0 0 (va_A [(h0, .inr (5, fs0))] sz) := by
  refine Met.ofW (cc := cX3_forget) (maxL := 1) (ret := none) (by decide) rfl ?_
  intro p e s m args below meth c s₁ B hml hv
  obtain ⟨rfl, hsz, hP, hK, hD0⟩ := hv
  have hx := B.exec
  have hb := B.bytes
  have hr := B.returns
  have hts := atoms_spec (ws := wsX3_forget) B.pre
  have hown : s.vm.findClass RX3 = some m.cls := findClass_of_methodNamed B.named
  have hlocks := B.notSynchronized
  subst hsz
  have hD := hD0.self (sz := s.heap.size)
  generalize hAe : va_A [(h0, .inr (5, fs0))] s.heap.size = A at hD ⊢
  have hA : ∀ q : Nat, s.heap.size ≤ q → A q := fun q h => by rw [← hAe]; exact Or.inr h
  have hS : va_S A s.heap s.heap [] := va_S.rf
  have hP : va_P (dC, dI) vwCl [(h0, .inr (5, fs0))] s.heap := hP
  have hl := lv_entry ([.ref h0]) (n := 1) (Nat.le_of_ble_eq_true rfl)
  rw [lg_entry_eq]
  generalize (lg_sl ([.ref h0]) ++ List.replicate (1 - (lg_sl ([.ref h0])).length) Slot.unset).toArray = ls at hl ⊢
  have hl : lv_has ls 1 [(0, .ref h0)] := hl
  refine lv_aload_n hx hb dX3_forget_0 rfl (lv_at hl 0 rfl) ?_
  refine lv_null hx hb dX3_forget_1 ?_
  refine va_put (D := (dC, dI)) (ci := 5) (v := .null) (ty := .object "LiquidTongue$Parser") (C := RX3) (T := TX3) (N := 18) hx hb hts iw_X3_forget_X3 tyX3 tyX3_ok nmX3 hown hK hP hD hS 0 rfl rfl 0 (by decide) (hts (.fieldLink RX3 36 "LiquidTongue$Machine" "program" "LLiquidTongue$Parser;") (by decide +kernel)) (fun _ h9 => h9) rfl (by decide +kernel) rfl rfl (zs_lt hl0 (by decide)) dX3_forget_2 (fun H locs hP hD hS => ?_)
  have hP : va_P (dC, dI) vwCl [(h0, .inr (5, (fs0.set 0 (.null))))] H := hP
  have hD : va_D A [(h0, .inr (5, (fs0.set 0 (.null))))] := hD
  refine lv_aload_n hx hb dX3_forget_5 rfl (lv_at hl 0 rfl) ?_
  refine lv_lconst (v := 0) hx hb dX3_forget_6 (by decide) ?_
  refine va_put (D := (dC, dI)) (ci := 5) (v := .long 0) (ty := .long) (C := RX3) (T := TX3) (N := 18) hx hb hts iw_X3_forget_X3 tyX3 tyX3_ok nmX3 hown hK hP hD hS 0 rfl rfl 16 (by decide) (hts (.fieldLink RX3 40 "LiquidTongue$Machine" "gave" "J") (by decide +kernel)) (fun _ h9 => h9) rfl (by decide +kernel) rfl rfl (zs_lt (zs_len hl0) (by decide)) dX3_forget_7 (fun H locs hP hD hS => ?_)
  have hP : va_P (dC, dI) vwCl [(h0, .inr (5, ((fs0.set 0 (.null)).set 16 (.long 0))))] H := hP
  have hD : va_D A [(h0, .inr (5, ((fs0.set 0 (.null)).set 16 (.long 0))))] := hD
  have hP9 := hP.sub (ws' := [(h0, .inr (5, ((fs0.set 0 (.null)).set 16 (.long 0))))]) [0] rfl
  have hD9 := hD.sub (ws' := [(h0, .inr (5, ((fs0.set 0 (.null)).set 16 (.long 0))))]) [0] (by decide) rfl
  have hK9 := hK.sub (tys' := []) [] rfl
  exact W.vret hx hb hr (fun t ht hW => ⟨⟨(), rfl, trivial, (zB_mk (by rw [ht]; exact hP9) (va_K.moved hW.alike hK9) hD9)⟩, hS.F ht⟩) hS.2.2 dX3_forget_10
theorem iw_X4_init_X4 : ∀ w ∈ wsX40, w ∈ wsX4_init := fun w h => List.mem_cons_of_mem _ (List.mem_append_right _ h)
set_option maxHeartbeats 4000000 in
set_option maxRecDepth 100000 in
/-- X4_init, a road -/
theorem c_X4_init_r0 (l : Launch) (dC : Nat → ClassId) (dI : Nat → Nat → Nat) (sz : Nat) (h0 : Nat) (fs0 : List Value) (p0 : Nat) (p1 : Int32) (hl0 : fs0.length = 8) : Met l yX4_init wsX4_init ({ frames := 1, cells := 0, slots := 0, locals := 12 }) (zPc dC dI sz [.ref h0, .ref p0, .int p1] [(h0, .inr (6, fs0))] []) (va_Qv (fun _ : Unit => True) (zB dC dI (fun _ => []) (fun _ : Unit => [(h0, .inr (6, ((fs0.set 0 (.ref p0)).set 3 (.int p1))))]) (va_A [(h0, .inr (6, fs0))] sz)) (va_A [(h0, .inr (6, fs0))] sz)) 0 0 (va_A [(h0, .inr (6, fs0))] sz) := by
  refine Met.ofW (cc := cX4_init) (maxL := 3) (ret := none) (by decide) rfl ?_
  intro p e s m args below meth c s₁ B hml hv
  obtain ⟨rfl, hsz, hP, hK, hD0⟩ := hv
  have hx := B.exec
  have hb := B.bytes
  have hr := B.returns
  have hts := atoms_spec (ws := wsX4_init) B.pre
  have hown : s.vm.findClass RX4 = some m.cls := findClass_of_methodNamed B.named
  have hlocks := B.notSynchronized
  have hin : meth.name = "<init>" := (name_of_methodNamed B.named B.method).1
  subst hsz
  have hD := hD0.self (sz := s.heap.size)
  generalize hAe : va_A [(h0, .inr (6, fs0))] s.heap.size = A at hD ⊢
  have hA : ∀ q : Nat, s.heap.size ≤ q → A q := fun q h => by rw [← hAe]; exact Or.inr h
  have hS : va_S A s.heap s.heap [] := va_S.rf
  have hP : va_P (dC, dI) vwCl [(h0, .inr (6, fs0))] s.heap := hP
  have hl := lv_entry ([.ref h0, .ref p0, .int p1]) (n := 3) (Nat.le_of_ble_eq_true rfl)
  rw [lg_entry_eq]
  generalize (lg_sl ([.ref h0, .ref p0, .int p1]) ++ List.replicate (3 - (lg_sl ([.ref h0, .ref p0, .int p1])).length) Slot.unset).toArray = ls at hl ⊢
  have hl : lv_has ls 3 [(0, .ref h0), (1, .ref p0), (2, .int p1)] := hl
  refine lv_aload_n hx hb dX4_init_0 rfl (lv_at hl 0 rfl) ?_
  refine W.objInit hx hb hown (hts (.methodLink RX4 3 objectInit) (by decide +kernel)) (hts (.instanceMethod objectInit) (by decide +kernel)) (hts (.code objectInit ⟨#[0xb1]⟩ 1 none) (by decide +kernel)) rfl (by rw [hml]; exact hl.1) rfl dX4_init_1 (Nat.le_of_ble_eq_true rfl) (Nat.le_of_ble_eq_true rfl) ?_
  refine W.eq (g2 := F0 m 4 ls []) rfl ?_
  refine lv_aload_n hx hb dX4_init_4 rfl (lv_at hl 0 rfl) ?_
  refine lv_aload_n hx hb dX4_init_5 rfl (lv_at hl 1 rfl) ?_
  refine va_putF (D := (dC, dI)) (ci := 6) (v := .ref p0) (ty := .object "java/lang/String") (C := RX4) (T := TX4) (N := 8) hx hb hts iw_X4_init_X4 tyX4 tyX4_ok nmX4 hown hK hP hD hS 0 rfl rfl 0 (by decide) (hts (.fieldLink RX4 9 "LiquidTongue$Name" "text" "Ljava/lang/String;") (by decide +kernel)) (fun _ h9 => h9) rfl hin rfl (by decide +kernel) rfl rfl (zs_lt hl0 (by decide)) dX4_init_6 (fun H locs hP hD hS => ?_)
  have hP : va_P (dC, dI) vwCl [(h0, .inr (6, (fs0.set 0 (.ref p0))))] H := hP
  have hD : va_D A [(h0, .inr (6, (fs0.set 0 (.ref p0))))] := hD
  refine lv_aload_n hx hb dX4_init_9 rfl (lv_at hl 0 rfl) ?_
  refine lv_iload_n hx hb dX4_init_10 rfl (lv_at hl 2 rfl) ?_
  refine va_put (D := (dC, dI)) (ci := 6) (v := .int p1) (ty := .int) (C := RX4) (T := TX4) (N := 8) hx hb hts iw_X4_init_X4 tyX4 tyX4_ok nmX4 hown hK hP hD hS 0 rfl rfl 3 (by decide) (hts (.fieldLink RX4 15 "LiquidTongue$Name" "base" "I") (by decide +kernel)) (fun _ h9 => h9) rfl (by decide +kernel) rfl rfl (zs_lt (zs_len hl0) (by decide)) dX4_init_11 (fun H locs hP hD hS => ?_)
  have hP : va_P (dC, dI) vwCl [(h0, .inr (6, ((fs0.set 0 (.ref p0)).set 3 (.int p1))))] H := hP
  have hD : va_D A [(h0, .inr (6, ((fs0.set 0 (.ref p0)).set 3 (.int p1))))] := hD
  have hP9 := hP.sub (ws' := [(h0, .inr (6, ((fs0.set 0 (.ref p0)).set 3 (.int p1))))]) [0] rfl
  have hD9 := hD.sub (ws' := [(h0, .inr (6, ((fs0.set 0 (.ref p0)).set 3 (.int p1))))]) [0] (by decide) rfl
  have hK9 := hK.sub (tys' := []) [] rfl
  exact W.vret hx hb hr (fun t ht hW => ⟨⟨(), rfl, trivial, (zB_mk (by rw [ht]; exact hP9) (va_K.moved hW.alike hK9) hD9)⟩, hS.F ht⟩) hS.2.2 dX4_init_14
theorem iw_X4_isMeasured_X4 : ∀ w ∈ wsX40, w ∈ wsX4_isMeasured := fun w h => List.mem_cons_of_mem _ (List.mem_append_right _ h)
set_option maxHeartbeats 4000000 in
set_option maxRecDepth 100000 in
/-- X4_isMeasured, a road -/
theorem c_X4_isMeasured_r0 (l : Launch) (dC : Nat → ClassId) (dI : Nat → Nat → Nat) (sz : Nat) (h0 : Nat) (fs0 : List Value) (v0_3 : Int32) (hl0 : fs0.length = 8) (hf0_3 : fs0[3]? = some (.int v0_3)) (hc_0 : v0_3 = 210) : Met l yX4_isMeasured wsX4_isMeasured ({ frames := 0, cells := 0, slots := 0, locals := 0 }) (zPc dC dI sz [.ref h0] [(h0, .inr (6, fs0))] []) (va_Qi (fun (r : Int32) (_ : Unit) => r = 1) (zB dC dI (fun _ => []) (fun _ : Unit => [(h0, .inr (6, fs0))]) (va_A [(h0, .inr (6, fs0))] sz)) (va_A [(h0, .inr (6, fs0))] sz)) 0 0 (va_A [(h0, .inr (6, fs0))] sz) := by
  refine Met.ofW (cc := cX4_isMeasured) (maxL := 1) (ret := (some .boolean)) (by decide) rfl ?_
  intro p e s m args below meth c s₁ B hml hv
  obtain ⟨rfl, hsz, hP, hK, hD0⟩ := hv
  have hx := B.exec
  have hb := B.bytes
  have hr := B.returns
  have hts := atoms_spec (ws := wsX4_isMeasured) B.pre
  have hown : s.vm.findClass RX4 = some m.cls := findClass_of_methodNamed B.named
  have hlocks := B.notSynchronized
  subst hsz
  have hD := hD0.self (sz := s.heap.size)
  generalize hAe : va_A [(h0, .inr (6, fs0))] s.heap.size = A at hD ⊢
  have hA : ∀ q : Nat, s.heap.size ≤ q → A q := fun q h => by rw [← hAe]; exact Or.inr h
  have hS : va_S A s.heap s.heap [] := va_S.rf
  have hP : va_P (dC, dI) vwCl [(h0, .inr (6, fs0))] s.heap := hP
  have hl := lv_entry ([.ref h0]) (n := 1) (Nat.le_of_ble_eq_true rfl)
  rw [lg_entry_eq]
  generalize (lg_sl ([.ref h0]) ++ List.replicate (1 - (lg_sl ([.ref h0])).length) Slot.unset).toArray = ls at hl ⊢
  have hl : lv_has ls 1 [(0, .ref h0)] := hl
  refine lv_aload_n hx hb dX4_isMeasured_0 rfl (lv_at hl 0 rfl) ?_
  refine va_get (D := (dC, dI)) (ci := 6) (v := .int v0_3) (C := RX4) (T := TX4) (N := 8) hx hb hts iw_X4_isMeasured_X4 hown hK hP 0 rfl rfl 3 (by decide) (hts (.fieldLink RX4 15 "LiquidTongue$Name" "base" "I") (by decide +kernel)) (fun _ h9 => h9) hf0_3 dX4_isMeasured_1 ?_
  refine lv_sipush (v := 210) hx hb dX4_isMeasured_4 (by decide) ?_
  refine lv_icmp_eq (tgt := 30) hx hb dX4_isMeasured_7 (by decide) (fun c_1 => ?_) (fun c_1 => absurd hc_0 c_1)
  refine lv_iconst (v := 1) hx hb dX4_isMeasured_30 (by decide) ?_
  refine lv_goto (tgt := 35) hx hb dX4_isMeasured_31 (by decide) ?_
  have hP9 := hP.sub (ws' := [(h0, .inr (6, fs0))]) [0] rfl
  have hD9 := hD.sub (ws' := [(h0, .inr (6, fs0))]) [0] (by decide) rfl
  have hK9 := hK.sub (tys' := []) [] rfl
  exact W.zret (v := 1) hx hb hr (by first | rfl | decide) (fun t ht hW => ⟨⟨1, (), rfl, rfl, (zB_mk (by rw [ht]; exact hP9) (va_K.moved hW.alike hK9) hD9)⟩, hS.F ht⟩) hS.2.2 dX4_isMeasured_35
set_option maxHeartbeats 4000000 in
set_option maxRecDepth 100000 in
/-- X4_isMeasured, a road -/
theorem c_X4_isMeasured_r1 (l : Launch) (dC : Nat → ClassId) (dI : Nat → Nat → Nat) (sz : Nat) (h0 : Nat) (fs0 : List Value) (v0_3 : Int32) (hl0 : fs0.length = 8) (hf0_3 : fs0[3]? = some (.int v0_3)) (hc_0 : ¬ v0_3 = 210) (hc_1 : v0_3 = 200) : Met l yX4_isMeasured wsX4_isMeasured ({ frames := 0, cells := 0, slots := 0, locals := 0 }) (zPc dC dI sz [.ref h0] [(h0, .inr (6, fs0))] []) (va_Qi (fun (r : Int32) (_ : Unit) => r = 1) (zB dC dI (fun _ => []) (fun _ : Unit => [(h0, .inr (6, fs0))]) (va_A [(h0, .inr (6, fs0))] sz)) (va_A [(h0, .inr (6, fs0))] sz)) 0 0 (va_A [(h0, .inr (6, fs0))] sz) := by
  refine Met.ofW (cc := cX4_isMeasured) (maxL := 1) (ret := (some .boolean)) (by decide) rfl ?_
  intro p e s m args below meth c s₁ B hml hv
  obtain ⟨rfl, hsz, hP, hK, hD0⟩ := hv
  have hx := B.exec
  have hb := B.bytes
  have hr := B.returns
  have hts := atoms_spec (ws := wsX4_isMeasured) B.pre
  have hown : s.vm.findClass RX4 = some m.cls := findClass_of_methodNamed B.named
  have hlocks := B.notSynchronized
  subst hsz
  have hD := hD0.self (sz := s.heap.size)
  generalize hAe : va_A [(h0, .inr (6, fs0))] s.heap.size = A at hD ⊢
  have hA : ∀ q : Nat, s.heap.size ≤ q → A q := fun q h => by rw [← hAe]; exact Or.inr h
  have hS : va_S A s.heap s.heap [] := va_S.rf
  have hP : va_P (dC, dI) vwCl [(h0, .inr (6, fs0))] s.heap := hP
  have hl := lv_entry ([.ref h0]) (n := 1) (Nat.le_of_ble_eq_true rfl)
  rw [lg_entry_eq]
  generalize (lg_sl ([.ref h0]) ++ List.replicate (1 - (lg_sl ([.ref h0])).length) Slot.unset).toArray = ls at hl ⊢
  have hl : lv_has ls 1 [(0, .ref h0)] := hl
  refine lv_aload_n hx hb dX4_isMeasured_0 rfl (lv_at hl 0 rfl) ?_
  refine va_get (D := (dC, dI)) (ci := 6) (v := .int v0_3) (C := RX4) (T := TX4) (N := 8) hx hb hts iw_X4_isMeasured_X4 hown hK hP 0 rfl rfl 3 (by decide) (hts (.fieldLink RX4 15 "LiquidTongue$Name" "base" "I") (by decide +kernel)) (fun _ h9 => h9) hf0_3 dX4_isMeasured_1 ?_
  refine lv_sipush (v := 210) hx hb dX4_isMeasured_4 (by decide) ?_
  refine lv_icmp_eq (tgt := 30) hx hb dX4_isMeasured_7 (by decide) (fun c_1 => absurd c_1 hc_0) (fun c_1 => ?_)
  refine lv_aload_n hx hb dX4_isMeasured_10 rfl (lv_at hl 0 rfl) ?_
  refine va_get (D := (dC, dI)) (ci := 6) (v := .int v0_3) (C := RX4) (T := TX4) (N := 8) hx hb hts iw_X4_isMeasured_X4 hown hK hP 0 rfl rfl 3 (by decide) (hts (.fieldLink RX4 15 "LiquidTongue$Name" "base" "I") (by decide +kernel)) (fun _ h9 => h9) hf0_3 dX4_isMeasured_11 ?_
  refine lv_sipush (v := 200) hx hb dX4_isMeasured_14 (by decide) ?_
  refine lv_icmp_eq (tgt := 30) hx hb dX4_isMeasured_17 (by decide) (fun c_2 => ?_) (fun c_2 => absurd hc_1 c_2)
  refine lv_iconst (v := 1) hx hb dX4_isMeasured_30 (by decide) ?_
  refine lv_goto (tgt := 35) hx hb dX4_isMeasured_31 (by decide) ?_
  have hP9 := hP.sub (ws' := [(h0, .inr (6, fs0))]) [0] rfl
  have hD9 := hD.sub (ws' := [(h0, .inr (6, fs0))]) [0] (by decide) rfl
  have hK9 := hK.sub (tys' := []) [] rfl
  exact W.zret (v := 1) hx hb hr (by first | rfl | decide) (fun t ht hW => ⟨⟨1, (), rfl, rfl, (zB_mk (by rw [ht]; exact hP9) (va_K.moved hW.alike hK9) hD9)⟩, hS.F ht⟩) hS.2.2 dX4_isMeasured_35
set_option maxHeartbeats 4000000 in
set_option maxRecDepth 100000 in
/-- X4_isMeasured, a road -/
theorem c_X4_isMeasured_r2 (l : Launch) (dC : Nat → ClassId) (dI : Nat → Nat → Nat) (sz : Nat) (h0 : Nat) (fs0 : List Value) (v0_3 : Int32) (hl0 : fs0.length = 8) (hf0_3 : fs0[3]? = some (.int v0_3)) (hc_0 : ¬ v0_3 = 210) (hc_1 : ¬ v0_3 = 200) (hc_2 : ¬ v0_3 = 213) : Met l yX4_isMeasured wsX4_isMeasured ({ frames := 0, cells := 0, slots := 0, locals := 0 }) (zPc dC dI sz [.ref h0] [(h0, .inr (6, fs0))] []) (va_Qi (fun (r : Int32) (_ : Unit) => r = 0) (zB dC dI (fun _ => []) (fun _ : Unit => [(h0, .inr (6, fs0))]) (va_A [(h0, .inr (6, fs0))] sz)) (va_A [(h0, .inr (6, fs0))] sz)) 0 0 (va_A [(h0, .inr (6, fs0))] sz) := by
  refine Met.ofW (cc := cX4_isMeasured) (maxL := 1) (ret := (some .boolean)) (by decide) rfl ?_
  intro p e s m args below meth c s₁ B hml hv
  obtain ⟨rfl, hsz, hP, hK, hD0⟩ := hv
  have hx := B.exec
  have hb := B.bytes
  have hr := B.returns
  have hts := atoms_spec (ws := wsX4_isMeasured) B.pre
  have hown : s.vm.findClass RX4 = some m.cls := findClass_of_methodNamed B.named
  have hlocks := B.notSynchronized
  subst hsz
  have hD := hD0.self (sz := s.heap.size)
  generalize hAe : va_A [(h0, .inr (6, fs0))] s.heap.size = A at hD ⊢
  have hA : ∀ q : Nat, s.heap.size ≤ q → A q := fun q h => by rw [← hAe]; exact Or.inr h
  have hS : va_S A s.heap s.heap [] := va_S.rf
  have hP : va_P (dC, dI) vwCl [(h0, .inr (6, fs0))] s.heap := hP
  have hl := lv_entry ([.ref h0]) (n := 1) (Nat.le_of_ble_eq_true rfl)
  rw [lg_entry_eq]
  generalize (lg_sl ([.ref h0]) ++ List.replicate (1 - (lg_sl ([.ref h0])).length) Slot.unset).toArray = ls at hl ⊢
  have hl : lv_has ls 1 [(0, .ref h0)] := hl
  refine lv_aload_n hx hb dX4_isMeasured_0 rfl (lv_at hl 0 rfl) ?_
  refine va_get (D := (dC, dI)) (ci := 6) (v := .int v0_3) (C := RX4) (T := TX4) (N := 8) hx hb hts iw_X4_isMeasured_X4 hown hK hP 0 rfl rfl 3 (by decide) (hts (.fieldLink RX4 15 "LiquidTongue$Name" "base" "I") (by decide +kernel)) (fun _ h9 => h9) hf0_3 dX4_isMeasured_1 ?_
  refine lv_sipush (v := 210) hx hb dX4_isMeasured_4 (by decide) ?_
  refine lv_icmp_eq (tgt := 30) hx hb dX4_isMeasured_7 (by decide) (fun c_1 => absurd c_1 hc_0) (fun c_1 => ?_)
  refine lv_aload_n hx hb dX4_isMeasured_10 rfl (lv_at hl 0 rfl) ?_
  refine va_get (D := (dC, dI)) (ci := 6) (v := .int v0_3) (C := RX4) (T := TX4) (N := 8) hx hb hts iw_X4_isMeasured_X4 hown hK hP 0 rfl rfl 3 (by decide) (hts (.fieldLink RX4 15 "LiquidTongue$Name" "base" "I") (by decide +kernel)) (fun _ h9 => h9) hf0_3 dX4_isMeasured_11 ?_
  refine lv_sipush (v := 200) hx hb dX4_isMeasured_14 (by decide) ?_
  refine lv_icmp_eq (tgt := 30) hx hb dX4_isMeasured_17 (by decide) (fun c_2 => absurd c_2 hc_1) (fun c_2 => ?_)
  refine lv_aload_n hx hb dX4_isMeasured_20 rfl (lv_at hl 0 rfl) ?_
  refine va_get (D := (dC, dI)) (ci := 6) (v := .int v0_3) (C := RX4) (T := TX4) (N := 8) hx hb hts iw_X4_isMeasured_X4 hown hK hP 0 rfl rfl 3 (by decide) (hts (.fieldLink RX4 15 "LiquidTongue$Name" "base" "I") (by decide +kernel)) (fun _ h9 => h9) hf0_3 dX4_isMeasured_21 ?_
  refine lv_sipush (v := 213) hx hb dX4_isMeasured_24 (by decide) ?_
  refine lv_icmp_ne (tgt := 34) hx hb dX4_isMeasured_27 (by decide) (fun c_3 => ?_) (fun c_3 => absurd c_3 hc_2)
  refine lv_iconst (v := 0) hx hb dX4_isMeasured_34 (by decide) ?_
  have hP9 := hP.sub (ws' := [(h0, .inr (6, fs0))]) [0] rfl
  have hD9 := hD.sub (ws' := [(h0, .inr (6, fs0))]) [0] (by decide) rfl
  have hK9 := hK.sub (tys' := []) [] rfl
  exact W.zret (v := 0) hx hb hr (by first | rfl | decide) (fun t ht hW => ⟨⟨0, (), rfl, rfl, (zB_mk (by rw [ht]; exact hP9) (va_K.moved hW.alike hK9) hD9)⟩, hS.F ht⟩) hS.2.2 dX4_isMeasured_35
set_option maxHeartbeats 4000000 in
set_option maxRecDepth 100000 in
/-- X4_isMeasured, a road -/
theorem c_X4_isMeasured_r3 (l : Launch) (dC : Nat → ClassId) (dI : Nat → Nat → Nat) (sz : Nat) (h0 : Nat) (fs0 : List Value) (v0_3 : Int32) (hl0 : fs0.length = 8) (hf0_3 : fs0[3]? = some (.int v0_3)) (hc_0 : ¬ v0_3 = 210) (hc_1 : ¬ v0_3 = 200) (hc_2 : v0_3 = 213) : Met l yX4_isMeasured wsX4_isMeasured ({ frames := 0, cells := 0, slots := 0, locals := 0 }) (zPc dC dI sz [.ref h0] [(h0, .inr (6, fs0))] []) (va_Qi (fun (r : Int32) (_ : Unit) => r = 1) (zB dC dI (fun _ => []) (fun _ : Unit => [(h0, .inr (6, fs0))]) (va_A [(h0, .inr (6, fs0))] sz)) (va_A [(h0, .inr (6, fs0))] sz)) 0 0 (va_A [(h0, .inr (6, fs0))] sz) := by
  refine Met.ofW (cc := cX4_isMeasured) (maxL := 1) (ret := (some .boolean)) (by decide) rfl ?_
  intro p e s m args below meth c s₁ B hml hv
  obtain ⟨rfl, hsz, hP, hK, hD0⟩ := hv
  have hx := B.exec
  have hb := B.bytes
  have hr := B.returns
  have hts := atoms_spec (ws := wsX4_isMeasured) B.pre
  have hown : s.vm.findClass RX4 = some m.cls := findClass_of_methodNamed B.named
  have hlocks := B.notSynchronized
  subst hsz
  have hD := hD0.self (sz := s.heap.size)
  generalize hAe : va_A [(h0, .inr (6, fs0))] s.heap.size = A at hD ⊢
  have hA : ∀ q : Nat, s.heap.size ≤ q → A q := fun q h => by rw [← hAe]; exact Or.inr h
  have hS : va_S A s.heap s.heap [] := va_S.rf
  have hP : va_P (dC, dI) vwCl [(h0, .inr (6, fs0))] s.heap := hP
  have hl := lv_entry ([.ref h0]) (n := 1) (Nat.le_of_ble_eq_true rfl)
  rw [lg_entry_eq]
  generalize (lg_sl ([.ref h0]) ++ List.replicate (1 - (lg_sl ([.ref h0])).length) Slot.unset).toArray = ls at hl ⊢
  have hl : lv_has ls 1 [(0, .ref h0)] := hl
  refine lv_aload_n hx hb dX4_isMeasured_0 rfl (lv_at hl 0 rfl) ?_
  refine va_get (D := (dC, dI)) (ci := 6) (v := .int v0_3) (C := RX4) (T := TX4) (N := 8) hx hb hts iw_X4_isMeasured_X4 hown hK hP 0 rfl rfl 3 (by decide) (hts (.fieldLink RX4 15 "LiquidTongue$Name" "base" "I") (by decide +kernel)) (fun _ h9 => h9) hf0_3 dX4_isMeasured_1 ?_
  refine lv_sipush (v := 210) hx hb dX4_isMeasured_4 (by decide) ?_
  refine lv_icmp_eq (tgt := 30) hx hb dX4_isMeasured_7 (by decide) (fun c_1 => absurd c_1 hc_0) (fun c_1 => ?_)
  refine lv_aload_n hx hb dX4_isMeasured_10 rfl (lv_at hl 0 rfl) ?_
  refine va_get (D := (dC, dI)) (ci := 6) (v := .int v0_3) (C := RX4) (T := TX4) (N := 8) hx hb hts iw_X4_isMeasured_X4 hown hK hP 0 rfl rfl 3 (by decide) (hts (.fieldLink RX4 15 "LiquidTongue$Name" "base" "I") (by decide +kernel)) (fun _ h9 => h9) hf0_3 dX4_isMeasured_11 ?_
  refine lv_sipush (v := 200) hx hb dX4_isMeasured_14 (by decide) ?_
  refine lv_icmp_eq (tgt := 30) hx hb dX4_isMeasured_17 (by decide) (fun c_2 => absurd c_2 hc_1) (fun c_2 => ?_)
  refine lv_aload_n hx hb dX4_isMeasured_20 rfl (lv_at hl 0 rfl) ?_
  refine va_get (D := (dC, dI)) (ci := 6) (v := .int v0_3) (C := RX4) (T := TX4) (N := 8) hx hb hts iw_X4_isMeasured_X4 hown hK hP 0 rfl rfl 3 (by decide) (hts (.fieldLink RX4 15 "LiquidTongue$Name" "base" "I") (by decide +kernel)) (fun _ h9 => h9) hf0_3 dX4_isMeasured_21 ?_
  refine lv_sipush (v := 213) hx hb dX4_isMeasured_24 (by decide) ?_
  refine lv_icmp_ne (tgt := 34) hx hb dX4_isMeasured_27 (by decide) (fun c_3 => absurd hc_2 c_3) (fun c_3 => ?_)
  refine lv_iconst (v := 1) hx hb dX4_isMeasured_30 (by decide) ?_
  refine lv_goto (tgt := 35) hx hb dX4_isMeasured_31 (by decide) ?_
  have hP9 := hP.sub (ws' := [(h0, .inr (6, fs0))]) [0] rfl
  have hD9 := hD.sub (ws' := [(h0, .inr (6, fs0))]) [0] (by decide) rfl
  have hK9 := hK.sub (tys' := []) [] rfl
  exact W.zret (v := 1) hx hb hr (by first | rfl | decide) (fun t ht hW => ⟨⟨1, (), rfl, rfl, (zB_mk (by rw [ht]; exact hP9) (va_K.moved hW.alike hK9) hD9)⟩, hS.F ht⟩) hS.2.2 dX4_isMeasured_35
theorem iw_X5_init_X5 : ∀ w ∈ wsX50, w ∈ wsX5_init := fun w h => List.mem_cons_of_mem _ (List.mem_append_right _ h)
set_option maxHeartbeats 4000000 in
set_option maxRecDepth 100000 in
/-- X5_init, a road -/
theorem c_X5_init_r0 (l : Launch) (dC : Nat → ClassId) (dI : Nat → Nat → Nat) (sz : Nat) (h0 : Nat) (fs0 : List Value) (p0 : Int32) (p1 : Int32) (p2 : Int32) (hl0 : fs0.length = 21) : Met l yX5_init wsX5_init ({ frames := 1, cells := 0, slots := 0, locals := 12 }) (zPc dC dI sz [.ref h0, .int p0, .int p1, .int p2] [(h0, .inr (7, fs0))] []) (va_Qv (fun _ : Unit => True) (zB dC dI (fun _ => []) (fun _ : Unit => [(h0, .inr (7, ((((fs0.set 0 (.int p0)).set 1 (.int p1)).set 2 (.int p2)).set 3 (.int p1))))]) (va_A [(h0, .inr (7, fs0))] sz)) (va_A [(h0, .inr (7, fs0))] sz)) 0 0 (va_A [(h0, .inr (7, fs0))] sz) := by
  refine Met.ofW (cc := cX5_init) (maxL := 4) (ret := none) (by decide) rfl ?_
  intro p e s m args below meth c s₁ B hml hv
  obtain ⟨rfl, hsz, hP, hK, hD0⟩ := hv
  have hx := B.exec
  have hb := B.bytes
  have hr := B.returns
  have hts := atoms_spec (ws := wsX5_init) B.pre
  have hown : s.vm.findClass RX5 = some m.cls := findClass_of_methodNamed B.named
  have hlocks := B.notSynchronized
  have hin : meth.name = "<init>" := (name_of_methodNamed B.named B.method).1
  subst hsz
  have hD := hD0.self (sz := s.heap.size)
  generalize hAe : va_A [(h0, .inr (7, fs0))] s.heap.size = A at hD ⊢
  have hA : ∀ q : Nat, s.heap.size ≤ q → A q := fun q h => by rw [← hAe]; exact Or.inr h
  have hS : va_S A s.heap s.heap [] := va_S.rf
  have hP : va_P (dC, dI) vwCl [(h0, .inr (7, fs0))] s.heap := hP
  have hl := lv_entry ([.ref h0, .int p0, .int p1, .int p2]) (n := 4) (Nat.le_of_ble_eq_true rfl)
  rw [lg_entry_eq]
  generalize (lg_sl ([.ref h0, .int p0, .int p1, .int p2]) ++ List.replicate (4 - (lg_sl ([.ref h0, .int p0, .int p1, .int p2])).length) Slot.unset).toArray = ls at hl ⊢
  have hl : lv_has ls 4 [(0, .ref h0), (1, .int p0), (2, .int p1), (3, .int p2)] := hl
  refine lv_aload_n hx hb dX5_init_0 rfl (lv_at hl 0 rfl) ?_
  refine W.objInit hx hb hown (hts (.methodLink RX5 1 objectInit) (by decide +kernel)) (hts (.instanceMethod objectInit) (by decide +kernel)) (hts (.code objectInit ⟨#[0xb1]⟩ 1 none) (by decide +kernel)) rfl (by rw [hml]; exact hl.1) rfl dX5_init_1 (Nat.le_of_ble_eq_true rfl) (Nat.le_of_ble_eq_true rfl) ?_
  refine W.eq (g2 := F0 m 4 ls []) rfl ?_
  refine lv_aload_n hx hb dX5_init_4 rfl (lv_at hl 0 rfl) ?_
  refine lv_iload_n hx hb dX5_init_5 rfl (lv_at hl 1 rfl) ?_
  refine va_put (D := (dC, dI)) (ci := 7) (v := .int p0) (ty := .int) (C := RX5) (T := TX5) (N := 21) hx hb hts iw_X5_init_X5 tyX5 tyX5_ok nmX5 hown hK hP hD hS 0 rfl rfl 0 (by decide) (hts (.fieldLink RX5 7 "LiquidTongue$Node" "kind" "I") (by decide +kernel)) (fun _ h9 => h9) rfl (by decide +kernel) rfl rfl (zs_lt hl0 (by decide)) dX5_init_6 (fun H locs hP hD hS => ?_)
  have hP : va_P (dC, dI) vwCl [(h0, .inr (7, (fs0.set 0 (.int p0))))] H := hP
  have hD : va_D A [(h0, .inr (7, (fs0.set 0 (.int p0))))] := hD
  refine lv_aload_n hx hb dX5_init_9 rfl (lv_at hl 0 rfl) ?_
  refine lv_iload_n hx hb dX5_init_10 rfl (lv_at hl 2 rfl) ?_
  refine va_put (D := (dC, dI)) (ci := 7) (v := .int p1) (ty := .int) (C := RX5) (T := TX5) (N := 21) hx hb hts iw_X5_init_X5 tyX5 tyX5_ok nmX5 hown hK hP hD hS 0 rfl rfl 1 (by decide) (hts (.fieldLink RX5 13 "LiquidTongue$Node" "place" "I") (by decide +kernel)) (fun _ h9 => h9) rfl (by decide +kernel) rfl rfl (zs_lt (zs_len hl0) (by decide)) dX5_init_11 (fun H locs hP hD hS => ?_)
  have hP : va_P (dC, dI) vwCl [(h0, .inr (7, ((fs0.set 0 (.int p0)).set 1 (.int p1))))] H := hP
  have hD : va_D A [(h0, .inr (7, ((fs0.set 0 (.int p0)).set 1 (.int p1))))] := hD
  refine lv_aload_n hx hb dX5_init_14 rfl (lv_at hl 0 rfl) ?_
  refine lv_iload_n hx hb dX5_init_15 rfl (lv_at hl 3 rfl) ?_
  refine va_putF (D := (dC, dI)) (ci := 7) (v := .int p2) (ty := .int) (C := RX5) (T := TX5) (N := 21) hx hb hts iw_X5_init_X5 tyX5 tyX5_ok nmX5 hown hK hP hD hS 0 rfl rfl 2 (by decide) (hts (.fieldLink RX5 16 "LiquidTongue$Node" "counted" "I") (by decide +kernel)) (fun _ h9 => h9) rfl hin rfl (by decide +kernel) rfl rfl (zs_lt (zs_len (zs_len hl0)) (by decide)) dX5_init_16 (fun H locs hP hD hS => ?_)
  have hP : va_P (dC, dI) vwCl [(h0, .inr (7, (((fs0.set 0 (.int p0)).set 1 (.int p1)).set 2 (.int p2))))] H := hP
  have hD : va_D A [(h0, .inr (7, (((fs0.set 0 (.int p0)).set 1 (.int p1)).set 2 (.int p2))))] := hD
  refine lv_aload_n hx hb dX5_init_19 rfl (lv_at hl 0 rfl) ?_
  refine lv_iload_n hx hb dX5_init_20 rfl (lv_at hl 2 rfl) ?_
  refine va_put (D := (dC, dI)) (ci := 7) (v := .int p1) (ty := .int) (C := RX5) (T := TX5) (N := 21) hx hb hts iw_X5_init_X5 tyX5 tyX5_ok nmX5 hown hK hP hD hS 0 rfl rfl 3 (by decide) (hts (.fieldLink RX5 19 "LiquidTongue$Node" "mark" "I") (by decide +kernel)) (fun _ h9 => h9) rfl (by decide +kernel) rfl rfl (zs_lt (zs_len (zs_len (zs_len hl0))) (by decide)) dX5_init_21 (fun H locs hP hD hS => ?_)
  have hP : va_P (dC, dI) vwCl [(h0, .inr (7, ((((fs0.set 0 (.int p0)).set 1 (.int p1)).set 2 (.int p2)).set 3 (.int p1))))] H := hP
  have hD : va_D A [(h0, .inr (7, ((((fs0.set 0 (.int p0)).set 1 (.int p1)).set 2 (.int p2)).set 3 (.int p1))))] := hD
  have hP9 := hP.sub (ws' := [(h0, .inr (7, ((((fs0.set 0 (.int p0)).set 1 (.int p1)).set 2 (.int p2)).set 3 (.int p1))))]) [0] rfl
  have hD9 := hD.sub (ws' := [(h0, .inr (7, ((((fs0.set 0 (.int p0)).set 1 (.int p1)).set 2 (.int p2)).set 3 (.int p1))))]) [0] (by decide) rfl
  have hK9 := hK.sub (tys' := []) [] rfl
  exact W.vret hx hb hr (fun t ht hW => ⟨⟨(), rfl, trivial, (zB_mk (by rw [ht]; exact hP9) (va_K.moved hW.alike hK9) hD9)⟩, hS.F ht⟩) hS.2.2 dX5_init_24
theorem iw_X6_isLimited_X6 : ∀ w ∈ wsX60, w ∈ wsX6_isLimited := fun w h => List.mem_cons_of_mem _ (List.mem_append_right _ h)
set_option maxHeartbeats 4000000 in
set_option maxRecDepth 100000 in
/-- X6_isLimited, a road -/
theorem c_X6_isLimited_r0 (l : Launch) (dC : Nat → ClassId) (dI : Nat → Nat → Nat) (sz : Nat) (h0 : Nat) (fs0 : List Value) (p0 : Int32) (p1 : Int32) (p2 : Int64) (v0_0 : Nat) (v0_2 : Int32) (v0_1 : Int32) (n_v0_0 : Nat) (c_v0_0 : ClassId) (f_v0_0 : Nat → Int64) (hl0 : fs0.length = 5) (hf0_0 : fs0[0]? = some (.ref v0_0)) (hf0_2 : fs0[2]? = some (.int v0_2)) (hf0_1 : fs0[1]? = some (.int v0_1)) (hi_0 : vp_in ((v0_2 + ((p1 ^^^ 1) * v0_1)) + p0) n_v0_0) (hc_0 : ¬ p0 = (p1 ^^^ 1)) (hc_1 : 0 < (lg_cmp (f_v0_0 (((v0_2 + ((p1 ^^^ 1) * v0_1)) + p0)).toNatClampNeg) p2)) : Met l yX6_isLimited wsX6_isLimited ({ frames := 0, cells := 0, slots := 0, locals := 0 }) (zPc dC dI sz [.ref h0, .int p0, .int p1, .long p2] [(h0, .inr (8, fs0)), (v0_0, .inl (c_v0_0, n_v0_0, .inr (.inl f_v0_0)))] [(c_v0_0, .long)]) (va_Qi (fun (r : Int32) (_ : Unit) => r = 0) (zB dC dI (fun _ => [(c_v0_0, .long)]) (fun _ : Unit => [(h0, .inr (8, fs0)), (v0_0, .inl (c_v0_0, n_v0_0, .inr (.inl f_v0_0)))]) (va_A [(h0, .inr (8, fs0)), (v0_0, .inl (c_v0_0, n_v0_0, .inr (.inl f_v0_0)))] sz)) (va_A [(h0, .inr (8, fs0)), (v0_0, .inl (c_v0_0, n_v0_0, .inr (.inl f_v0_0)))] sz)) 0 0 (va_A [(h0, .inr (8, fs0)), (v0_0, .inl (c_v0_0, n_v0_0, .inr (.inl f_v0_0)))] sz) := by
  refine Met.ofW (cc := cX6_isLimited) (maxL := 5) (ret := (some .boolean)) (by decide) rfl ?_
  intro p e s m args below meth c s₁ B hml hv
  obtain ⟨rfl, hsz, hP, hK, hD0⟩ := hv
  have hx := B.exec
  have hb := B.bytes
  have hr := B.returns
  have hts := atoms_spec (ws := wsX6_isLimited) B.pre
  have hown : s.vm.findClass RX6 = some m.cls := findClass_of_methodNamed B.named
  have hlocks := B.notSynchronized
  subst hsz
  have hD := hD0.self (sz := s.heap.size)
  generalize hAe : va_A [(h0, .inr (8, fs0)), (v0_0, .inl (c_v0_0, n_v0_0, .inr (.inl f_v0_0)))] s.heap.size = A at hD ⊢
  have hA : ∀ q : Nat, s.heap.size ≤ q → A q := fun q h => by rw [← hAe]; exact Or.inr h
  have hS : va_S A s.heap s.heap [] := va_S.rf
  have hP : va_P (dC, dI) vwCl [(h0, .inr (8, fs0)), (v0_0, .inl (c_v0_0, n_v0_0, .inr (.inl f_v0_0)))] s.heap := hP
  have hl := lv_entry ([.ref h0, .int p0, .int p1, .long p2]) (n := 5) (Nat.le_of_ble_eq_true rfl)
  rw [lg_entry_eq]
  generalize (lg_sl ([.ref h0, .int p0, .int p1, .long p2]) ++ List.replicate (5 - (lg_sl ([.ref h0, .int p0, .int p1, .long p2])).length) Slot.unset).toArray = ls at hl ⊢
  have hl : lv_has ls 5 [(0, .ref h0), (1, .int p0), (2, .int p1), (3, .long p2)] := hl
  refine lv_iload_n hx hb dX6_isLimited_0 rfl (lv_at hl 1 rfl) ?_
  refine lv_iload_n hx hb dX6_isLimited_1 rfl (lv_at hl 2 rfl) ?_
  refine lv_iconst (v := 1) hx hb dX6_isLimited_2 (by decide) ?_
  refine lv_ixor hx hb dX6_isLimited_3 ?_
  refine lv_icmp_ne (tgt := 21) hx hb dX6_isLimited_4 (by decide) (fun c_1 => ?_) (fun c_1 => absurd c_1 hc_0)
  refine lv_aload_n hx hb dX6_isLimited_21 rfl (lv_at hl 0 rfl) ?_
  refine va_get (D := (dC, dI)) (ci := 8) (v := .ref v0_0) (C := RX6) (T := TX6) (N := 5) hx hb hts iw_X6_isLimited_X6 hown hK hP 0 rfl rfl 0 (by decide) (hts (.fieldLink RX6 7 "LiquidTongue$Octagon" "cells" "[J") (by decide +kernel)) (fun _ h9 => h9) hf0_0 dX6_isLimited_22 ?_
  refine lv_aload_n hx hb dX6_isLimited_25 rfl (lv_at hl 0 rfl) ?_
  refine va_get (D := (dC, dI)) (ci := 8) (v := .int v0_2) (C := RX6) (T := TX6) (N := 5) hx hb hts iw_X6_isLimited_X6 hown hK hP 0 rfl rfl 2 (by decide) (hts (.fieldLink RX6 17 "LiquidTongue$Octagon" "base" "I") (by decide +kernel)) (fun _ h9 => h9) hf0_2 dX6_isLimited_26 ?_
  refine lv_iload_n hx hb dX6_isLimited_29 rfl (lv_at hl 2 rfl) ?_
  refine lv_iconst (v := 1) hx hb dX6_isLimited_30 (by decide) ?_
  refine lv_ixor hx hb dX6_isLimited_31 ?_
  refine lv_aload_n hx hb dX6_isLimited_32 rfl (lv_at hl 0 rfl) ?_
  refine va_get (D := (dC, dI)) (ci := 8) (v := .int v0_1) (C := RX6) (T := TX6) (N := 5) hx hb hts iw_X6_isLimited_X6 hown hK hP 0 rfl rfl 1 (by decide) (hts (.fieldLink RX6 13 "LiquidTongue$Octagon" "width" "I") (by decide +kernel)) (fun _ h9 => h9) hf0_1 dX6_isLimited_33 ?_
  refine lv_imul hx hb dX6_isLimited_36 ?_
  refine lv_iadd hx hb dX6_isLimited_37 ?_
  refine lv_iload_n hx hb dX6_isLimited_38 rfl (lv_at hl 1 rfl) ?_
  refine lv_iadd hx hb dX6_isLimited_39 ?_
  refine va_lald hx hb hK hP 1 0 rfl rfl hi_0 dX6_isLimited_40 ?_
  refine lv_lload_n hx hb dX6_isLimited_41 rfl (lv_at hl 3 rfl) ?_
  refine W.lcmp hx hb dX6_isLimited_42 ?_
  refine lv_if_gt (tgt := 50) hx hb dX6_isLimited_43 (by decide) (fun c_2 => ?_) (fun c_2 => absurd hc_1 c_2)
  refine lv_iconst (v := 0) hx hb dX6_isLimited_50 (by decide) ?_
  have hP9 := hP.sub (ws' := [(h0, .inr (8, fs0)), (v0_0, .inl (c_v0_0, n_v0_0, .inr (.inl f_v0_0)))]) [0, 1] rfl
  have hD9 := hD.sub (ws' := [(h0, .inr (8, fs0)), (v0_0, .inl (c_v0_0, n_v0_0, .inr (.inl f_v0_0)))]) [0, 1] (by decide) rfl
  have hK9 := hK.sub (tys' := [(c_v0_0, .long)]) [0] rfl
  exact W.zret (v := 0) hx hb hr (by first | rfl | decide) (fun t ht hW => ⟨⟨0, (), rfl, rfl, (zB_mk (by rw [ht]; exact hP9) (va_K.moved hW.alike hK9) hD9)⟩, hS.F ht⟩) hS.2.2 dX6_isLimited_51
set_option maxHeartbeats 4000000 in
set_option maxRecDepth 100000 in
/-- X6_isLimited, a road -/
theorem c_X6_isLimited_r1 (l : Launch) (dC : Nat → ClassId) (dI : Nat → Nat → Nat) (sz : Nat) (h0 : Nat) (fs0 : List Value) (p0 : Int32) (p1 : Int32) (p2 : Int64) (v0_0 : Nat) (v0_2 : Int32) (v0_1 : Int32) (n_v0_0 : Nat) (c_v0_0 : ClassId) (f_v0_0 : Nat → Int64) (hl0 : fs0.length = 5) (hf0_0 : fs0[0]? = some (.ref v0_0)) (hf0_2 : fs0[2]? = some (.int v0_2)) (hf0_1 : fs0[1]? = some (.int v0_1)) (hi_0 : vp_in ((v0_2 + ((p1 ^^^ 1) * v0_1)) + p0) n_v0_0) (hc_0 : ¬ p0 = (p1 ^^^ 1)) (hc_1 : ¬ 0 < (lg_cmp (f_v0_0 (((v0_2 + ((p1 ^^^ 1) * v0_1)) + p0)).toNatClampNeg) p2)) : Met l yX6_isLimited wsX6_isLimited ({ frames := 0, cells := 0, slots := 0, locals := 0 }) (zPc dC dI sz [.ref h0, .int p0, .int p1, .long p2] [(h0, .inr (8, fs0)), (v0_0, .inl (c_v0_0, n_v0_0, .inr (.inl f_v0_0)))] [(c_v0_0, .long)]) (va_Qi (fun (r : Int32) (_ : Unit) => r = 1) (zB dC dI (fun _ => [(c_v0_0, .long)]) (fun _ : Unit => [(h0, .inr (8, fs0)), (v0_0, .inl (c_v0_0, n_v0_0, .inr (.inl f_v0_0)))]) (va_A [(h0, .inr (8, fs0)), (v0_0, .inl (c_v0_0, n_v0_0, .inr (.inl f_v0_0)))] sz)) (va_A [(h0, .inr (8, fs0)), (v0_0, .inl (c_v0_0, n_v0_0, .inr (.inl f_v0_0)))] sz)) 0 0 (va_A [(h0, .inr (8, fs0)), (v0_0, .inl (c_v0_0, n_v0_0, .inr (.inl f_v0_0)))] sz) := by
  refine Met.ofW (cc := cX6_isLimited) (maxL := 5) (ret := (some .boolean)) (by decide) rfl ?_
  intro p e s m args below meth c s₁ B hml hv
  obtain ⟨rfl, hsz, hP, hK, hD0⟩ := hv
  have hx := B.exec
  have hb := B.bytes
  have hr := B.returns
  have hts := atoms_spec (ws := wsX6_isLimited) B.pre
  have hown : s.vm.findClass RX6 = some m.cls := findClass_of_methodNamed B.named
  have hlocks := B.notSynchronized
  subst hsz
  have hD := hD0.self (sz := s.heap.size)
  generalize hAe : va_A [(h0, .inr (8, fs0)), (v0_0, .inl (c_v0_0, n_v0_0, .inr (.inl f_v0_0)))] s.heap.size = A at hD ⊢
  have hA : ∀ q : Nat, s.heap.size ≤ q → A q := fun q h => by rw [← hAe]; exact Or.inr h
  have hS : va_S A s.heap s.heap [] := va_S.rf
  have hP : va_P (dC, dI) vwCl [(h0, .inr (8, fs0)), (v0_0, .inl (c_v0_0, n_v0_0, .inr (.inl f_v0_0)))] s.heap := hP
  have hl := lv_entry ([.ref h0, .int p0, .int p1, .long p2]) (n := 5) (Nat.le_of_ble_eq_true rfl)
  rw [lg_entry_eq]
  generalize (lg_sl ([.ref h0, .int p0, .int p1, .long p2]) ++ List.replicate (5 - (lg_sl ([.ref h0, .int p0, .int p1, .long p2])).length) Slot.unset).toArray = ls at hl ⊢
  have hl : lv_has ls 5 [(0, .ref h0), (1, .int p0), (2, .int p1), (3, .long p2)] := hl
  refine lv_iload_n hx hb dX6_isLimited_0 rfl (lv_at hl 1 rfl) ?_
  refine lv_iload_n hx hb dX6_isLimited_1 rfl (lv_at hl 2 rfl) ?_
  refine lv_iconst (v := 1) hx hb dX6_isLimited_2 (by decide) ?_
  refine lv_ixor hx hb dX6_isLimited_3 ?_
  refine lv_icmp_ne (tgt := 21) hx hb dX6_isLimited_4 (by decide) (fun c_1 => ?_) (fun c_1 => absurd c_1 hc_0)
  refine lv_aload_n hx hb dX6_isLimited_21 rfl (lv_at hl 0 rfl) ?_
  refine va_get (D := (dC, dI)) (ci := 8) (v := .ref v0_0) (C := RX6) (T := TX6) (N := 5) hx hb hts iw_X6_isLimited_X6 hown hK hP 0 rfl rfl 0 (by decide) (hts (.fieldLink RX6 7 "LiquidTongue$Octagon" "cells" "[J") (by decide +kernel)) (fun _ h9 => h9) hf0_0 dX6_isLimited_22 ?_
  refine lv_aload_n hx hb dX6_isLimited_25 rfl (lv_at hl 0 rfl) ?_
  refine va_get (D := (dC, dI)) (ci := 8) (v := .int v0_2) (C := RX6) (T := TX6) (N := 5) hx hb hts iw_X6_isLimited_X6 hown hK hP 0 rfl rfl 2 (by decide) (hts (.fieldLink RX6 17 "LiquidTongue$Octagon" "base" "I") (by decide +kernel)) (fun _ h9 => h9) hf0_2 dX6_isLimited_26 ?_
  refine lv_iload_n hx hb dX6_isLimited_29 rfl (lv_at hl 2 rfl) ?_
  refine lv_iconst (v := 1) hx hb dX6_isLimited_30 (by decide) ?_
  refine lv_ixor hx hb dX6_isLimited_31 ?_
  refine lv_aload_n hx hb dX6_isLimited_32 rfl (lv_at hl 0 rfl) ?_
  refine va_get (D := (dC, dI)) (ci := 8) (v := .int v0_1) (C := RX6) (T := TX6) (N := 5) hx hb hts iw_X6_isLimited_X6 hown hK hP 0 rfl rfl 1 (by decide) (hts (.fieldLink RX6 13 "LiquidTongue$Octagon" "width" "I") (by decide +kernel)) (fun _ h9 => h9) hf0_1 dX6_isLimited_33 ?_
  refine lv_imul hx hb dX6_isLimited_36 ?_
  refine lv_iadd hx hb dX6_isLimited_37 ?_
  refine lv_iload_n hx hb dX6_isLimited_38 rfl (lv_at hl 1 rfl) ?_
  refine lv_iadd hx hb dX6_isLimited_39 ?_
  refine va_lald hx hb hK hP 1 0 rfl rfl hi_0 dX6_isLimited_40 ?_
  refine lv_lload_n hx hb dX6_isLimited_41 rfl (lv_at hl 3 rfl) ?_
  refine W.lcmp hx hb dX6_isLimited_42 ?_
  refine lv_if_gt (tgt := 50) hx hb dX6_isLimited_43 (by decide) (fun c_2 => absurd c_2 hc_1) (fun c_2 => ?_)
  refine lv_iconst (v := 1) hx hb dX6_isLimited_46 (by decide) ?_
  refine lv_goto (tgt := 51) hx hb dX6_isLimited_47 (by decide) ?_
  have hP9 := hP.sub (ws' := [(h0, .inr (8, fs0)), (v0_0, .inl (c_v0_0, n_v0_0, .inr (.inl f_v0_0)))]) [0, 1] rfl
  have hD9 := hD.sub (ws' := [(h0, .inr (8, fs0)), (v0_0, .inl (c_v0_0, n_v0_0, .inr (.inl f_v0_0)))]) [0, 1] (by decide) rfl
  have hK9 := hK.sub (tys' := [(c_v0_0, .long)]) [0] rfl
  exact W.zret (v := 1) hx hb hr (by first | rfl | decide) (fun t ht hW => ⟨⟨1, (), rfl, rfl, (zB_mk (by rw [ht]; exact hP9) (va_K.moved hW.alike hK9) hD9)⟩, hS.F ht⟩) hS.2.2 dX6_isLimited_51
set_option maxHeartbeats 4000000 in
set_option maxRecDepth 100000 in
/-- X6_isLimited, a road -/
theorem c_X6_isLimited_r2 (l : Launch) (dC : Nat → ClassId) (dI : Nat → Nat → Nat) (sz : Nat) (h0 : Nat) (fs0 : List Value) (p0 : Int32) (p1 : Int32) (p2 : Int64) (hl0 : fs0.length = 5) (hc_0 : p0 = (p1 ^^^ 1)) (hc_1 : (lg_cmp p2 0) < 0) : Met l yX6_isLimited wsX6_isLimited ({ frames := 0, cells := 0, slots := 0, locals := 0 }) (zPc dC dI sz [.ref h0, .int p0, .int p1, .long p2] [(h0, .inr (8, fs0))] []) (va_Qi (fun (r : Int32) (_ : Unit) => r = 0) (zB dC dI (fun _ => []) (fun _ : Unit => [(h0, .inr (8, fs0))]) (va_A [(h0, .inr (8, fs0))] sz)) (va_A [(h0, .inr (8, fs0))] sz)) 0 0 (va_A [(h0, .inr (8, fs0))] sz) := by
  refine Met.ofW (cc := cX6_isLimited) (maxL := 5) (ret := (some .boolean)) (by decide) rfl ?_
  intro p e s m args below meth c s₁ B hml hv
  obtain ⟨rfl, hsz, hP, hK, hD0⟩ := hv
  have hx := B.exec
  have hb := B.bytes
  have hr := B.returns
  have hts := atoms_spec (ws := wsX6_isLimited) B.pre
  have hown : s.vm.findClass RX6 = some m.cls := findClass_of_methodNamed B.named
  have hlocks := B.notSynchronized
  subst hsz
  have hD := hD0.self (sz := s.heap.size)
  generalize hAe : va_A [(h0, .inr (8, fs0))] s.heap.size = A at hD ⊢
  have hA : ∀ q : Nat, s.heap.size ≤ q → A q := fun q h => by rw [← hAe]; exact Or.inr h
  have hS : va_S A s.heap s.heap [] := va_S.rf
  have hP : va_P (dC, dI) vwCl [(h0, .inr (8, fs0))] s.heap := hP
  have hl := lv_entry ([.ref h0, .int p0, .int p1, .long p2]) (n := 5) (Nat.le_of_ble_eq_true rfl)
  rw [lg_entry_eq]
  generalize (lg_sl ([.ref h0, .int p0, .int p1, .long p2]) ++ List.replicate (5 - (lg_sl ([.ref h0, .int p0, .int p1, .long p2])).length) Slot.unset).toArray = ls at hl ⊢
  have hl : lv_has ls 5 [(0, .ref h0), (1, .int p0), (2, .int p1), (3, .long p2)] := hl
  refine lv_iload_n hx hb dX6_isLimited_0 rfl (lv_at hl 1 rfl) ?_
  refine lv_iload_n hx hb dX6_isLimited_1 rfl (lv_at hl 2 rfl) ?_
  refine lv_iconst (v := 1) hx hb dX6_isLimited_2 (by decide) ?_
  refine lv_ixor hx hb dX6_isLimited_3 ?_
  refine lv_icmp_ne (tgt := 21) hx hb dX6_isLimited_4 (by decide) (fun c_1 => absurd hc_0 c_1) (fun c_1 => ?_)
  refine lv_lload_n hx hb dX6_isLimited_7 rfl (lv_at hl 3 rfl) ?_
  refine lv_lconst (v := 0) hx hb dX6_isLimited_8 (by decide) ?_
  refine W.lcmp hx hb dX6_isLimited_9 ?_
  refine lv_if_lt (tgt := 17) hx hb dX6_isLimited_10 (by decide) (fun c_2 => ?_) (fun c_2 => absurd hc_1 c_2)
  refine lv_iconst (v := 0) hx hb dX6_isLimited_17 (by decide) ?_
  refine lv_goto (tgt := 51) hx hb dX6_isLimited_18 (by decide) ?_
  have hP9 := hP.sub (ws' := [(h0, .inr (8, fs0))]) [0] rfl
  have hD9 := hD.sub (ws' := [(h0, .inr (8, fs0))]) [0] (by decide) rfl
  have hK9 := hK.sub (tys' := []) [] rfl
  exact W.zret (v := 0) hx hb hr (by first | rfl | decide) (fun t ht hW => ⟨⟨0, (), rfl, rfl, (zB_mk (by rw [ht]; exact hP9) (va_K.moved hW.alike hK9) hD9)⟩, hS.F ht⟩) hS.2.2 dX6_isLimited_51
set_option maxHeartbeats 4000000 in
set_option maxRecDepth 100000 in
/-- X6_isLimited, a road -/
theorem c_X6_isLimited_r3 (l : Launch) (dC : Nat → ClassId) (dI : Nat → Nat → Nat) (sz : Nat) (h0 : Nat) (fs0 : List Value) (p0 : Int32) (p1 : Int32) (p2 : Int64) (hl0 : fs0.length = 5) (hc_0 : p0 = (p1 ^^^ 1)) (hc_1 : ¬ (lg_cmp p2 0) < 0) : Met l yX6_isLimited wsX6_isLimited ({ frames := 0, cells := 0, slots := 0, locals := 0 }) (zPc dC dI sz [.ref h0, .int p0, .int p1, .long p2] [(h0, .inr (8, fs0))] []) (va_Qi (fun (r : Int32) (_ : Unit) => r = 1) (zB dC dI (fun _ => []) (fun _ : Unit => [(h0, .inr (8, fs0))]) (va_A [(h0, .inr (8, fs0))] sz)) (va_A [(h0, .inr (8, fs0))] sz)) 0 0 (va_A [(h0, .inr (8, fs0))] sz) := by
  refine Met.ofW (cc := cX6_isLimited) (maxL := 5) (ret := (some .boolean)) (by decide) rfl ?_
  intro p e s m args below meth c s₁ B hml hv
  obtain ⟨rfl, hsz, hP, hK, hD0⟩ := hv
  have hx := B.exec
  have hb := B.bytes
  have hr := B.returns
  have hts := atoms_spec (ws := wsX6_isLimited) B.pre
  have hown : s.vm.findClass RX6 = some m.cls := findClass_of_methodNamed B.named
  have hlocks := B.notSynchronized
  subst hsz
  have hD := hD0.self (sz := s.heap.size)
  generalize hAe : va_A [(h0, .inr (8, fs0))] s.heap.size = A at hD ⊢
  have hA : ∀ q : Nat, s.heap.size ≤ q → A q := fun q h => by rw [← hAe]; exact Or.inr h
  have hS : va_S A s.heap s.heap [] := va_S.rf
  have hP : va_P (dC, dI) vwCl [(h0, .inr (8, fs0))] s.heap := hP
  have hl := lv_entry ([.ref h0, .int p0, .int p1, .long p2]) (n := 5) (Nat.le_of_ble_eq_true rfl)
  rw [lg_entry_eq]
  generalize (lg_sl ([.ref h0, .int p0, .int p1, .long p2]) ++ List.replicate (5 - (lg_sl ([.ref h0, .int p0, .int p1, .long p2])).length) Slot.unset).toArray = ls at hl ⊢
  have hl : lv_has ls 5 [(0, .ref h0), (1, .int p0), (2, .int p1), (3, .long p2)] := hl
  refine lv_iload_n hx hb dX6_isLimited_0 rfl (lv_at hl 1 rfl) ?_
  refine lv_iload_n hx hb dX6_isLimited_1 rfl (lv_at hl 2 rfl) ?_
  refine lv_iconst (v := 1) hx hb dX6_isLimited_2 (by decide) ?_
  refine lv_ixor hx hb dX6_isLimited_3 ?_
  refine lv_icmp_ne (tgt := 21) hx hb dX6_isLimited_4 (by decide) (fun c_1 => absurd hc_0 c_1) (fun c_1 => ?_)
  refine lv_lload_n hx hb dX6_isLimited_7 rfl (lv_at hl 3 rfl) ?_
  refine lv_lconst (v := 0) hx hb dX6_isLimited_8 (by decide) ?_
  refine W.lcmp hx hb dX6_isLimited_9 ?_
  refine lv_if_lt (tgt := 17) hx hb dX6_isLimited_10 (by decide) (fun c_2 => absurd c_2 hc_1) (fun c_2 => ?_)
  refine lv_iconst (v := 1) hx hb dX6_isLimited_13 (by decide) ?_
  refine lv_goto (tgt := 51) hx hb dX6_isLimited_14 (by decide) ?_
  have hP9 := hP.sub (ws' := [(h0, .inr (8, fs0))]) [0] rfl
  have hD9 := hD.sub (ws' := [(h0, .inr (8, fs0))]) [0] (by decide) rfl
  have hK9 := hK.sub (tys' := []) [] rfl
  exact W.zret (v := 1) hx hb hr (by first | rfl | decide) (fun t ht hW => ⟨⟨1, (), rfl, rfl, (zB_mk (by rw [ht]; exact hP9) (va_K.moved hW.alike hK9) hD9)⟩, hS.F ht⟩) hS.2.2 dX6_isLimited_51
set_option maxHeartbeats 4000000 in
set_option maxRecDepth 100000 in
/-- X7_beginsArgument, a road -/
theorem c_X7_beginsArgument_r0 (l : Launch) (dC : Nat → ClassId) (dI : Nat → Nat → Nat) (sz : Nat) (p0 : Int32) (hc_0 : p0 = 2) : Met l yX7_beginsArgument wsX7_beginsArgument ({ frames := 0, cells := 0, slots := 0, locals := 0 }) (zPc dC dI sz [.int p0] [] []) (va_Qi (fun (r : Int32) (_ : Unit) => r = 1) (zB dC dI (fun _ => []) (fun _ : Unit => []) (va_A [] sz)) (va_A [] sz)) 0 0 (va_A [] sz) := by
  refine Met.ofW (cc := cX7_beginsArgument) (maxL := 1) (ret := (some .boolean)) (by decide) rfl ?_
  intro p e s m args below meth c s₁ B hml hv
  obtain ⟨rfl, hsz, hP, hK, hD0⟩ := hv
  have hx := B.exec
  have hb := B.bytes
  have hr := B.returns
  have hts := atoms_spec (ws := wsX7_beginsArgument) B.pre
  have hown : s.vm.findClass RX7 = some m.cls := findClass_of_methodNamed B.named
  have hlocks := B.notSynchronized
  subst hsz
  have hD := hD0.self (sz := s.heap.size)
  generalize hAe : va_A [] s.heap.size = A at hD ⊢
  have hA : ∀ q : Nat, s.heap.size ≤ q → A q := fun q h => by rw [← hAe]; exact Or.inr h
  have hS : va_S A s.heap s.heap [] := va_S.rf
  have hP : va_P (dC, dI) vwCl [] s.heap := hP
  have hl := lv_entry ([.int p0]) (n := 1) (Nat.le_of_ble_eq_true rfl)
  rw [lg_entry_eq]
  generalize (lg_sl ([.int p0]) ++ List.replicate (1 - (lg_sl ([.int p0])).length) Slot.unset).toArray = ls at hl ⊢
  have hl : lv_has ls 1 [(0, .int p0)] := hl
  refine lv_iload_n hx hb dX7_beginsArgument_0 rfl (lv_at hl 0 rfl) ?_
  refine lv_iconst (v := 2) hx hb dX7_beginsArgument_1 (by decide) ?_
  refine lv_icmp_eq (tgt := 30) hx hb dX7_beginsArgument_2 (by decide) (fun c_1 => ?_) (fun c_1 => absurd hc_0 c_1)
  refine lv_iconst (v := 1) hx hb dX7_beginsArgument_30 (by decide) ?_
  refine lv_goto (tgt := 35) hx hb dX7_beginsArgument_31 (by decide) ?_
  have hP9 := hP.sub (ws' := []) [] rfl
  have hD9 := hD.sub (ws' := []) [] (by decide) rfl
  have hK9 := hK.sub (tys' := []) [] rfl
  exact W.zret (v := 1) hx hb hr (by first | rfl | decide) (fun t ht hW => ⟨⟨1, (), rfl, rfl, (zB_mk (by rw [ht]; exact hP9) (va_K.moved hW.alike hK9) hD9)⟩, hS.F ht⟩) hS.2.2 dX7_beginsArgument_35
set_option maxHeartbeats 4000000 in
set_option maxRecDepth 100000 in
/-- X7_beginsArgument, a road -/
theorem c_X7_beginsArgument_r1 (l : Launch) (dC : Nat → ClassId) (dI : Nat → Nat → Nat) (sz : Nat) (p0 : Int32) (hc_0 : ¬ p0 = 2) (hc_1 : p0 = 1) : Met l yX7_beginsArgument wsX7_beginsArgument ({ frames := 0, cells := 0, slots := 0, locals := 0 }) (zPc dC dI sz [.int p0] [] []) (va_Qi (fun (r : Int32) (_ : Unit) => r = 1) (zB dC dI (fun _ => []) (fun _ : Unit => []) (va_A [] sz)) (va_A [] sz)) 0 0 (va_A [] sz) := by
  refine Met.ofW (cc := cX7_beginsArgument) (maxL := 1) (ret := (some .boolean)) (by decide) rfl ?_
  intro p e s m args below meth c s₁ B hml hv
  obtain ⟨rfl, hsz, hP, hK, hD0⟩ := hv
  have hx := B.exec
  have hb := B.bytes
  have hr := B.returns
  have hts := atoms_spec (ws := wsX7_beginsArgument) B.pre
  have hown : s.vm.findClass RX7 = some m.cls := findClass_of_methodNamed B.named
  have hlocks := B.notSynchronized
  subst hsz
  have hD := hD0.self (sz := s.heap.size)
  generalize hAe : va_A [] s.heap.size = A at hD ⊢
  have hA : ∀ q : Nat, s.heap.size ≤ q → A q := fun q h => by rw [← hAe]; exact Or.inr h
  have hS : va_S A s.heap s.heap [] := va_S.rf
  have hP : va_P (dC, dI) vwCl [] s.heap := hP
  have hl := lv_entry ([.int p0]) (n := 1) (Nat.le_of_ble_eq_true rfl)
  rw [lg_entry_eq]
  generalize (lg_sl ([.int p0]) ++ List.replicate (1 - (lg_sl ([.int p0])).length) Slot.unset).toArray = ls at hl ⊢
  have hl : lv_has ls 1 [(0, .int p0)] := hl
  refine lv_iload_n hx hb dX7_beginsArgument_0 rfl (lv_at hl 0 rfl) ?_
  refine lv_iconst (v := 2) hx hb dX7_beginsArgument_1 (by decide) ?_
  refine lv_icmp_eq (tgt := 30) hx hb dX7_beginsArgument_2 (by decide) (fun c_1 => absurd c_1 hc_0) (fun c_1 => ?_)
  refine lv_iload_n hx hb dX7_beginsArgument_5 rfl (lv_at hl 0 rfl) ?_
  refine lv_iconst (v := 1) hx hb dX7_beginsArgument_6 (by decide) ?_
  refine lv_icmp_eq (tgt := 30) hx hb dX7_beginsArgument_7 (by decide) (fun c_2 => ?_) (fun c_2 => absurd hc_1 c_2)
  refine lv_iconst (v := 1) hx hb dX7_beginsArgument_30 (by decide) ?_
  refine lv_goto (tgt := 35) hx hb dX7_beginsArgument_31 (by decide) ?_
  have hP9 := hP.sub (ws' := []) [] rfl
  have hD9 := hD.sub (ws' := []) [] (by decide) rfl
  have hK9 := hK.sub (tys' := []) [] rfl
  exact W.zret (v := 1) hx hb hr (by first | rfl | decide) (fun t ht hW => ⟨⟨1, (), rfl, rfl, (zB_mk (by rw [ht]; exact hP9) (va_K.moved hW.alike hK9) hD9)⟩, hS.F ht⟩) hS.2.2 dX7_beginsArgument_35
set_option maxHeartbeats 4000000 in
set_option maxRecDepth 100000 in
/-- X7_beginsArgument, a road -/
theorem c_X7_beginsArgument_r2 (l : Launch) (dC : Nat → ClassId) (dI : Nat → Nat → Nat) (sz : Nat) (p0 : Int32) (hc_0 : ¬ p0 = 2) (hc_1 : ¬ p0 = 1) (hc_2 : p0 = 40) : Met l yX7_beginsArgument wsX7_beginsArgument ({ frames := 0, cells := 0, slots := 0, locals := 0 }) (zPc dC dI sz [.int p0] [] []) (va_Qi (fun (r : Int32) (_ : Unit) => r = 1) (zB dC dI (fun _ => []) (fun _ : Unit => []) (va_A [] sz)) (va_A [] sz)) 0 0 (va_A [] sz) := by
  refine Met.ofW (cc := cX7_beginsArgument) (maxL := 1) (ret := (some .boolean)) (by decide) rfl ?_
  intro p e s m args below meth c s₁ B hml hv
  obtain ⟨rfl, hsz, hP, hK, hD0⟩ := hv
  have hx := B.exec
  have hb := B.bytes
  have hr := B.returns
  have hts := atoms_spec (ws := wsX7_beginsArgument) B.pre
  have hown : s.vm.findClass RX7 = some m.cls := findClass_of_methodNamed B.named
  have hlocks := B.notSynchronized
  subst hsz
  have hD := hD0.self (sz := s.heap.size)
  generalize hAe : va_A [] s.heap.size = A at hD ⊢
  have hA : ∀ q : Nat, s.heap.size ≤ q → A q := fun q h => by rw [← hAe]; exact Or.inr h
  have hS : va_S A s.heap s.heap [] := va_S.rf
  have hP : va_P (dC, dI) vwCl [] s.heap := hP
  have hl := lv_entry ([.int p0]) (n := 1) (Nat.le_of_ble_eq_true rfl)
  rw [lg_entry_eq]
  generalize (lg_sl ([.int p0]) ++ List.replicate (1 - (lg_sl ([.int p0])).length) Slot.unset).toArray = ls at hl ⊢
  have hl : lv_has ls 1 [(0, .int p0)] := hl
  refine lv_iload_n hx hb dX7_beginsArgument_0 rfl (lv_at hl 0 rfl) ?_
  refine lv_iconst (v := 2) hx hb dX7_beginsArgument_1 (by decide) ?_
  refine lv_icmp_eq (tgt := 30) hx hb dX7_beginsArgument_2 (by decide) (fun c_1 => absurd c_1 hc_0) (fun c_1 => ?_)
  refine lv_iload_n hx hb dX7_beginsArgument_5 rfl (lv_at hl 0 rfl) ?_
  refine lv_iconst (v := 1) hx hb dX7_beginsArgument_6 (by decide) ?_
  refine lv_icmp_eq (tgt := 30) hx hb dX7_beginsArgument_7 (by decide) (fun c_2 => absurd c_2 hc_1) (fun c_2 => ?_)
  refine lv_iload_n hx hb dX7_beginsArgument_10 rfl (lv_at hl 0 rfl) ?_
  refine lv_bipush (v := 40) hx hb dX7_beginsArgument_11 (by decide) ?_
  refine lv_icmp_eq (tgt := 30) hx hb dX7_beginsArgument_13 (by decide) (fun c_3 => ?_) (fun c_3 => absurd hc_2 c_3)
  refine lv_iconst (v := 1) hx hb dX7_beginsArgument_30 (by decide) ?_
  refine lv_goto (tgt := 35) hx hb dX7_beginsArgument_31 (by decide) ?_
  have hP9 := hP.sub (ws' := []) [] rfl
  have hD9 := hD.sub (ws' := []) [] (by decide) rfl
  have hK9 := hK.sub (tys' := []) [] rfl
  exact W.zret (v := 1) hx hb hr (by first | rfl | decide) (fun t ht hW => ⟨⟨1, (), rfl, rfl, (zB_mk (by rw [ht]; exact hP9) (va_K.moved hW.alike hK9) hD9)⟩, hS.F ht⟩) hS.2.2 dX7_beginsArgument_35
set_option maxHeartbeats 4000000 in
set_option maxRecDepth 100000 in
/-- X7_beginsArgument, a road -/
theorem c_X7_beginsArgument_r3 (l : Launch) (dC : Nat → ClassId) (dI : Nat → Nat → Nat) (sz : Nat) (p0 : Int32) (hc_0 : ¬ p0 = 2) (hc_1 : ¬ p0 = 1) (hc_2 : ¬ p0 = 40) (hc_3 : p0 = 223) : Met l yX7_beginsArgument wsX7_beginsArgument ({ frames := 0, cells := 0, slots := 0, locals := 0 }) (zPc dC dI sz [.int p0] [] []) (va_Qi (fun (r : Int32) (_ : Unit) => r = 1) (zB dC dI (fun _ => []) (fun _ : Unit => []) (va_A [] sz)) (va_A [] sz)) 0 0 (va_A [] sz) := by
  refine Met.ofW (cc := cX7_beginsArgument) (maxL := 1) (ret := (some .boolean)) (by decide) rfl ?_
  intro p e s m args below meth c s₁ B hml hv
  obtain ⟨rfl, hsz, hP, hK, hD0⟩ := hv
  have hx := B.exec
  have hb := B.bytes
  have hr := B.returns
  have hts := atoms_spec (ws := wsX7_beginsArgument) B.pre
  have hown : s.vm.findClass RX7 = some m.cls := findClass_of_methodNamed B.named
  have hlocks := B.notSynchronized
  subst hsz
  have hD := hD0.self (sz := s.heap.size)
  generalize hAe : va_A [] s.heap.size = A at hD ⊢
  have hA : ∀ q : Nat, s.heap.size ≤ q → A q := fun q h => by rw [← hAe]; exact Or.inr h
  have hS : va_S A s.heap s.heap [] := va_S.rf
  have hP : va_P (dC, dI) vwCl [] s.heap := hP
  have hl := lv_entry ([.int p0]) (n := 1) (Nat.le_of_ble_eq_true rfl)
  rw [lg_entry_eq]
  generalize (lg_sl ([.int p0]) ++ List.replicate (1 - (lg_sl ([.int p0])).length) Slot.unset).toArray = ls at hl ⊢
  have hl : lv_has ls 1 [(0, .int p0)] := hl
  refine lv_iload_n hx hb dX7_beginsArgument_0 rfl (lv_at hl 0 rfl) ?_
  refine lv_iconst (v := 2) hx hb dX7_beginsArgument_1 (by decide) ?_
  refine lv_icmp_eq (tgt := 30) hx hb dX7_beginsArgument_2 (by decide) (fun c_1 => absurd c_1 hc_0) (fun c_1 => ?_)
  refine lv_iload_n hx hb dX7_beginsArgument_5 rfl (lv_at hl 0 rfl) ?_
  refine lv_iconst (v := 1) hx hb dX7_beginsArgument_6 (by decide) ?_
  refine lv_icmp_eq (tgt := 30) hx hb dX7_beginsArgument_7 (by decide) (fun c_2 => absurd c_2 hc_1) (fun c_2 => ?_)
  refine lv_iload_n hx hb dX7_beginsArgument_10 rfl (lv_at hl 0 rfl) ?_
  refine lv_bipush (v := 40) hx hb dX7_beginsArgument_11 (by decide) ?_
  refine lv_icmp_eq (tgt := 30) hx hb dX7_beginsArgument_13 (by decide) (fun c_3 => absurd c_3 hc_2) (fun c_3 => ?_)
  refine lv_iload_n hx hb dX7_beginsArgument_16 rfl (lv_at hl 0 rfl) ?_
  refine lv_sipush (v := 223) hx hb dX7_beginsArgument_17 (by decide) ?_
  refine lv_icmp_eq (tgt := 30) hx hb dX7_beginsArgument_20 (by decide) (fun c_4 => ?_) (fun c_4 => absurd hc_3 c_4)
  refine lv_iconst (v := 1) hx hb dX7_beginsArgument_30 (by decide) ?_
  refine lv_goto (tgt := 35) hx hb dX7_beginsArgument_31 (by decide) ?_
  have hP9 := hP.sub (ws' := []) [] rfl
  have hD9 := hD.sub (ws' := []) [] (by decide) rfl
  have hK9 := hK.sub (tys' := []) [] rfl
  exact W.zret (v := 1) hx hb hr (by first | rfl | decide) (fun t ht hW => ⟨⟨1, (), rfl, rfl, (zB_mk (by rw [ht]; exact hP9) (va_K.moved hW.alike hK9) hD9)⟩, hS.F ht⟩) hS.2.2 dX7_beginsArgument_35
set_option maxHeartbeats 4000000 in
set_option maxRecDepth 100000 in
/-- X7_beginsArgument, a road -/
theorem c_X7_beginsArgument_r4 (l : Launch) (dC : Nat → ClassId) (dI : Nat → Nat → Nat) (sz : Nat) (p0 : Int32) (hc_0 : ¬ p0 = 2) (hc_1 : ¬ p0 = 1) (hc_2 : ¬ p0 = 40) (hc_3 : ¬ p0 = 223) (hc_4 : ¬ p0 = 205) : Met l yX7_beginsArgument wsX7_beginsArgument ({ frames := 0, cells := 0, slots := 0, locals := 0 }) (zPc dC dI sz [.int p0] [] []) (va_Qi (fun (r : Int32) (_ : Unit) => r = 0) (zB dC dI (fun _ => []) (fun _ : Unit => []) (va_A [] sz)) (va_A [] sz)) 0 0 (va_A [] sz) := by
  refine Met.ofW (cc := cX7_beginsArgument) (maxL := 1) (ret := (some .boolean)) (by decide) rfl ?_
  intro p e s m args below meth c s₁ B hml hv
  obtain ⟨rfl, hsz, hP, hK, hD0⟩ := hv
  have hx := B.exec
  have hb := B.bytes
  have hr := B.returns
  have hts := atoms_spec (ws := wsX7_beginsArgument) B.pre
  have hown : s.vm.findClass RX7 = some m.cls := findClass_of_methodNamed B.named
  have hlocks := B.notSynchronized
  subst hsz
  have hD := hD0.self (sz := s.heap.size)
  generalize hAe : va_A [] s.heap.size = A at hD ⊢
  have hA : ∀ q : Nat, s.heap.size ≤ q → A q := fun q h => by rw [← hAe]; exact Or.inr h
  have hS : va_S A s.heap s.heap [] := va_S.rf
  have hP : va_P (dC, dI) vwCl [] s.heap := hP
  have hl := lv_entry ([.int p0]) (n := 1) (Nat.le_of_ble_eq_true rfl)
  rw [lg_entry_eq]
  generalize (lg_sl ([.int p0]) ++ List.replicate (1 - (lg_sl ([.int p0])).length) Slot.unset).toArray = ls at hl ⊢
  have hl : lv_has ls 1 [(0, .int p0)] := hl
  refine lv_iload_n hx hb dX7_beginsArgument_0 rfl (lv_at hl 0 rfl) ?_
  refine lv_iconst (v := 2) hx hb dX7_beginsArgument_1 (by decide) ?_
  refine lv_icmp_eq (tgt := 30) hx hb dX7_beginsArgument_2 (by decide) (fun c_1 => absurd c_1 hc_0) (fun c_1 => ?_)
  refine lv_iload_n hx hb dX7_beginsArgument_5 rfl (lv_at hl 0 rfl) ?_
  refine lv_iconst (v := 1) hx hb dX7_beginsArgument_6 (by decide) ?_
  refine lv_icmp_eq (tgt := 30) hx hb dX7_beginsArgument_7 (by decide) (fun c_2 => absurd c_2 hc_1) (fun c_2 => ?_)
  refine lv_iload_n hx hb dX7_beginsArgument_10 rfl (lv_at hl 0 rfl) ?_
  refine lv_bipush (v := 40) hx hb dX7_beginsArgument_11 (by decide) ?_
  refine lv_icmp_eq (tgt := 30) hx hb dX7_beginsArgument_13 (by decide) (fun c_3 => absurd c_3 hc_2) (fun c_3 => ?_)
  refine lv_iload_n hx hb dX7_beginsArgument_16 rfl (lv_at hl 0 rfl) ?_
  refine lv_sipush (v := 223) hx hb dX7_beginsArgument_17 (by decide) ?_
  refine lv_icmp_eq (tgt := 30) hx hb dX7_beginsArgument_20 (by decide) (fun c_4 => absurd c_4 hc_3) (fun c_4 => ?_)
  refine lv_iload_n hx hb dX7_beginsArgument_23 rfl (lv_at hl 0 rfl) ?_
  refine lv_sipush (v := 205) hx hb dX7_beginsArgument_24 (by decide) ?_
  refine lv_icmp_ne (tgt := 34) hx hb dX7_beginsArgument_27 (by decide) (fun c_5 => ?_) (fun c_5 => absurd c_5 hc_4)
  refine lv_iconst (v := 0) hx hb dX7_beginsArgument_34 (by decide) ?_
  have hP9 := hP.sub (ws' := []) [] rfl
  have hD9 := hD.sub (ws' := []) [] (by decide) rfl
  have hK9 := hK.sub (tys' := []) [] rfl
  exact W.zret (v := 0) hx hb hr (by first | rfl | decide) (fun t ht hW => ⟨⟨0, (), rfl, rfl, (zB_mk (by rw [ht]; exact hP9) (va_K.moved hW.alike hK9) hD9)⟩, hS.F ht⟩) hS.2.2 dX7_beginsArgument_35
set_option maxHeartbeats 4000000 in
set_option maxRecDepth 100000 in
/-- X7_beginsArgument, a road -/
theorem c_X7_beginsArgument_r5 (l : Launch) (dC : Nat → ClassId) (dI : Nat → Nat → Nat) (sz : Nat) (p0 : Int32) (hc_0 : ¬ p0 = 2) (hc_1 : ¬ p0 = 1) (hc_2 : ¬ p0 = 40) (hc_3 : ¬ p0 = 223) (hc_4 : p0 = 205) : Met l yX7_beginsArgument wsX7_beginsArgument ({ frames := 0, cells := 0, slots := 0, locals := 0 }) (zPc dC dI sz [.int p0] [] []) (va_Qi (fun (r : Int32) (_ : Unit) => r = 1) (zB dC dI (fun _ => []) (fun _ : Unit => []) (va_A [] sz)) (va_A [] sz)) 0 0 (va_A [] sz) := by
  refine Met.ofW (cc := cX7_beginsArgument) (maxL := 1) (ret := (some .boolean)) (by decide) rfl ?_
  intro p e s m args below meth c s₁ B hml hv
  obtain ⟨rfl, hsz, hP, hK, hD0⟩ := hv
  have hx := B.exec
  have hb := B.bytes
  have hr := B.returns
  have hts := atoms_spec (ws := wsX7_beginsArgument) B.pre
  have hown : s.vm.findClass RX7 = some m.cls := findClass_of_methodNamed B.named
  have hlocks := B.notSynchronized
  subst hsz
  have hD := hD0.self (sz := s.heap.size)
  generalize hAe : va_A [] s.heap.size = A at hD ⊢
  have hA : ∀ q : Nat, s.heap.size ≤ q → A q := fun q h => by rw [← hAe]; exact Or.inr h
  have hS : va_S A s.heap s.heap [] := va_S.rf
  have hP : va_P (dC, dI) vwCl [] s.heap := hP
  have hl := lv_entry ([.int p0]) (n := 1) (Nat.le_of_ble_eq_true rfl)
  rw [lg_entry_eq]
  generalize (lg_sl ([.int p0]) ++ List.replicate (1 - (lg_sl ([.int p0])).length) Slot.unset).toArray = ls at hl ⊢
  have hl : lv_has ls 1 [(0, .int p0)] := hl
  refine lv_iload_n hx hb dX7_beginsArgument_0 rfl (lv_at hl 0 rfl) ?_
  refine lv_iconst (v := 2) hx hb dX7_beginsArgument_1 (by decide) ?_
  refine lv_icmp_eq (tgt := 30) hx hb dX7_beginsArgument_2 (by decide) (fun c_1 => absurd c_1 hc_0) (fun c_1 => ?_)
  refine lv_iload_n hx hb dX7_beginsArgument_5 rfl (lv_at hl 0 rfl) ?_
  refine lv_iconst (v := 1) hx hb dX7_beginsArgument_6 (by decide) ?_
  refine lv_icmp_eq (tgt := 30) hx hb dX7_beginsArgument_7 (by decide) (fun c_2 => absurd c_2 hc_1) (fun c_2 => ?_)
  refine lv_iload_n hx hb dX7_beginsArgument_10 rfl (lv_at hl 0 rfl) ?_
  refine lv_bipush (v := 40) hx hb dX7_beginsArgument_11 (by decide) ?_
  refine lv_icmp_eq (tgt := 30) hx hb dX7_beginsArgument_13 (by decide) (fun c_3 => absurd c_3 hc_2) (fun c_3 => ?_)
  refine lv_iload_n hx hb dX7_beginsArgument_16 rfl (lv_at hl 0 rfl) ?_
  refine lv_sipush (v := 223) hx hb dX7_beginsArgument_17 (by decide) ?_
  refine lv_icmp_eq (tgt := 30) hx hb dX7_beginsArgument_20 (by decide) (fun c_4 => absurd c_4 hc_3) (fun c_4 => ?_)
  refine lv_iload_n hx hb dX7_beginsArgument_23 rfl (lv_at hl 0 rfl) ?_
  refine lv_sipush (v := 205) hx hb dX7_beginsArgument_24 (by decide) ?_
  refine lv_icmp_ne (tgt := 34) hx hb dX7_beginsArgument_27 (by decide) (fun c_5 => absurd hc_4 c_5) (fun c_5 => ?_)
  refine lv_iconst (v := 1) hx hb dX7_beginsArgument_30 (by decide) ?_
  refine lv_goto (tgt := 35) hx hb dX7_beginsArgument_31 (by decide) ?_
  have hP9 := hP.sub (ws' := []) [] rfl
  have hD9 := hD.sub (ws' := []) [] (by decide) rfl
  have hK9 := hK.sub (tys' := []) [] rfl
  exact W.zret (v := 1) hx hb hr (by first | rfl | decide) (fun t ht hW => ⟨⟨1, (), rfl, rfl, (zB_mk (by rw [ht]; exact hP9) (va_K.moved hW.alike hK9) hD9)⟩, hS.F ht⟩) hS.2.2 dX7_beginsArgument_35
set_option maxHeartbeats 4000000 in
set_option maxRecDepth 100000 in
/-- X7_blameForm, a road -/
theorem c_X7_blameForm_r0 (l : Launch) (dC : Nat → ClassId) (dI : Nat → Nat → Nat) (sz : Nat) (h0 : Nat) (fs0 : List Value) (p0 : Int32) (hl0 : fs0.length = 18) (hc_0 : p0 < 0) : Met l yX7_blameForm wsX7_blameForm ({ frames := 0, cells := 0, slots := 0, locals := 0 }) (zPc dC dI sz [.ref h0, .int p0] [(h0, .inr (9, fs0))] []) (va_Qv (fun _ : Unit => True) (zB dC dI (fun _ => []) (fun _ : Unit => [(h0, .inr (9, fs0))]) (va_A [(h0, .inr (9, fs0))] sz)) (va_A [(h0, .inr (9, fs0))] sz)) 0 0 (va_A [(h0, .inr (9, fs0))] sz) := by
  refine Met.ofW (cc := cX7_blameForm) (maxL := 2) (ret := none) (by decide) rfl ?_
  intro p e s m args below meth c s₁ B hml hv
  obtain ⟨rfl, hsz, hP, hK, hD0⟩ := hv
  have hx := B.exec
  have hb := B.bytes
  have hr := B.returns
  have hts := atoms_spec (ws := wsX7_blameForm) B.pre
  have hown : s.vm.findClass RX7 = some m.cls := findClass_of_methodNamed B.named
  have hlocks := B.notSynchronized
  subst hsz
  have hD := hD0.self (sz := s.heap.size)
  generalize hAe : va_A [(h0, .inr (9, fs0))] s.heap.size = A at hD ⊢
  have hA : ∀ q : Nat, s.heap.size ≤ q → A q := fun q h => by rw [← hAe]; exact Or.inr h
  have hS : va_S A s.heap s.heap [] := va_S.rf
  have hP : va_P (dC, dI) vwCl [(h0, .inr (9, fs0))] s.heap := hP
  have hl := lv_entry ([.ref h0, .int p0]) (n := 2) (Nat.le_of_ble_eq_true rfl)
  rw [lg_entry_eq]
  generalize (lg_sl ([.ref h0, .int p0]) ++ List.replicate (2 - (lg_sl ([.ref h0, .int p0])).length) Slot.unset).toArray = ls at hl ⊢
  have hl : lv_has ls 2 [(0, .ref h0), (1, .int p0)] := hl
  refine lv_iload_n hx hb dX7_blameForm_0 rfl (lv_at hl 1 rfl) ?_
  refine lv_if_lt (tgt := 24) hx hb dX7_blameForm_1 (by decide) (fun c_1 => ?_) (fun c_1 => absurd hc_0 c_1)
  have hP9 := hP.sub (ws' := [(h0, .inr (9, fs0))]) [0] rfl
  have hD9 := hD.sub (ws' := [(h0, .inr (9, fs0))]) [0] (by decide) rfl
  have hK9 := hK.sub (tys' := []) [] rfl
  exact W.vret hx hb hr (fun t ht hW => ⟨⟨(), rfl, trivial, (zB_mk (by rw [ht]; exact hP9) (va_K.moved hW.alike hK9) hD9)⟩, hS.F ht⟩) hS.2.2 dX7_blameForm_24
theorem iw_X7_blameForm_X7 : ∀ w ∈ wsX70, w ∈ wsX7_blameForm := fun w h => List.mem_cons_of_mem _ (List.mem_append_right _ h)
set_option maxHeartbeats 4000000 in
set_option maxRecDepth 100000 in
/-- X7_blameForm, a road -/
theorem c_X7_blameForm_r1 (l : Launch) (dC : Nat → ClassId) (dI : Nat → Nat → Nat) (sz : Nat) (h0 : Nat) (fs0 : List Value) (p0 : Int32) (v0_17 : Int32) (hl0 : fs0.length = 18) (hf0_17 : fs0[17]? = some (.int v0_17)) (hc_0 : ¬ p0 < 0) (hc_1 : v0_17 < 0) : Met l yX7_blameForm wsX7_blameForm ({ frames := 0, cells := 0, slots := 0, locals := 0 }) (zPc dC dI sz [.ref h0, .int p0] [(h0, .inr (9, fs0))] []) (va_Qv (fun _ : Unit => True) (zB dC dI (fun _ => []) (fun _ : Unit => [(h0, .inr (9, (fs0.set 17 (.int p0))))]) (va_A [(h0, .inr (9, fs0))] sz)) (va_A [(h0, .inr (9, fs0))] sz)) 0 0 (va_A [(h0, .inr (9, fs0))] sz) := by
  refine Met.ofW (cc := cX7_blameForm) (maxL := 2) (ret := none) (by decide) rfl ?_
  intro p e s m args below meth c s₁ B hml hv
  obtain ⟨rfl, hsz, hP, hK, hD0⟩ := hv
  have hx := B.exec
  have hb := B.bytes
  have hr := B.returns
  have hts := atoms_spec (ws := wsX7_blameForm) B.pre
  have hown : s.vm.findClass RX7 = some m.cls := findClass_of_methodNamed B.named
  have hlocks := B.notSynchronized
  subst hsz
  have hD := hD0.self (sz := s.heap.size)
  generalize hAe : va_A [(h0, .inr (9, fs0))] s.heap.size = A at hD ⊢
  have hA : ∀ q : Nat, s.heap.size ≤ q → A q := fun q h => by rw [← hAe]; exact Or.inr h
  have hS : va_S A s.heap s.heap [] := va_S.rf
  have hP : va_P (dC, dI) vwCl [(h0, .inr (9, fs0))] s.heap := hP
  have hl := lv_entry ([.ref h0, .int p0]) (n := 2) (Nat.le_of_ble_eq_true rfl)
  rw [lg_entry_eq]
  generalize (lg_sl ([.ref h0, .int p0]) ++ List.replicate (2 - (lg_sl ([.ref h0, .int p0])).length) Slot.unset).toArray = ls at hl ⊢
  have hl : lv_has ls 2 [(0, .ref h0), (1, .int p0)] := hl
  refine lv_iload_n hx hb dX7_blameForm_0 rfl (lv_at hl 1 rfl) ?_
  refine lv_if_lt (tgt := 24) hx hb dX7_blameForm_1 (by decide) (fun c_1 => absurd c_1 hc_0) (fun c_1 => ?_)
  refine lv_aload_n hx hb dX7_blameForm_4 rfl (lv_at hl 0 rfl) ?_
  refine va_get (D := (dC, dI)) (ci := 9) (v := .int v0_17) (C := RX7) (T := TX7) (N := 18) hx hb hts iw_X7_blameForm_X7 hown hK hP 0 rfl rfl 17 (by decide) (hts (.fieldLink RX7 47 "LiquidTongue$Parser" "formFault" "I") (by decide +kernel)) (fun _ h9 => h9) hf0_17 dX7_blameForm_5 ?_
  refine lv_if_lt (tgt := 19) hx hb dX7_blameForm_8 (by decide) (fun c_2 => ?_) (fun c_2 => absurd hc_1 c_2)
  refine lv_aload_n hx hb dX7_blameForm_19 rfl (lv_at hl 0 rfl) ?_
  refine lv_iload_n hx hb dX7_blameForm_20 rfl (lv_at hl 1 rfl) ?_
  refine va_put (D := (dC, dI)) (ci := 9) (v := .int p0) (ty := .int) (C := RX7) (T := TX7) (N := 18) hx hb hts iw_X7_blameForm_X7 tyX7 tyX7_ok nmX7 hown hK hP hD hS 0 rfl rfl 17 (by decide) (hts (.fieldLink RX7 47 "LiquidTongue$Parser" "formFault" "I") (by decide +kernel)) (fun _ h9 => h9) rfl (by decide +kernel) rfl rfl (zs_lt hl0 (by decide)) dX7_blameForm_21 (fun H locs hP hD hS => ?_)
  have hP : va_P (dC, dI) vwCl [(h0, .inr (9, (fs0.set 17 (.int p0))))] H := hP
  have hD : va_D A [(h0, .inr (9, (fs0.set 17 (.int p0))))] := hD
  have hP9 := hP.sub (ws' := [(h0, .inr (9, (fs0.set 17 (.int p0))))]) [0] rfl
  have hD9 := hD.sub (ws' := [(h0, .inr (9, (fs0.set 17 (.int p0))))]) [0] (by decide) rfl
  have hK9 := hK.sub (tys' := []) [] rfl
  exact W.vret hx hb hr (fun t ht hW => ⟨⟨(), rfl, trivial, (zB_mk (by rw [ht]; exact hP9) (va_K.moved hW.alike hK9) hD9)⟩, hS.F ht⟩) hS.2.2 dX7_blameForm_24
set_option maxHeartbeats 4000000 in
set_option maxRecDepth 100000 in
/-- X7_blameForm, a road -/
theorem c_X7_blameForm_r2 (l : Launch) (dC : Nat → ClassId) (dI : Nat → Nat → Nat) (sz : Nat) (h0 : Nat) (fs0 : List Value) (p0 : Int32) (v0_17 : Int32) (hl0 : fs0.length = 18) (hf0_17 : fs0[17]? = some (.int v0_17)) (hc_0 : ¬ p0 < 0) (hc_1 : ¬ v0_17 < 0) (hc_2 : v0_17 ≤ p0) : Met l yX7_blameForm wsX7_blameForm ({ frames := 0, cells := 0, slots := 0, locals := 0 }) (zPc dC dI sz [.ref h0, .int p0] [(h0, .inr (9, fs0))] []) (va_Qv (fun _ : Unit => True) (zB dC dI (fun _ => []) (fun _ : Unit => [(h0, .inr (9, fs0))]) (va_A [(h0, .inr (9, fs0))] sz)) (va_A [(h0, .inr (9, fs0))] sz)) 0 0 (va_A [(h0, .inr (9, fs0))] sz) := by
  refine Met.ofW (cc := cX7_blameForm) (maxL := 2) (ret := none) (by decide) rfl ?_
  intro p e s m args below meth c s₁ B hml hv
  obtain ⟨rfl, hsz, hP, hK, hD0⟩ := hv
  have hx := B.exec
  have hb := B.bytes
  have hr := B.returns
  have hts := atoms_spec (ws := wsX7_blameForm) B.pre
  have hown : s.vm.findClass RX7 = some m.cls := findClass_of_methodNamed B.named
  have hlocks := B.notSynchronized
  subst hsz
  have hD := hD0.self (sz := s.heap.size)
  generalize hAe : va_A [(h0, .inr (9, fs0))] s.heap.size = A at hD ⊢
  have hA : ∀ q : Nat, s.heap.size ≤ q → A q := fun q h => by rw [← hAe]; exact Or.inr h
  have hS : va_S A s.heap s.heap [] := va_S.rf
  have hP : va_P (dC, dI) vwCl [(h0, .inr (9, fs0))] s.heap := hP
  have hl := lv_entry ([.ref h0, .int p0]) (n := 2) (Nat.le_of_ble_eq_true rfl)
  rw [lg_entry_eq]
  generalize (lg_sl ([.ref h0, .int p0]) ++ List.replicate (2 - (lg_sl ([.ref h0, .int p0])).length) Slot.unset).toArray = ls at hl ⊢
  have hl : lv_has ls 2 [(0, .ref h0), (1, .int p0)] := hl
  refine lv_iload_n hx hb dX7_blameForm_0 rfl (lv_at hl 1 rfl) ?_
  refine lv_if_lt (tgt := 24) hx hb dX7_blameForm_1 (by decide) (fun c_1 => absurd c_1 hc_0) (fun c_1 => ?_)
  refine lv_aload_n hx hb dX7_blameForm_4 rfl (lv_at hl 0 rfl) ?_
  refine va_get (D := (dC, dI)) (ci := 9) (v := .int v0_17) (C := RX7) (T := TX7) (N := 18) hx hb hts iw_X7_blameForm_X7 hown hK hP 0 rfl rfl 17 (by decide) (hts (.fieldLink RX7 47 "LiquidTongue$Parser" "formFault" "I") (by decide +kernel)) (fun _ h9 => h9) hf0_17 dX7_blameForm_5 ?_
  refine lv_if_lt (tgt := 19) hx hb dX7_blameForm_8 (by decide) (fun c_2 => absurd c_2 hc_1) (fun c_2 => ?_)
  refine lv_iload_n hx hb dX7_blameForm_11 rfl (lv_at hl 1 rfl) ?_
  refine lv_aload_n hx hb dX7_blameForm_12 rfl (lv_at hl 0 rfl) ?_
  refine va_get (D := (dC, dI)) (ci := 9) (v := .int v0_17) (C := RX7) (T := TX7) (N := 18) hx hb hts iw_X7_blameForm_X7 hown hK hP 0 rfl rfl 17 (by decide) (hts (.fieldLink RX7 47 "LiquidTongue$Parser" "formFault" "I") (by decide +kernel)) (fun _ h9 => h9) hf0_17 dX7_blameForm_13 ?_
  refine lv_icmp_ge (tgt := 24) hx hb dX7_blameForm_16 (by decide) (fun c_3 => ?_) (fun c_3 => absurd hc_2 c_3)
  have hP9 := hP.sub (ws' := [(h0, .inr (9, fs0))]) [0] rfl
  have hD9 := hD.sub (ws' := [(h0, .inr (9, fs0))]) [0] (by decide) rfl
  have hK9 := hK.sub (tys' := []) [] rfl
  exact W.vret hx hb hr (fun t ht hW => ⟨⟨(), rfl, trivial, (zB_mk (by rw [ht]; exact hP9) (va_K.moved hW.alike hK9) hD9)⟩, hS.F ht⟩) hS.2.2 dX7_blameForm_24
set_option maxHeartbeats 4000000 in
set_option maxRecDepth 100000 in
/-- X7_blameForm, a road -/
theorem c_X7_blameForm_r3 (l : Launch) (dC : Nat → ClassId) (dI : Nat → Nat → Nat) (sz : Nat) (h0 : Nat) (fs0 : List Value) (p0 : Int32) (v0_17 : Int32) (hl0 : fs0.length = 18) (hf0_17 : fs0[17]? = some (.int v0_17)) (hc_0 : ¬ p0 < 0) (hc_1 : ¬ v0_17 < 0) (hc_2 : ¬ v0_17 ≤ p0) : Met l yX7_blameForm wsX7_blameForm ({ frames := 0, cells := 0, slots := 0, locals := 0 }) (zPc dC dI sz [.ref h0, .int p0] [(h0, .inr (9, fs0))] []) (va_Qv (fun _ : Unit => True) (zB dC dI (fun _ => []) (fun _ : Unit => [(h0, .inr (9, (fs0.set 17 (.int p0))))]) (va_A [(h0, .inr (9, fs0))] sz)) (va_A [(h0, .inr (9, fs0))] sz)) 0 0 (va_A [(h0, .inr (9, fs0))] sz) := by
  refine Met.ofW (cc := cX7_blameForm) (maxL := 2) (ret := none) (by decide) rfl ?_
  intro p e s m args below meth c s₁ B hml hv
  obtain ⟨rfl, hsz, hP, hK, hD0⟩ := hv
  have hx := B.exec
  have hb := B.bytes
  have hr := B.returns
  have hts := atoms_spec (ws := wsX7_blameForm) B.pre
  have hown : s.vm.findClass RX7 = some m.cls := findClass_of_methodNamed B.named
  have hlocks := B.notSynchronized
  subst hsz
  have hD := hD0.self (sz := s.heap.size)
  generalize hAe : va_A [(h0, .inr (9, fs0))] s.heap.size = A at hD ⊢
  have hA : ∀ q : Nat, s.heap.size ≤ q → A q := fun q h => by rw [← hAe]; exact Or.inr h
  have hS : va_S A s.heap s.heap [] := va_S.rf
  have hP : va_P (dC, dI) vwCl [(h0, .inr (9, fs0))] s.heap := hP
  have hl := lv_entry ([.ref h0, .int p0]) (n := 2) (Nat.le_of_ble_eq_true rfl)
  rw [lg_entry_eq]
  generalize (lg_sl ([.ref h0, .int p0]) ++ List.replicate (2 - (lg_sl ([.ref h0, .int p0])).length) Slot.unset).toArray = ls at hl ⊢
  have hl : lv_has ls 2 [(0, .ref h0), (1, .int p0)] := hl
  refine lv_iload_n hx hb dX7_blameForm_0 rfl (lv_at hl 1 rfl) ?_
  refine lv_if_lt (tgt := 24) hx hb dX7_blameForm_1 (by decide) (fun c_1 => absurd c_1 hc_0) (fun c_1 => ?_)
  refine lv_aload_n hx hb dX7_blameForm_4 rfl (lv_at hl 0 rfl) ?_
  refine va_get (D := (dC, dI)) (ci := 9) (v := .int v0_17) (C := RX7) (T := TX7) (N := 18) hx hb hts iw_X7_blameForm_X7 hown hK hP 0 rfl rfl 17 (by decide) (hts (.fieldLink RX7 47 "LiquidTongue$Parser" "formFault" "I") (by decide +kernel)) (fun _ h9 => h9) hf0_17 dX7_blameForm_5 ?_
  refine lv_if_lt (tgt := 19) hx hb dX7_blameForm_8 (by decide) (fun c_2 => absurd c_2 hc_1) (fun c_2 => ?_)
  refine lv_iload_n hx hb dX7_blameForm_11 rfl (lv_at hl 1 rfl) ?_
  refine lv_aload_n hx hb dX7_blameForm_12 rfl (lv_at hl 0 rfl) ?_
  refine va_get (D := (dC, dI)) (ci := 9) (v := .int v0_17) (C := RX7) (T := TX7) (N := 18) hx hb hts iw_X7_blameForm_X7 hown hK hP 0 rfl rfl 17 (by decide) (hts (.fieldLink RX7 47 "LiquidTongue$Parser" "formFault" "I") (by decide +kernel)) (fun _ h9 => h9) hf0_17 dX7_blameForm_13 ?_
  refine lv_icmp_ge (tgt := 24) hx hb dX7_blameForm_16 (by decide) (fun c_3 => absurd c_3 hc_2) (fun c_3 => ?_)
  refine lv_aload_n hx hb dX7_blameForm_19 rfl (lv_at hl 0 rfl) ?_
  refine lv_iload_n hx hb dX7_blameForm_20 rfl (lv_at hl 1 rfl) ?_
  refine va_put (D := (dC, dI)) (ci := 9) (v := .int p0) (ty := .int) (C := RX7) (T := TX7) (N := 18) hx hb hts iw_X7_blameForm_X7 tyX7 tyX7_ok nmX7 hown hK hP hD hS 0 rfl rfl 17 (by decide) (hts (.fieldLink RX7 47 "LiquidTongue$Parser" "formFault" "I") (by decide +kernel)) (fun _ h9 => h9) rfl (by decide +kernel) rfl rfl (zs_lt hl0 (by decide)) dX7_blameForm_21 (fun H locs hP hD hS => ?_)
  have hP : va_P (dC, dI) vwCl [(h0, .inr (9, (fs0.set 17 (.int p0))))] H := hP
  have hD : va_D A [(h0, .inr (9, (fs0.set 17 (.int p0))))] := hD
  have hP9 := hP.sub (ws' := [(h0, .inr (9, (fs0.set 17 (.int p0))))]) [0] rfl
  have hD9 := hD.sub (ws' := [(h0, .inr (9, (fs0.set 17 (.int p0))))]) [0] (by decide) rfl
  have hK9 := hK.sub (tys' := []) [] rfl
  exact W.vret hx hb hr (fun t ht hW => ⟨⟨(), rfl, trivial, (zB_mk (by rw [ht]; exact hP9) (va_K.moved hW.alike hK9) hD9)⟩, hS.F ht⟩) hS.2.2 dX7_blameForm_24
theorem iw_X7_here_X7 : ∀ w ∈ wsX70, w ∈ wsX7_here := fun w h => List.mem_cons_of_mem _ (List.mem_append_left _ (List.mem_append_right _ h))
theorem iw_X7_here_X11 : ∀ w ∈ wsX110, w ∈ wsX7_here := fun w h => List.mem_cons_of_mem _ (List.mem_append_right _ h)
set_option maxHeartbeats 4000000 in
set_option maxRecDepth 100000 in
/-- X7_here, a road -/
theorem c_X7_here_r0 (l : Launch) (dC : Nat → ClassId) (dI : Nat → Nat → Nat) (sz : Nat) (h0 : Nat) (fs0 : List Value) (v0_0 : Nat) (fs1 : List Value) (v1_2 : Nat) (v0_11 : Int32) (n_v1_2 : Nat) (c_v1_2 : ClassId) (f_v1_2 : Nat → Int32) (hl0 : fs0.length = 18) (hf0_0 : fs0[0]? = some (.ref v0_0)) (hl1 : fs1.length = 6) (hf1_2 : fs1[2]? = some (.ref v1_2)) (hf0_11 : fs0[11]? = some (.int v0_11)) (hi_0 : vp_in v0_11 n_v1_2) : Met l yX7_here wsX7_here ({ frames := 0, cells := 0, slots := 0, locals := 0 }) (zPc dC dI sz [.ref h0] [(h0, .inr (9, fs0)), (v0_0, .inr (13, fs1)), (v1_2, .inl (c_v1_2, n_v1_2, .inl f_v1_2))] [(c_v1_2, .int)]) (va_Qi (fun (r : Int32) (_ : Unit) => r = (f_v1_2 (v0_11).toNatClampNeg)) (zB dC dI (fun _ => [(c_v1_2, .int)]) (fun _ : Unit => [(h0, .inr (9, fs0)), (v0_0, .inr (13, fs1)), (v1_2, .inl (c_v1_2, n_v1_2, .inl f_v1_2))]) (va_A [(h0, .inr (9, fs0)), (v0_0, .inr (13, fs1)), (v1_2, .inl (c_v1_2, n_v1_2, .inl f_v1_2))] sz)) (va_A [(h0, .inr (9, fs0)), (v0_0, .inr (13, fs1)), (v1_2, .inl (c_v1_2, n_v1_2, .inl f_v1_2))] sz)) 0 0 (va_A [(h0, .inr (9, fs0)), (v0_0, .inr (13, fs1)), (v1_2, .inl (c_v1_2, n_v1_2, .inl f_v1_2))] sz) := by
  refine Met.ofW (cc := cX7_here) (maxL := 1) (ret := (some .int)) (by decide) rfl ?_
  intro p e s m args below meth c s₁ B hml hv
  obtain ⟨rfl, hsz, hP, hK, hD0⟩ := hv
  have hx := B.exec
  have hb := B.bytes
  have hr := B.returns
  have hts := atoms_spec (ws := wsX7_here) B.pre
  have hown : s.vm.findClass RX7 = some m.cls := findClass_of_methodNamed B.named
  have hlocks := B.notSynchronized
  subst hsz
  have hD := hD0.self (sz := s.heap.size)
  generalize hAe : va_A [(h0, .inr (9, fs0)), (v0_0, .inr (13, fs1)), (v1_2, .inl (c_v1_2, n_v1_2, .inl f_v1_2))] s.heap.size = A at hD ⊢
  have hA : ∀ q : Nat, s.heap.size ≤ q → A q := fun q h => by rw [← hAe]; exact Or.inr h
  have hS : va_S A s.heap s.heap [] := va_S.rf
  have hP : va_P (dC, dI) vwCl [(h0, .inr (9, fs0)), (v0_0, .inr (13, fs1)), (v1_2, .inl (c_v1_2, n_v1_2, .inl f_v1_2))] s.heap := hP
  have hl := lv_entry ([.ref h0]) (n := 1) (Nat.le_of_ble_eq_true rfl)
  rw [lg_entry_eq]
  generalize (lg_sl ([.ref h0]) ++ List.replicate (1 - (lg_sl ([.ref h0])).length) Slot.unset).toArray = ls at hl ⊢
  have hl : lv_has ls 1 [(0, .ref h0)] := hl
  refine lv_aload_n hx hb dX7_here_0 rfl (lv_at hl 0 rfl) ?_
  refine va_get (D := (dC, dI)) (ci := 9) (v := .ref v0_0) (C := RX7) (T := TX7) (N := 18) hx hb hts iw_X7_here_X7 hown hK hP 0 rfl rfl 0 (by decide) (hts (.fieldLink RX7 50 "LiquidTongue$Parser" "words" "LLiquidTongue$Words;") (by decide +kernel)) (fun _ h9 => h9) hf0_0 dX7_here_1 ?_
  refine va_get (D := (dC, dI)) (ci := 13) (v := .ref v1_2) (C := RX11) (T := TX11) (N := 6) hx hb hts iw_X7_here_X11 hown hK hP 1 rfl rfl 2 (by decide) (hts (.fieldLink RX7 89 "LiquidTongue$Words" "places" "[I") (by decide +kernel)) (fun _ h9 => h9) hf1_2 dX7_here_4 ?_
  refine lv_aload_n hx hb dX7_here_7 rfl (lv_at hl 0 rfl) ?_
  refine va_get (D := (dC, dI)) (ci := 9) (v := .int v0_11) (C := RX7) (T := TX7) (N := 18) hx hb hts iw_X7_here_X7 hown hK hP 0 rfl rfl 11 (by decide) (hts (.fieldLink RX7 86 "LiquidTongue$Parser" "at" "I") (by decide +kernel)) (fun _ h9 => h9) hf0_11 dX7_here_8 ?_
  refine va_iald hx hb hK hP 2 0 rfl rfl hi_0 dX7_here_11 ?_
  have hP9 := hP.sub (ws' := [(h0, .inr (9, fs0)), (v0_0, .inr (13, fs1)), (v1_2, .inl (c_v1_2, n_v1_2, .inl f_v1_2))]) [0, 1, 2] rfl
  have hD9 := hD.sub (ws' := [(h0, .inr (9, fs0)), (v0_0, .inr (13, fs1)), (v1_2, .inl (c_v1_2, n_v1_2, .inl f_v1_2))]) [0, 1, 2] (by decide) rfl
  have hK9 := hK.sub (tys' := [(c_v1_2, .int)]) [0] rfl
  exact W.iret (v := (f_v1_2 (v0_11).toNatClampNeg)) hx hb hr (fun t ht hW => ⟨⟨(f_v1_2 (v0_11).toNatClampNeg), (), rfl, rfl, (zB_mk (by rw [ht]; exact hP9) (va_K.moved hW.alike hK9) hD9)⟩, hS.F ht⟩) hS.2.2 dX7_here_12
set_option maxHeartbeats 4000000 in
set_option maxRecDepth 100000 in
/-- X7_isRelation, a road -/
theorem c_X7_isRelation_r0 (l : Launch) (dC : Nat → ClassId) (dI : Nat → Nat → Nat) (sz : Nat) (p0 : Int32) (hc_0 : p0 = 61) : Met l yX7_isRelation wsX7_isRelation ({ frames := 0, cells := 0, slots := 0, locals := 0 }) (zPc dC dI sz [.int p0] [] []) (va_Qi (fun (r : Int32) (_ : Unit) => r = 1) (zB dC dI (fun _ => []) (fun _ : Unit => []) (va_A [] sz)) (va_A [] sz)) 0 0 (va_A [] sz) := by
  refine Met.ofW (cc := cX7_isRelation) (maxL := 1) (ret := (some .boolean)) (by decide) rfl ?_
  intro p e s m args below meth c s₁ B hml hv
  obtain ⟨rfl, hsz, hP, hK, hD0⟩ := hv
  have hx := B.exec
  have hb := B.bytes
  have hr := B.returns
  have hts := atoms_spec (ws := wsX7_isRelation) B.pre
  have hown : s.vm.findClass RX7 = some m.cls := findClass_of_methodNamed B.named
  have hlocks := B.notSynchronized
  subst hsz
  have hD := hD0.self (sz := s.heap.size)
  generalize hAe : va_A [] s.heap.size = A at hD ⊢
  have hA : ∀ q : Nat, s.heap.size ≤ q → A q := fun q h => by rw [← hAe]; exact Or.inr h
  have hS : va_S A s.heap s.heap [] := va_S.rf
  have hP : va_P (dC, dI) vwCl [] s.heap := hP
  have hl := lv_entry ([.int p0]) (n := 1) (Nat.le_of_ble_eq_true rfl)
  rw [lg_entry_eq]
  generalize (lg_sl ([.int p0]) ++ List.replicate (1 - (lg_sl ([.int p0])).length) Slot.unset).toArray = ls at hl ⊢
  have hl : lv_has ls 1 [(0, .int p0)] := hl
  refine lv_iload_n hx hb dX7_isRelation_0 rfl (lv_at hl 0 rfl) ?_
  refine lv_bipush (v := 61) hx hb dX7_isRelation_1 (by decide) ?_
  refine lv_icmp_eq (tgt := 32) hx hb dX7_isRelation_3 (by decide) (fun c_1 => ?_) (fun c_1 => absurd hc_0 c_1)
  refine lv_iconst (v := 1) hx hb dX7_isRelation_32 (by decide) ?_
  refine lv_goto (tgt := 37) hx hb dX7_isRelation_33 (by decide) ?_
  have hP9 := hP.sub (ws' := []) [] rfl
  have hD9 := hD.sub (ws' := []) [] (by decide) rfl
  have hK9 := hK.sub (tys' := []) [] rfl
  exact W.zret (v := 1) hx hb hr (by first | rfl | decide) (fun t ht hW => ⟨⟨1, (), rfl, rfl, (zB_mk (by rw [ht]; exact hP9) (va_K.moved hW.alike hK9) hD9)⟩, hS.F ht⟩) hS.2.2 dX7_isRelation_37
set_option maxHeartbeats 4000000 in
set_option maxRecDepth 100000 in
/-- X7_isRelation, a road -/
theorem c_X7_isRelation_r1 (l : Launch) (dC : Nat → ClassId) (dI : Nat → Nat → Nat) (sz : Nat) (p0 : Int32) (hc_0 : ¬ p0 = 61) (hc_1 : p0 = 60) : Met l yX7_isRelation wsX7_isRelation ({ frames := 0, cells := 0, slots := 0, locals := 0 }) (zPc dC dI sz [.int p0] [] []) (va_Qi (fun (r : Int32) (_ : Unit) => r = 1) (zB dC dI (fun _ => []) (fun _ : Unit => []) (va_A [] sz)) (va_A [] sz)) 0 0 (va_A [] sz) := by
  refine Met.ofW (cc := cX7_isRelation) (maxL := 1) (ret := (some .boolean)) (by decide) rfl ?_
  intro p e s m args below meth c s₁ B hml hv
  obtain ⟨rfl, hsz, hP, hK, hD0⟩ := hv
  have hx := B.exec
  have hb := B.bytes
  have hr := B.returns
  have hts := atoms_spec (ws := wsX7_isRelation) B.pre
  have hown : s.vm.findClass RX7 = some m.cls := findClass_of_methodNamed B.named
  have hlocks := B.notSynchronized
  subst hsz
  have hD := hD0.self (sz := s.heap.size)
  generalize hAe : va_A [] s.heap.size = A at hD ⊢
  have hA : ∀ q : Nat, s.heap.size ≤ q → A q := fun q h => by rw [← hAe]; exact Or.inr h
  have hS : va_S A s.heap s.heap [] := va_S.rf
  have hP : va_P (dC, dI) vwCl [] s.heap := hP
  have hl := lv_entry ([.int p0]) (n := 1) (Nat.le_of_ble_eq_true rfl)
  rw [lg_entry_eq]
  generalize (lg_sl ([.int p0]) ++ List.replicate (1 - (lg_sl ([.int p0])).length) Slot.unset).toArray = ls at hl ⊢
  have hl : lv_has ls 1 [(0, .int p0)] := hl
  refine lv_iload_n hx hb dX7_isRelation_0 rfl (lv_at hl 0 rfl) ?_
  refine lv_bipush (v := 61) hx hb dX7_isRelation_1 (by decide) ?_
  refine lv_icmp_eq (tgt := 32) hx hb dX7_isRelation_3 (by decide) (fun c_1 => absurd c_1 hc_0) (fun c_1 => ?_)
  refine lv_iload_n hx hb dX7_isRelation_6 rfl (lv_at hl 0 rfl) ?_
  refine lv_bipush (v := 60) hx hb dX7_isRelation_7 (by decide) ?_
  refine lv_icmp_eq (tgt := 32) hx hb dX7_isRelation_9 (by decide) (fun c_2 => ?_) (fun c_2 => absurd hc_1 c_2)
  refine lv_iconst (v := 1) hx hb dX7_isRelation_32 (by decide) ?_
  refine lv_goto (tgt := 37) hx hb dX7_isRelation_33 (by decide) ?_
  have hP9 := hP.sub (ws' := []) [] rfl
  have hD9 := hD.sub (ws' := []) [] (by decide) rfl
  have hK9 := hK.sub (tys' := []) [] rfl
  exact W.zret (v := 1) hx hb hr (by first | rfl | decide) (fun t ht hW => ⟨⟨1, (), rfl, rfl, (zB_mk (by rw [ht]; exact hP9) (va_K.moved hW.alike hK9) hD9)⟩, hS.F ht⟩) hS.2.2 dX7_isRelation_37
set_option maxHeartbeats 4000000 in
set_option maxRecDepth 100000 in
/-- X7_isRelation, a road -/
theorem c_X7_isRelation_r2 (l : Launch) (dC : Nat → ClassId) (dI : Nat → Nat → Nat) (sz : Nat) (p0 : Int32) (hc_0 : ¬ p0 = 61) (hc_1 : ¬ p0 = 60) (hc_2 : p0 = 300) : Met l yX7_isRelation wsX7_isRelation ({ frames := 0, cells := 0, slots := 0, locals := 0 }) (zPc dC dI sz [.int p0] [] []) (va_Qi (fun (r : Int32) (_ : Unit) => r = 1) (zB dC dI (fun _ => []) (fun _ : Unit => []) (va_A [] sz)) (va_A [] sz)) 0 0 (va_A [] sz) := by
  refine Met.ofW (cc := cX7_isRelation) (maxL := 1) (ret := (some .boolean)) (by decide) rfl ?_
  intro p e s m args below meth c s₁ B hml hv
  obtain ⟨rfl, hsz, hP, hK, hD0⟩ := hv
  have hx := B.exec
  have hb := B.bytes
  have hr := B.returns
  have hts := atoms_spec (ws := wsX7_isRelation) B.pre
  have hown : s.vm.findClass RX7 = some m.cls := findClass_of_methodNamed B.named
  have hlocks := B.notSynchronized
  subst hsz
  have hD := hD0.self (sz := s.heap.size)
  generalize hAe : va_A [] s.heap.size = A at hD ⊢
  have hA : ∀ q : Nat, s.heap.size ≤ q → A q := fun q h => by rw [← hAe]; exact Or.inr h
  have hS : va_S A s.heap s.heap [] := va_S.rf
  have hP : va_P (dC, dI) vwCl [] s.heap := hP
  have hl := lv_entry ([.int p0]) (n := 1) (Nat.le_of_ble_eq_true rfl)
  rw [lg_entry_eq]
  generalize (lg_sl ([.int p0]) ++ List.replicate (1 - (lg_sl ([.int p0])).length) Slot.unset).toArray = ls at hl ⊢
  have hl : lv_has ls 1 [(0, .int p0)] := hl
  refine lv_iload_n hx hb dX7_isRelation_0 rfl (lv_at hl 0 rfl) ?_
  refine lv_bipush (v := 61) hx hb dX7_isRelation_1 (by decide) ?_
  refine lv_icmp_eq (tgt := 32) hx hb dX7_isRelation_3 (by decide) (fun c_1 => absurd c_1 hc_0) (fun c_1 => ?_)
  refine lv_iload_n hx hb dX7_isRelation_6 rfl (lv_at hl 0 rfl) ?_
  refine lv_bipush (v := 60) hx hb dX7_isRelation_7 (by decide) ?_
  refine lv_icmp_eq (tgt := 32) hx hb dX7_isRelation_9 (by decide) (fun c_2 => absurd c_2 hc_1) (fun c_2 => ?_)
  refine lv_iload_n hx hb dX7_isRelation_12 rfl (lv_at hl 0 rfl) ?_
  refine lv_sipush (v := 300) hx hb dX7_isRelation_13 (by decide) ?_
  refine lv_icmp_eq (tgt := 32) hx hb dX7_isRelation_16 (by decide) (fun c_3 => ?_) (fun c_3 => absurd hc_2 c_3)
  refine lv_iconst (v := 1) hx hb dX7_isRelation_32 (by decide) ?_
  refine lv_goto (tgt := 37) hx hb dX7_isRelation_33 (by decide) ?_
  have hP9 := hP.sub (ws' := []) [] rfl
  have hD9 := hD.sub (ws' := []) [] (by decide) rfl
  have hK9 := hK.sub (tys' := []) [] rfl
  exact W.zret (v := 1) hx hb hr (by first | rfl | decide) (fun t ht hW => ⟨⟨1, (), rfl, rfl, (zB_mk (by rw [ht]; exact hP9) (va_K.moved hW.alike hK9) hD9)⟩, hS.F ht⟩) hS.2.2 dX7_isRelation_37
set_option maxHeartbeats 4000000 in
set_option maxRecDepth 100000 in
/-- X7_isRelation, a road -/
theorem c_X7_isRelation_r3 (l : Launch) (dC : Nat → ClassId) (dI : Nat → Nat → Nat) (sz : Nat) (p0 : Int32) (hc_0 : ¬ p0 = 61) (hc_1 : ¬ p0 = 60) (hc_2 : ¬ p0 = 300) (hc_3 : p0 = 62) : Met l yX7_isRelation wsX7_isRelation ({ frames := 0, cells := 0, slots := 0, locals := 0 }) (zPc dC dI sz [.int p0] [] []) (va_Qi (fun (r : Int32) (_ : Unit) => r = 1) (zB dC dI (fun _ => []) (fun _ : Unit => []) (va_A [] sz)) (va_A [] sz)) 0 0 (va_A [] sz) := by
  refine Met.ofW (cc := cX7_isRelation) (maxL := 1) (ret := (some .boolean)) (by decide) rfl ?_
  intro p e s m args below meth c s₁ B hml hv
  obtain ⟨rfl, hsz, hP, hK, hD0⟩ := hv
  have hx := B.exec
  have hb := B.bytes
  have hr := B.returns
  have hts := atoms_spec (ws := wsX7_isRelation) B.pre
  have hown : s.vm.findClass RX7 = some m.cls := findClass_of_methodNamed B.named
  have hlocks := B.notSynchronized
  subst hsz
  have hD := hD0.self (sz := s.heap.size)
  generalize hAe : va_A [] s.heap.size = A at hD ⊢
  have hA : ∀ q : Nat, s.heap.size ≤ q → A q := fun q h => by rw [← hAe]; exact Or.inr h
  have hS : va_S A s.heap s.heap [] := va_S.rf
  have hP : va_P (dC, dI) vwCl [] s.heap := hP
  have hl := lv_entry ([.int p0]) (n := 1) (Nat.le_of_ble_eq_true rfl)
  rw [lg_entry_eq]
  generalize (lg_sl ([.int p0]) ++ List.replicate (1 - (lg_sl ([.int p0])).length) Slot.unset).toArray = ls at hl ⊢
  have hl : lv_has ls 1 [(0, .int p0)] := hl
  refine lv_iload_n hx hb dX7_isRelation_0 rfl (lv_at hl 0 rfl) ?_
  refine lv_bipush (v := 61) hx hb dX7_isRelation_1 (by decide) ?_
  refine lv_icmp_eq (tgt := 32) hx hb dX7_isRelation_3 (by decide) (fun c_1 => absurd c_1 hc_0) (fun c_1 => ?_)
  refine lv_iload_n hx hb dX7_isRelation_6 rfl (lv_at hl 0 rfl) ?_
  refine lv_bipush (v := 60) hx hb dX7_isRelation_7 (by decide) ?_
  refine lv_icmp_eq (tgt := 32) hx hb dX7_isRelation_9 (by decide) (fun c_2 => absurd c_2 hc_1) (fun c_2 => ?_)
  refine lv_iload_n hx hb dX7_isRelation_12 rfl (lv_at hl 0 rfl) ?_
  refine lv_sipush (v := 300) hx hb dX7_isRelation_13 (by decide) ?_
  refine lv_icmp_eq (tgt := 32) hx hb dX7_isRelation_16 (by decide) (fun c_3 => absurd c_3 hc_2) (fun c_3 => ?_)
  refine lv_iload_n hx hb dX7_isRelation_19 rfl (lv_at hl 0 rfl) ?_
  refine lv_bipush (v := 62) hx hb dX7_isRelation_20 (by decide) ?_
  refine lv_icmp_eq (tgt := 32) hx hb dX7_isRelation_22 (by decide) (fun c_4 => ?_) (fun c_4 => absurd hc_3 c_4)
  refine lv_iconst (v := 1) hx hb dX7_isRelation_32 (by decide) ?_
  refine lv_goto (tgt := 37) hx hb dX7_isRelation_33 (by decide) ?_
  have hP9 := hP.sub (ws' := []) [] rfl
  have hD9 := hD.sub (ws' := []) [] (by decide) rfl
  have hK9 := hK.sub (tys' := []) [] rfl
  exact W.zret (v := 1) hx hb hr (by first | rfl | decide) (fun t ht hW => ⟨⟨1, (), rfl, rfl, (zB_mk (by rw [ht]; exact hP9) (va_K.moved hW.alike hK9) hD9)⟩, hS.F ht⟩) hS.2.2 dX7_isRelation_37
set_option maxHeartbeats 4000000 in
set_option maxRecDepth 100000 in
/-- X7_isRelation, a road -/
theorem c_X7_isRelation_r4 (l : Launch) (dC : Nat → ClassId) (dI : Nat → Nat → Nat) (sz : Nat) (p0 : Int32) (hc_0 : ¬ p0 = 61) (hc_1 : ¬ p0 = 60) (hc_2 : ¬ p0 = 300) (hc_3 : ¬ p0 = 62) (hc_4 : ¬ p0 = 301) : Met l yX7_isRelation wsX7_isRelation ({ frames := 0, cells := 0, slots := 0, locals := 0 }) (zPc dC dI sz [.int p0] [] []) (va_Qi (fun (r : Int32) (_ : Unit) => r = 0) (zB dC dI (fun _ => []) (fun _ : Unit => []) (va_A [] sz)) (va_A [] sz)) 0 0 (va_A [] sz) := by
  refine Met.ofW (cc := cX7_isRelation) (maxL := 1) (ret := (some .boolean)) (by decide) rfl ?_
  intro p e s m args below meth c s₁ B hml hv
  obtain ⟨rfl, hsz, hP, hK, hD0⟩ := hv
  have hx := B.exec
  have hb := B.bytes
  have hr := B.returns
  have hts := atoms_spec (ws := wsX7_isRelation) B.pre
  have hown : s.vm.findClass RX7 = some m.cls := findClass_of_methodNamed B.named
  have hlocks := B.notSynchronized
  subst hsz
  have hD := hD0.self (sz := s.heap.size)
  generalize hAe : va_A [] s.heap.size = A at hD ⊢
  have hA : ∀ q : Nat, s.heap.size ≤ q → A q := fun q h => by rw [← hAe]; exact Or.inr h
  have hS : va_S A s.heap s.heap [] := va_S.rf
  have hP : va_P (dC, dI) vwCl [] s.heap := hP
  have hl := lv_entry ([.int p0]) (n := 1) (Nat.le_of_ble_eq_true rfl)
  rw [lg_entry_eq]
  generalize (lg_sl ([.int p0]) ++ List.replicate (1 - (lg_sl ([.int p0])).length) Slot.unset).toArray = ls at hl ⊢
  have hl : lv_has ls 1 [(0, .int p0)] := hl
  refine lv_iload_n hx hb dX7_isRelation_0 rfl (lv_at hl 0 rfl) ?_
  refine lv_bipush (v := 61) hx hb dX7_isRelation_1 (by decide) ?_
  refine lv_icmp_eq (tgt := 32) hx hb dX7_isRelation_3 (by decide) (fun c_1 => absurd c_1 hc_0) (fun c_1 => ?_)
  refine lv_iload_n hx hb dX7_isRelation_6 rfl (lv_at hl 0 rfl) ?_
  refine lv_bipush (v := 60) hx hb dX7_isRelation_7 (by decide) ?_
  refine lv_icmp_eq (tgt := 32) hx hb dX7_isRelation_9 (by decide) (fun c_2 => absurd c_2 hc_1) (fun c_2 => ?_)
  refine lv_iload_n hx hb dX7_isRelation_12 rfl (lv_at hl 0 rfl) ?_
  refine lv_sipush (v := 300) hx hb dX7_isRelation_13 (by decide) ?_
  refine lv_icmp_eq (tgt := 32) hx hb dX7_isRelation_16 (by decide) (fun c_3 => absurd c_3 hc_2) (fun c_3 => ?_)
  refine lv_iload_n hx hb dX7_isRelation_19 rfl (lv_at hl 0 rfl) ?_
  refine lv_bipush (v := 62) hx hb dX7_isRelation_20 (by decide) ?_
  refine lv_icmp_eq (tgt := 32) hx hb dX7_isRelation_22 (by decide) (fun c_4 => absurd c_4 hc_3) (fun c_4 => ?_)
  refine lv_iload_n hx hb dX7_isRelation_25 rfl (lv_at hl 0 rfl) ?_
  refine lv_sipush (v := 301) hx hb dX7_isRelation_26 (by decide) ?_
  refine lv_icmp_ne (tgt := 36) hx hb dX7_isRelation_29 (by decide) (fun c_5 => ?_) (fun c_5 => absurd c_5 hc_4)
  refine lv_iconst (v := 0) hx hb dX7_isRelation_36 (by decide) ?_
  have hP9 := hP.sub (ws' := []) [] rfl
  have hD9 := hD.sub (ws' := []) [] (by decide) rfl
  have hK9 := hK.sub (tys' := []) [] rfl
  exact W.zret (v := 0) hx hb hr (by first | rfl | decide) (fun t ht hW => ⟨⟨0, (), rfl, rfl, (zB_mk (by rw [ht]; exact hP9) (va_K.moved hW.alike hK9) hD9)⟩, hS.F ht⟩) hS.2.2 dX7_isRelation_37
set_option maxHeartbeats 4000000 in
set_option maxRecDepth 100000 in
/-- X7_isRelation, a road -/
theorem c_X7_isRelation_r5 (l : Launch) (dC : Nat → ClassId) (dI : Nat → Nat → Nat) (sz : Nat) (p0 : Int32) (hc_0 : ¬ p0 = 61) (hc_1 : ¬ p0 = 60) (hc_2 : ¬ p0 = 300) (hc_3 : ¬ p0 = 62) (hc_4 : p0 = 301) : Met l yX7_isRelation wsX7_isRelation ({ frames := 0, cells := 0, slots := 0, locals := 0 }) (zPc dC dI sz [.int p0] [] []) (va_Qi (fun (r : Int32) (_ : Unit) => r = 1) (zB dC dI (fun _ => []) (fun _ : Unit => []) (va_A [] sz)) (va_A [] sz)) 0 0 (va_A [] sz) := by
  refine Met.ofW (cc := cX7_isRelation) (maxL := 1) (ret := (some .boolean)) (by decide) rfl ?_
  intro p e s m args below meth c s₁ B hml hv
  obtain ⟨rfl, hsz, hP, hK, hD0⟩ := hv
  have hx := B.exec
  have hb := B.bytes
  have hr := B.returns
  have hts := atoms_spec (ws := wsX7_isRelation) B.pre
  have hown : s.vm.findClass RX7 = some m.cls := findClass_of_methodNamed B.named
  have hlocks := B.notSynchronized
  subst hsz
  have hD := hD0.self (sz := s.heap.size)
  generalize hAe : va_A [] s.heap.size = A at hD ⊢
  have hA : ∀ q : Nat, s.heap.size ≤ q → A q := fun q h => by rw [← hAe]; exact Or.inr h
  have hS : va_S A s.heap s.heap [] := va_S.rf
  have hP : va_P (dC, dI) vwCl [] s.heap := hP
  have hl := lv_entry ([.int p0]) (n := 1) (Nat.le_of_ble_eq_true rfl)
  rw [lg_entry_eq]
  generalize (lg_sl ([.int p0]) ++ List.replicate (1 - (lg_sl ([.int p0])).length) Slot.unset).toArray = ls at hl ⊢
  have hl : lv_has ls 1 [(0, .int p0)] := hl
  refine lv_iload_n hx hb dX7_isRelation_0 rfl (lv_at hl 0 rfl) ?_
  refine lv_bipush (v := 61) hx hb dX7_isRelation_1 (by decide) ?_
  refine lv_icmp_eq (tgt := 32) hx hb dX7_isRelation_3 (by decide) (fun c_1 => absurd c_1 hc_0) (fun c_1 => ?_)
  refine lv_iload_n hx hb dX7_isRelation_6 rfl (lv_at hl 0 rfl) ?_
  refine lv_bipush (v := 60) hx hb dX7_isRelation_7 (by decide) ?_
  refine lv_icmp_eq (tgt := 32) hx hb dX7_isRelation_9 (by decide) (fun c_2 => absurd c_2 hc_1) (fun c_2 => ?_)
  refine lv_iload_n hx hb dX7_isRelation_12 rfl (lv_at hl 0 rfl) ?_
  refine lv_sipush (v := 300) hx hb dX7_isRelation_13 (by decide) ?_
  refine lv_icmp_eq (tgt := 32) hx hb dX7_isRelation_16 (by decide) (fun c_3 => absurd c_3 hc_2) (fun c_3 => ?_)
  refine lv_iload_n hx hb dX7_isRelation_19 rfl (lv_at hl 0 rfl) ?_
  refine lv_bipush (v := 62) hx hb dX7_isRelation_20 (by decide) ?_
  refine lv_icmp_eq (tgt := 32) hx hb dX7_isRelation_22 (by decide) (fun c_4 => absurd c_4 hc_3) (fun c_4 => ?_)
  refine lv_iload_n hx hb dX7_isRelation_25 rfl (lv_at hl 0 rfl) ?_
  refine lv_sipush (v := 301) hx hb dX7_isRelation_26 (by decide) ?_
  refine lv_icmp_ne (tgt := 36) hx hb dX7_isRelation_29 (by decide) (fun c_5 => absurd hc_4 c_5) (fun c_5 => ?_)
  refine lv_iconst (v := 1) hx hb dX7_isRelation_32 (by decide) ?_
  refine lv_goto (tgt := 37) hx hb dX7_isRelation_33 (by decide) ?_
  have hP9 := hP.sub (ws' := []) [] rfl
  have hD9 := hD.sub (ws' := []) [] (by decide) rfl
  have hK9 := hK.sub (tys' := []) [] rfl
  exact W.zret (v := 1) hx hb hr (by first | rfl | decide) (fun t ht hW => ⟨⟨1, (), rfl, rfl, (zB_mk (by rw [ht]; exact hP9) (va_K.moved hW.alike hK9) hD9)⟩, hS.F ht⟩) hS.2.2 dX7_isRelation_37
theorem iw_X7_kind_X7 : ∀ w ∈ wsX70, w ∈ wsX7_kind := fun w h => List.mem_cons_of_mem _ (List.mem_append_left _ (List.mem_append_right _ h))
theorem iw_X7_kind_X11 : ∀ w ∈ wsX110, w ∈ wsX7_kind := fun w h => List.mem_cons_of_mem _ (List.mem_append_right _ h)
set_option maxHeartbeats 4000000 in
set_option maxRecDepth 100000 in
/-- X7_kind, a road -/
theorem c_X7_kind_r0 (l : Launch) (dC : Nat → ClassId) (dI : Nat → Nat → Nat) (sz : Nat) (h0 : Nat) (fs0 : List Value) (v0_15 : Int32) (v0_0 : Nat) (fs1 : List Value) (v1_1 : Nat) (v0_11 : Int32) (n_v1_1 : Nat) (c_v1_1 : ClassId) (f_v1_1 : Nat → Int32) (hl0 : fs0.length = 18) (hf0_15 : fs0[15]? = some (.int v0_15)) (hf0_0 : fs0[0]? = some (.ref v0_0)) (hl1 : fs1.length = 6) (hf1_1 : fs1[1]? = some (.ref v1_1)) (hf0_11 : fs0[11]? = some (.int v0_11)) (hi_0 : vp_in v0_11 n_v1_1) (hc_0 : v0_15 < 0) : Met l yX7_kind wsX7_kind ({ frames := 0, cells := 0, slots := 0, locals := 0 }) (zPc dC dI sz [.ref h0] [(h0, .inr (9, fs0)), (v0_0, .inr (13, fs1)), (v1_1, .inl (c_v1_1, n_v1_1, .inl f_v1_1))] [(c_v1_1, .int)]) (va_Qi (fun (r : Int32) (_ : Unit) => r = (f_v1_1 (v0_11).toNatClampNeg)) (zB dC dI (fun _ => [(c_v1_1, .int)]) (fun _ : Unit => [(h0, .inr (9, fs0)), (v0_0, .inr (13, fs1)), (v1_1, .inl (c_v1_1, n_v1_1, .inl f_v1_1))]) (va_A [(h0, .inr (9, fs0)), (v0_0, .inr (13, fs1)), (v1_1, .inl (c_v1_1, n_v1_1, .inl f_v1_1))] sz)) (va_A [(h0, .inr (9, fs0)), (v0_0, .inr (13, fs1)), (v1_1, .inl (c_v1_1, n_v1_1, .inl f_v1_1))] sz)) 0 0 (va_A [(h0, .inr (9, fs0)), (v0_0, .inr (13, fs1)), (v1_1, .inl (c_v1_1, n_v1_1, .inl f_v1_1))] sz) := by
  refine Met.ofW (cc := cX7_kind) (maxL := 1) (ret := (some .int)) (by decide) rfl ?_
  intro p e s m args below meth c s₁ B hml hv
  obtain ⟨rfl, hsz, hP, hK, hD0⟩ := hv
  have hx := B.exec
  have hb := B.bytes
  have hr := B.returns
  have hts := atoms_spec (ws := wsX7_kind) B.pre
  have hown : s.vm.findClass RX7 = some m.cls := findClass_of_methodNamed B.named
  have hlocks := B.notSynchronized
  subst hsz
  have hD := hD0.self (sz := s.heap.size)
  generalize hAe : va_A [(h0, .inr (9, fs0)), (v0_0, .inr (13, fs1)), (v1_1, .inl (c_v1_1, n_v1_1, .inl f_v1_1))] s.heap.size = A at hD ⊢
  have hA : ∀ q : Nat, s.heap.size ≤ q → A q := fun q h => by rw [← hAe]; exact Or.inr h
  have hS : va_S A s.heap s.heap [] := va_S.rf
  have hP : va_P (dC, dI) vwCl [(h0, .inr (9, fs0)), (v0_0, .inr (13, fs1)), (v1_1, .inl (c_v1_1, n_v1_1, .inl f_v1_1))] s.heap := hP
  have hl := lv_entry ([.ref h0]) (n := 1) (Nat.le_of_ble_eq_true rfl)
  rw [lg_entry_eq]
  generalize (lg_sl ([.ref h0]) ++ List.replicate (1 - (lg_sl ([.ref h0])).length) Slot.unset).toArray = ls at hl ⊢
  have hl : lv_has ls 1 [(0, .ref h0)] := hl
  refine lv_aload_n hx hb dX7_kind_0 rfl (lv_at hl 0 rfl) ?_
  refine va_get (D := (dC, dI)) (ci := 9) (v := .int v0_15) (C := RX7) (T := TX7) (N := 18) hx hb hts iw_X7_kind_X7 hown hK hP 0 rfl rfl 15 (by decide) (hts (.fieldLink RX7 40 "LiquidTongue$Parser" "fault" "I") (by decide +kernel)) (fun _ h9 => h9) hf0_15 dX7_kind_1 ?_
  refine lv_if_lt (tgt := 11) hx hb dX7_kind_4 (by decide) (fun c_1 => ?_) (fun c_1 => absurd hc_0 c_1)
  refine lv_aload_n hx hb dX7_kind_11 rfl (lv_at hl 0 rfl) ?_
  refine va_get (D := (dC, dI)) (ci := 9) (v := .ref v0_0) (C := RX7) (T := TX7) (N := 18) hx hb hts iw_X7_kind_X7 hown hK hP 0 rfl rfl 0 (by decide) (hts (.fieldLink RX7 50 "LiquidTongue$Parser" "words" "LLiquidTongue$Words;") (by decide +kernel)) (fun _ h9 => h9) hf0_0 dX7_kind_12 ?_
  refine va_get (D := (dC, dI)) (ci := 13) (v := .ref v1_1) (C := RX11) (T := TX11) (N := 6) hx hb hts iw_X7_kind_X11 hown hK hP 1 rfl rfl 1 (by decide) (hts (.fieldLink RX7 81 "LiquidTongue$Words" "kinds" "[I") (by decide +kernel)) (fun _ h9 => h9) hf1_1 dX7_kind_15 ?_
  refine lv_aload_n hx hb dX7_kind_18 rfl (lv_at hl 0 rfl) ?_
  refine va_get (D := (dC, dI)) (ci := 9) (v := .int v0_11) (C := RX7) (T := TX7) (N := 18) hx hb hts iw_X7_kind_X7 hown hK hP 0 rfl rfl 11 (by decide) (hts (.fieldLink RX7 86 "LiquidTongue$Parser" "at" "I") (by decide +kernel)) (fun _ h9 => h9) hf0_11 dX7_kind_19 ?_
  refine va_iald hx hb hK hP 2 0 rfl rfl hi_0 dX7_kind_22 ?_
  have hP9 := hP.sub (ws' := [(h0, .inr (9, fs0)), (v0_0, .inr (13, fs1)), (v1_1, .inl (c_v1_1, n_v1_1, .inl f_v1_1))]) [0, 1, 2] rfl
  have hD9 := hD.sub (ws' := [(h0, .inr (9, fs0)), (v0_0, .inr (13, fs1)), (v1_1, .inl (c_v1_1, n_v1_1, .inl f_v1_1))]) [0, 1, 2] (by decide) rfl
  have hK9 := hK.sub (tys' := [(c_v1_1, .int)]) [0] rfl
  exact W.iret (v := (f_v1_1 (v0_11).toNatClampNeg)) hx hb hr (fun t ht hW => ⟨⟨(f_v1_1 (v0_11).toNatClampNeg), (), rfl, rfl, (zB_mk (by rw [ht]; exact hP9) (va_K.moved hW.alike hK9) hD9)⟩, hS.F ht⟩) hS.2.2 dX7_kind_23
set_option maxHeartbeats 4000000 in
set_option maxRecDepth 100000 in
/-- X7_kind, a road -/
theorem c_X7_kind_r1 (l : Launch) (dC : Nat → ClassId) (dI : Nat → Nat → Nat) (sz : Nat) (h0 : Nat) (fs0 : List Value) (v0_15 : Int32) (hl0 : fs0.length = 18) (hf0_15 : fs0[15]? = some (.int v0_15)) (hc_0 : ¬ v0_15 < 0) : Met l yX7_kind wsX7_kind ({ frames := 0, cells := 0, slots := 0, locals := 0 }) (zPc dC dI sz [.ref h0] [(h0, .inr (9, fs0))] []) (va_Qi (fun (r : Int32) (_ : Unit) => r = 0) (zB dC dI (fun _ => []) (fun _ : Unit => [(h0, .inr (9, fs0))]) (va_A [(h0, .inr (9, fs0))] sz)) (va_A [(h0, .inr (9, fs0))] sz)) 0 0 (va_A [(h0, .inr (9, fs0))] sz) := by
  refine Met.ofW (cc := cX7_kind) (maxL := 1) (ret := (some .int)) (by decide) rfl ?_
  intro p e s m args below meth c s₁ B hml hv
  obtain ⟨rfl, hsz, hP, hK, hD0⟩ := hv
  have hx := B.exec
  have hb := B.bytes
  have hr := B.returns
  have hts := atoms_spec (ws := wsX7_kind) B.pre
  have hown : s.vm.findClass RX7 = some m.cls := findClass_of_methodNamed B.named
  have hlocks := B.notSynchronized
  subst hsz
  have hD := hD0.self (sz := s.heap.size)
  generalize hAe : va_A [(h0, .inr (9, fs0))] s.heap.size = A at hD ⊢
  have hA : ∀ q : Nat, s.heap.size ≤ q → A q := fun q h => by rw [← hAe]; exact Or.inr h
  have hS : va_S A s.heap s.heap [] := va_S.rf
  have hP : va_P (dC, dI) vwCl [(h0, .inr (9, fs0))] s.heap := hP
  have hl := lv_entry ([.ref h0]) (n := 1) (Nat.le_of_ble_eq_true rfl)
  rw [lg_entry_eq]
  generalize (lg_sl ([.ref h0]) ++ List.replicate (1 - (lg_sl ([.ref h0])).length) Slot.unset).toArray = ls at hl ⊢
  have hl : lv_has ls 1 [(0, .ref h0)] := hl
  refine lv_aload_n hx hb dX7_kind_0 rfl (lv_at hl 0 rfl) ?_
  refine va_get (D := (dC, dI)) (ci := 9) (v := .int v0_15) (C := RX7) (T := TX7) (N := 18) hx hb hts iw_X7_kind_X7 hown hK hP 0 rfl rfl 15 (by decide) (hts (.fieldLink RX7 40 "LiquidTongue$Parser" "fault" "I") (by decide +kernel)) (fun _ h9 => h9) hf0_15 dX7_kind_1 ?_
  refine lv_if_lt (tgt := 11) hx hb dX7_kind_4 (by decide) (fun c_1 => absurd c_1 hc_0) (fun c_1 => ?_)
  refine lv_iconst (v := 0) hx hb dX7_kind_7 (by decide) ?_
  refine lv_goto (tgt := 23) hx hb dX7_kind_8 (by decide) ?_
  have hP9 := hP.sub (ws' := [(h0, .inr (9, fs0))]) [0] rfl
  have hD9 := hD.sub (ws' := [(h0, .inr (9, fs0))]) [0] (by decide) rfl
  have hK9 := hK.sub (tys' := []) [] rfl
  exact W.iret (v := 0) hx hb hr (fun t ht hW => ⟨⟨0, (), rfl, rfl, (zB_mk (by rw [ht]; exact hP9) (va_K.moved hW.alike hK9) hD9)⟩, hS.F ht⟩) hS.2.2 dX7_kind_23
theorem iw_X7_next_X7 : ∀ w ∈ wsX70, w ∈ wsX7_next := fun w h => List.mem_cons_of_mem _ (List.mem_append_left _ (List.mem_append_right _ h))
theorem iw_X7_next_X11 : ∀ w ∈ wsX110, w ∈ wsX7_next := fun w h => List.mem_cons_of_mem _ (List.mem_append_right _ h)
set_option maxHeartbeats 4000000 in
set_option maxRecDepth 100000 in
/-- X7_next, a road -/
theorem c_X7_next_r0 (l : Launch) (dC : Nat → ClassId) (dI : Nat → Nat → Nat) (sz : Nat) (h0 : Nat) (fs0 : List Value) (v0_11 : Int32) (v0_0 : Nat) (fs1 : List Value) (v1_4 : Int32) (hl0 : fs0.length = 18) (hf0_11 : fs0[11]? = some (.int v0_11)) (hf0_0 : fs0[0]? = some (.ref v0_0)) (hl1 : fs1.length = 6) (hf1_4 : fs1[4]? = some (.int v1_4)) (hc_0 : v1_4 ≤ v0_11) : Met l yX7_next wsX7_next ({ frames := 0, cells := 0, slots := 0, locals := 0 }) (zPc dC dI sz [.ref h0] [(h0, .inr (9, fs0)), (v0_0, .inr (13, fs1))] []) (va_Qv (fun _ : Unit => True) (zB dC dI (fun _ => []) (fun _ : Unit => [(h0, .inr (9, fs0)), (v0_0, .inr (13, fs1))]) (va_A [(h0, .inr (9, fs0)), (v0_0, .inr (13, fs1))] sz)) (va_A [(h0, .inr (9, fs0)), (v0_0, .inr (13, fs1))] sz)) 0 0 (va_A [(h0, .inr (9, fs0)), (v0_0, .inr (13, fs1))] sz) := by
  refine Met.ofW (cc := cX7_next) (maxL := 1) (ret := none) (by decide) rfl ?_
  intro p e s m args below meth c s₁ B hml hv
  obtain ⟨rfl, hsz, hP, hK, hD0⟩ := hv
  have hx := B.exec
  have hb := B.bytes
  have hr := B.returns
  have hts := atoms_spec (ws := wsX7_next) B.pre
  have hown : s.vm.findClass RX7 = some m.cls := findClass_of_methodNamed B.named
  have hlocks := B.notSynchronized
  subst hsz
  have hD := hD0.self (sz := s.heap.size)
  generalize hAe : va_A [(h0, .inr (9, fs0)), (v0_0, .inr (13, fs1))] s.heap.size = A at hD ⊢
  have hA : ∀ q : Nat, s.heap.size ≤ q → A q := fun q h => by rw [← hAe]; exact Or.inr h
  have hS : va_S A s.heap s.heap [] := va_S.rf
  have hP : va_P (dC, dI) vwCl [(h0, .inr (9, fs0)), (v0_0, .inr (13, fs1))] s.heap := hP
  have hl := lv_entry ([.ref h0]) (n := 1) (Nat.le_of_ble_eq_true rfl)
  rw [lg_entry_eq]
  generalize (lg_sl ([.ref h0]) ++ List.replicate (1 - (lg_sl ([.ref h0])).length) Slot.unset).toArray = ls at hl ⊢
  have hl : lv_has ls 1 [(0, .ref h0)] := hl
  refine lv_aload_n hx hb dX7_next_0 rfl (lv_at hl 0 rfl) ?_
  refine va_get (D := (dC, dI)) (ci := 9) (v := .int v0_11) (C := RX7) (T := TX7) (N := 18) hx hb hts iw_X7_next_X7 hown hK hP 0 rfl rfl 11 (by decide) (hts (.fieldLink RX7 86 "LiquidTongue$Parser" "at" "I") (by decide +kernel)) (fun _ h9 => h9) hf0_11 dX7_next_1 ?_
  refine lv_aload_n hx hb dX7_next_4 rfl (lv_at hl 0 rfl) ?_
  refine va_get (D := (dC, dI)) (ci := 9) (v := .ref v0_0) (C := RX7) (T := TX7) (N := 18) hx hb hts iw_X7_next_X7 hown hK hP 0 rfl rfl 0 (by decide) (hts (.fieldLink RX7 50 "LiquidTongue$Parser" "words" "LLiquidTongue$Words;") (by decide +kernel)) (fun _ h9 => h9) hf0_0 dX7_next_5 ?_
  refine va_get (D := (dC, dI)) (ci := 13) (v := .int v1_4) (C := RX11) (T := TX11) (N := 6) hx hb hts iw_X7_next_X11 hown hK hP 1 rfl rfl 4 (by decide) (hts (.fieldLink RX7 92 "LiquidTongue$Words" "count" "I") (by decide +kernel)) (fun _ h9 => h9) hf1_4 dX7_next_8 ?_
  refine lv_icmp_ge (tgt := 24) hx hb dX7_next_11 (by decide) (fun c_1 => ?_) (fun c_1 => absurd hc_0 c_1)
  have hP9 := hP.sub (ws' := [(h0, .inr (9, fs0)), (v0_0, .inr (13, fs1))]) [0, 1] rfl
  have hD9 := hD.sub (ws' := [(h0, .inr (9, fs0)), (v0_0, .inr (13, fs1))]) [0, 1] (by decide) rfl
  have hK9 := hK.sub (tys' := []) [] rfl
  exact W.vret hx hb hr (fun t ht hW => ⟨⟨(), rfl, trivial, (zB_mk (by rw [ht]; exact hP9) (va_K.moved hW.alike hK9) hD9)⟩, hS.F ht⟩) hS.2.2 dX7_next_24
set_option maxHeartbeats 4000000 in
set_option maxRecDepth 100000 in
/-- X7_next, a road -/
theorem c_X7_next_r1 (l : Launch) (dC : Nat → ClassId) (dI : Nat → Nat → Nat) (sz : Nat) (h0 : Nat) (fs0 : List Value) (v0_11 : Int32) (v0_0 : Nat) (fs1 : List Value) (v1_4 : Int32) (hl0 : fs0.length = 18) (hf0_11 : fs0[11]? = some (.int v0_11)) (hf0_0 : fs0[0]? = some (.ref v0_0)) (hl1 : fs1.length = 6) (hf1_4 : fs1[4]? = some (.int v1_4)) (hc_0 : ¬ v1_4 ≤ v0_11) : Met l yX7_next wsX7_next ({ frames := 0, cells := 0, slots := 0, locals := 0 }) (zPc dC dI sz [.ref h0] [(h0, .inr (9, fs0)), (v0_0, .inr (13, fs1))] []) (va_Qv (fun _ : Unit => True) (zB dC dI (fun _ => []) (fun _ : Unit => [(h0, .inr (9, (fs0.set 11 (.int (v0_11 + 1))))), (v0_0, .inr (13, fs1))]) (va_A [(h0, .inr (9, fs0)), (v0_0, .inr (13, fs1))] sz)) (va_A [(h0, .inr (9, fs0)), (v0_0, .inr (13, fs1))] sz)) 0 0 (va_A [(h0, .inr (9, fs0)), (v0_0, .inr (13, fs1))] sz) := by
  refine Met.ofW (cc := cX7_next) (maxL := 1) (ret := none) (by decide) rfl ?_
  intro p e s m args below meth c s₁ B hml hv
  obtain ⟨rfl, hsz, hP, hK, hD0⟩ := hv
  have hx := B.exec
  have hb := B.bytes
  have hr := B.returns
  have hts := atoms_spec (ws := wsX7_next) B.pre
  have hown : s.vm.findClass RX7 = some m.cls := findClass_of_methodNamed B.named
  have hlocks := B.notSynchronized
  subst hsz
  have hD := hD0.self (sz := s.heap.size)
  generalize hAe : va_A [(h0, .inr (9, fs0)), (v0_0, .inr (13, fs1))] s.heap.size = A at hD ⊢
  have hA : ∀ q : Nat, s.heap.size ≤ q → A q := fun q h => by rw [← hAe]; exact Or.inr h
  have hS : va_S A s.heap s.heap [] := va_S.rf
  have hP : va_P (dC, dI) vwCl [(h0, .inr (9, fs0)), (v0_0, .inr (13, fs1))] s.heap := hP
  have hl := lv_entry ([.ref h0]) (n := 1) (Nat.le_of_ble_eq_true rfl)
  rw [lg_entry_eq]
  generalize (lg_sl ([.ref h0]) ++ List.replicate (1 - (lg_sl ([.ref h0])).length) Slot.unset).toArray = ls at hl ⊢
  have hl : lv_has ls 1 [(0, .ref h0)] := hl
  refine lv_aload_n hx hb dX7_next_0 rfl (lv_at hl 0 rfl) ?_
  refine va_get (D := (dC, dI)) (ci := 9) (v := .int v0_11) (C := RX7) (T := TX7) (N := 18) hx hb hts iw_X7_next_X7 hown hK hP 0 rfl rfl 11 (by decide) (hts (.fieldLink RX7 86 "LiquidTongue$Parser" "at" "I") (by decide +kernel)) (fun _ h9 => h9) hf0_11 dX7_next_1 ?_
  refine lv_aload_n hx hb dX7_next_4 rfl (lv_at hl 0 rfl) ?_
  refine va_get (D := (dC, dI)) (ci := 9) (v := .ref v0_0) (C := RX7) (T := TX7) (N := 18) hx hb hts iw_X7_next_X7 hown hK hP 0 rfl rfl 0 (by decide) (hts (.fieldLink RX7 50 "LiquidTongue$Parser" "words" "LLiquidTongue$Words;") (by decide +kernel)) (fun _ h9 => h9) hf0_0 dX7_next_5 ?_
  refine va_get (D := (dC, dI)) (ci := 13) (v := .int v1_4) (C := RX11) (T := TX11) (N := 6) hx hb hts iw_X7_next_X11 hown hK hP 1 rfl rfl 4 (by decide) (hts (.fieldLink RX7 92 "LiquidTongue$Words" "count" "I") (by decide +kernel)) (fun _ h9 => h9) hf1_4 dX7_next_8 ?_
  refine lv_icmp_ge (tgt := 24) hx hb dX7_next_11 (by decide) (fun c_1 => absurd c_1 hc_0) (fun c_1 => ?_)
  refine lv_aload_n hx hb dX7_next_14 rfl (lv_at hl 0 rfl) ?_
  refine lv_dup hx hb dX7_next_15 rfl ?_
  refine va_get (D := (dC, dI)) (ci := 9) (v := .int v0_11) (C := RX7) (T := TX7) (N := 18) hx hb hts iw_X7_next_X7 hown hK hP 0 rfl rfl 11 (by decide) (hts (.fieldLink RX7 86 "LiquidTongue$Parser" "at" "I") (by decide +kernel)) (fun _ h9 => h9) hf0_11 dX7_next_16 ?_
  refine lv_iconst (v := 1) hx hb dX7_next_19 (by decide) ?_
  refine lv_iadd hx hb dX7_next_20 ?_
  refine va_put (D := (dC, dI)) (ci := 9) (v := .int (v0_11 + 1)) (ty := .int) (C := RX7) (T := TX7) (N := 18) hx hb hts iw_X7_next_X7 tyX7 tyX7_ok nmX7 hown hK hP hD hS 0 rfl rfl 11 (by decide) (hts (.fieldLink RX7 86 "LiquidTongue$Parser" "at" "I") (by decide +kernel)) (fun _ h9 => h9) rfl (by decide +kernel) rfl rfl (zs_lt hl0 (by decide)) dX7_next_21 (fun H locs hP hD hS => ?_)
  have hP : va_P (dC, dI) vwCl [(h0, .inr (9, (fs0.set 11 (.int (v0_11 + 1))))), (v0_0, .inr (13, fs1))] H := hP
  have hD : va_D A [(h0, .inr (9, (fs0.set 11 (.int (v0_11 + 1))))), (v0_0, .inr (13, fs1))] := hD
  have hP9 := hP.sub (ws' := [(h0, .inr (9, (fs0.set 11 (.int (v0_11 + 1))))), (v0_0, .inr (13, fs1))]) [0, 1] rfl
  have hD9 := hD.sub (ws' := [(h0, .inr (9, (fs0.set 11 (.int (v0_11 + 1))))), (v0_0, .inr (13, fs1))]) [0, 1] (by decide) rfl
  have hK9 := hK.sub (tys' := []) [] rfl
  exact W.vret hx hb hr (fun t ht hW => ⟨⟨(), rfl, trivial, (zB_mk (by rw [ht]; exact hP9) (va_K.moved hW.alike hK9) hD9)⟩, hS.F ht⟩) hS.2.2 dX7_next_24
theorem iw_X8_init_X8 : ∀ w ∈ wsX80, w ∈ wsX8_init := fun w h => List.mem_cons_of_mem _ (List.mem_append_right _ h)
set_option maxHeartbeats 4000000 in
set_option maxRecDepth 100000 in
/-- X8_init, a road -/
theorem c_X8_init_r0 (l : Launch) (dC : Nat → ClassId) (dI : Nat → Nat → Nat) (sz : Nat) (h0 : Nat) (fs0 : List Value) (p0 : Nat) (p1 : Nat) (hl0 : fs0.length = 4) : Met l yX8_init wsX8_init ({ frames := 1, cells := 0, slots := 0, locals := 12 }) (zPc dC dI sz [.ref h0, .ref p0, .ref p1] [(h0, .inr (10, fs0))] []) (va_Qv (fun _ : Unit => True) (zB dC dI (fun _ => []) (fun _ : Unit => [(h0, .inr (10, ((((fs0.set 0 (.ref p0)).set 1 (.null)).set 2 (.int 0)).set 3 (.ref p1))))]) (va_A [(h0, .inr (10, fs0))] sz)) (va_A [(h0, .inr (10, fs0))] sz)) 0 0 (va_A [(h0, .inr (10, fs0))] sz) := by
  refine Met.ofW (cc := cX8_init) (maxL := 3) (ret := none) (by decide) rfl ?_
  intro p e s m args below meth c s₁ B hml hv
  obtain ⟨rfl, hsz, hP, hK, hD0⟩ := hv
  have hx := B.exec
  have hb := B.bytes
  have hr := B.returns
  have hts := atoms_spec (ws := wsX8_init) B.pre
  have hown : s.vm.findClass RX8 = some m.cls := findClass_of_methodNamed B.named
  have hlocks := B.notSynchronized
  have hin : meth.name = "<init>" := (name_of_methodNamed B.named B.method).1
  subst hsz
  have hD := hD0.self (sz := s.heap.size)
  generalize hAe : va_A [(h0, .inr (10, fs0))] s.heap.size = A at hD ⊢
  have hA : ∀ q : Nat, s.heap.size ≤ q → A q := fun q h => by rw [← hAe]; exact Or.inr h
  have hS : va_S A s.heap s.heap [] := va_S.rf
  have hP : va_P (dC, dI) vwCl [(h0, .inr (10, fs0))] s.heap := hP
  have hl := lv_entry ([.ref h0, .ref p0, .ref p1]) (n := 3) (Nat.le_of_ble_eq_true rfl)
  rw [lg_entry_eq]
  generalize (lg_sl ([.ref h0, .ref p0, .ref p1]) ++ List.replicate (3 - (lg_sl ([.ref h0, .ref p0, .ref p1])).length) Slot.unset).toArray = ls at hl ⊢
  have hl : lv_has ls 3 [(0, .ref h0), (1, .ref p0), (2, .ref p1)] := hl
  refine lv_aload_n hx hb dX8_init_0 rfl (lv_at hl 0 rfl) ?_
  refine W.objInit hx hb hown (hts (.methodLink RX8 1 objectInit) (by decide +kernel)) (hts (.instanceMethod objectInit) (by decide +kernel)) (hts (.code objectInit ⟨#[0xb1]⟩ 1 none) (by decide +kernel)) rfl (by rw [hml]; exact hl.1) rfl dX8_init_1 (Nat.le_of_ble_eq_true rfl) (Nat.le_of_ble_eq_true rfl) ?_
  refine W.eq (g2 := F0 m 4 ls []) rfl ?_
  refine lv_aload_n hx hb dX8_init_4 rfl (lv_at hl 0 rfl) ?_
  refine lv_aload_n hx hb dX8_init_5 rfl (lv_at hl 1 rfl) ?_
  refine va_putF (D := (dC, dI)) (ci := 10) (v := .ref p0) (ty := .object "LiquidTongue$Name") (C := RX8) (T := TX8) (N := 4) hx hb hts iw_X8_init_X8 tyX8 tyX8_ok nmX8 hown hK hP hD hS 0 rfl rfl 0 (by decide) (hts (.fieldLink RX8 7 "LiquidTongue$Scope" "name" "LLiquidTongue$Name;") (by decide +kernel)) (fun _ h9 => h9) rfl hin rfl (by decide +kernel) rfl rfl (zs_lt hl0 (by decide)) dX8_init_6 (fun H locs hP hD hS => ?_)
  have hP : va_P (dC, dI) vwCl [(h0, .inr (10, (fs0.set 0 (.ref p0))))] H := hP
  have hD : va_D A [(h0, .inr (10, (fs0.set 0 (.ref p0))))] := hD
  refine lv_aload_n hx hb dX8_init_9 rfl (lv_at hl 0 rfl) ?_
  refine lv_null hx hb dX8_init_10 ?_
  refine va_putF (D := (dC, dI)) (ci := 10) (v := .null) (ty := .object "LiquidTongue$Node") (C := RX8) (T := TX8) (N := 4) hx hb hts iw_X8_init_X8 tyX8 tyX8_ok nmX8 hown hK hP hD hS 0 rfl rfl 1 (by decide) (hts (.fieldLink RX8 13 "LiquidTongue$Scope" "test" "LLiquidTongue$Node;") (by decide +kernel)) (fun _ h9 => h9) rfl hin rfl (by decide +kernel) rfl rfl (zs_lt (zs_len hl0) (by decide)) dX8_init_11 (fun H locs hP hD hS => ?_)
  have hP : va_P (dC, dI) vwCl [(h0, .inr (10, ((fs0.set 0 (.ref p0)).set 1 (.null))))] H := hP
  have hD : va_D A [(h0, .inr (10, ((fs0.set 0 (.ref p0)).set 1 (.null))))] := hD
  refine lv_aload_n hx hb dX8_init_14 rfl (lv_at hl 0 rfl) ?_
  refine lv_iconst (v := 0) hx hb dX8_init_15 (by decide) ?_
  refine va_putF (D := (dC, dI)) (ci := 10) (v := .int 0) (ty := .boolean) (C := RX8) (T := TX8) (N := 4) hx hb hts iw_X8_init_X8 tyX8 tyX8_ok nmX8 hown hK hP hD hS 0 rfl rfl 2 (by decide) (hts (.fieldLink RX8 17 "LiquidTongue$Scope" "holds" "Z") (by decide +kernel)) (fun _ h9 => h9) rfl hin rfl (by decide +kernel) (by first | rfl | decide) (by first | rfl | decide) (zs_lt (zs_len (zs_len hl0)) (by decide)) dX8_init_16 (fun H locs hP hD hS => ?_)
  have hP : va_P (dC, dI) vwCl [(h0, .inr (10, (((fs0.set 0 (.ref p0)).set 1 (.null)).set 2 (.int 0))))] H := hP
  have hD : va_D A [(h0, .inr (10, (((fs0.set 0 (.ref p0)).set 1 (.null)).set 2 (.int 0))))] := hD
  refine lv_aload_n hx hb dX8_init_19 rfl (lv_at hl 0 rfl) ?_
  refine lv_aload_n hx hb dX8_init_20 rfl (lv_at hl 2 rfl) ?_
  refine va_putF (D := (dC, dI)) (ci := 10) (v := .ref p1) (ty := .object "LiquidTongue$Scope") (C := RX8) (T := TX8) (N := 4) hx hb hts iw_X8_init_X8 tyX8 tyX8_ok nmX8 hown hK hP hD hS 0 rfl rfl 3 (by decide) (hts (.fieldLink RX8 21 "LiquidTongue$Scope" "outer" "LLiquidTongue$Scope;") (by decide +kernel)) (fun _ h9 => h9) rfl hin rfl (by decide +kernel) rfl rfl (zs_lt (zs_len (zs_len (zs_len hl0))) (by decide)) dX8_init_21 (fun H locs hP hD hS => ?_)
  have hP : va_P (dC, dI) vwCl [(h0, .inr (10, ((((fs0.set 0 (.ref p0)).set 1 (.null)).set 2 (.int 0)).set 3 (.ref p1))))] H := hP
  have hD : va_D A [(h0, .inr (10, ((((fs0.set 0 (.ref p0)).set 1 (.null)).set 2 (.int 0)).set 3 (.ref p1))))] := hD
  have hP9 := hP.sub (ws' := [(h0, .inr (10, ((((fs0.set 0 (.ref p0)).set 1 (.null)).set 2 (.int 0)).set 3 (.ref p1))))]) [0] rfl
  have hD9 := hD.sub (ws' := [(h0, .inr (10, ((((fs0.set 0 (.ref p0)).set 1 (.null)).set 2 (.int 0)).set 3 (.ref p1))))]) [0] (by decide) rfl
  have hK9 := hK.sub (tys' := []) [] rfl
  exact W.vret hx hb hr (fun t ht hW => ⟨⟨(), rfl, trivial, (zB_mk (by rw [ht]; exact hP9) (va_K.moved hW.alike hK9) hD9)⟩, hS.F ht⟩) hS.2.2 dX8_init_24
theorem iw_X8_init__X8 : ∀ w ∈ wsX80, w ∈ wsX8_init_ := fun w h => List.mem_cons_of_mem _ (List.mem_append_right _ h)
set_option maxHeartbeats 4000000 in
set_option maxRecDepth 100000 in
/-- X8_init_, a road -/
theorem c_X8_init__r0 (l : Launch) (dC : Nat → ClassId) (dI : Nat → Nat → Nat) (sz : Nat) (h0 : Nat) (fs0 : List Value) (p0 : Nat) (p1 : Int32) (p2 : Nat) (hl0 : fs0.length = 4) (hb_0 : narrow .boolean (.int p1) = .int p1) (hb_1 : fits .boolean (.int p1) = true) : Met l yX8_init_ wsX8_init_ ({ frames := 1, cells := 0, slots := 0, locals := 12 }) (zPc dC dI sz [.ref h0, .ref p0, .int p1, .ref p2] [(h0, .inr (10, fs0))] []) (va_Qv (fun _ : Unit => True) (zB dC dI (fun _ => []) (fun _ : Unit => [(h0, .inr (10, ((((fs0.set 0 (.null)).set 1 (.ref p0)).set 2 (.int p1)).set 3 (.ref p2))))]) (va_A [(h0, .inr (10, fs0))] sz)) (va_A [(h0, .inr (10, fs0))] sz)) 0 0 (va_A [(h0, .inr (10, fs0))] sz) := by
  refine Met.ofW (cc := cX8_init_) (maxL := 4) (ret := none) (by decide) rfl ?_
  intro p e s m args below meth c s₁ B hml hv
  obtain ⟨rfl, hsz, hP, hK, hD0⟩ := hv
  have hx := B.exec
  have hb := B.bytes
  have hr := B.returns
  have hts := atoms_spec (ws := wsX8_init_) B.pre
  have hown : s.vm.findClass RX8 = some m.cls := findClass_of_methodNamed B.named
  have hlocks := B.notSynchronized
  have hin : meth.name = "<init>" := (name_of_methodNamed B.named B.method).1
  subst hsz
  have hD := hD0.self (sz := s.heap.size)
  generalize hAe : va_A [(h0, .inr (10, fs0))] s.heap.size = A at hD ⊢
  have hA : ∀ q : Nat, s.heap.size ≤ q → A q := fun q h => by rw [← hAe]; exact Or.inr h
  have hS : va_S A s.heap s.heap [] := va_S.rf
  have hP : va_P (dC, dI) vwCl [(h0, .inr (10, fs0))] s.heap := hP
  have hl := lv_entry ([.ref h0, .ref p0, .int p1, .ref p2]) (n := 4) (Nat.le_of_ble_eq_true rfl)
  rw [lg_entry_eq]
  generalize (lg_sl ([.ref h0, .ref p0, .int p1, .ref p2]) ++ List.replicate (4 - (lg_sl ([.ref h0, .ref p0, .int p1, .ref p2])).length) Slot.unset).toArray = ls at hl ⊢
  have hl : lv_has ls 4 [(0, .ref h0), (1, .ref p0), (2, .int p1), (3, .ref p2)] := hl
  refine lv_aload_n hx hb dX8_init__0 rfl (lv_at hl 0 rfl) ?_
  refine W.objInit hx hb hown (hts (.methodLink RX8 1 objectInit) (by decide +kernel)) (hts (.instanceMethod objectInit) (by decide +kernel)) (hts (.code objectInit ⟨#[0xb1]⟩ 1 none) (by decide +kernel)) rfl (by rw [hml]; exact hl.1) rfl dX8_init__1 (Nat.le_of_ble_eq_true rfl) (Nat.le_of_ble_eq_true rfl) ?_
  refine W.eq (g2 := F0 m 4 ls []) rfl ?_
  refine lv_aload_n hx hb dX8_init__4 rfl (lv_at hl 0 rfl) ?_
  refine lv_null hx hb dX8_init__5 ?_
  refine va_putF (D := (dC, dI)) (ci := 10) (v := .null) (ty := .object "LiquidTongue$Name") (C := RX8) (T := TX8) (N := 4) hx hb hts iw_X8_init__X8 tyX8 tyX8_ok nmX8 hown hK hP hD hS 0 rfl rfl 0 (by decide) (hts (.fieldLink RX8 7 "LiquidTongue$Scope" "name" "LLiquidTongue$Name;") (by decide +kernel)) (fun _ h9 => h9) rfl hin rfl (by decide +kernel) rfl rfl (zs_lt hl0 (by decide)) dX8_init__6 (fun H locs hP hD hS => ?_)
  have hP : va_P (dC, dI) vwCl [(h0, .inr (10, (fs0.set 0 (.null))))] H := hP
  have hD : va_D A [(h0, .inr (10, (fs0.set 0 (.null))))] := hD
  refine lv_aload_n hx hb dX8_init__9 rfl (lv_at hl 0 rfl) ?_
  refine lv_aload_n hx hb dX8_init__10 rfl (lv_at hl 1 rfl) ?_
  refine va_putF (D := (dC, dI)) (ci := 10) (v := .ref p0) (ty := .object "LiquidTongue$Node") (C := RX8) (T := TX8) (N := 4) hx hb hts iw_X8_init__X8 tyX8 tyX8_ok nmX8 hown hK hP hD hS 0 rfl rfl 1 (by decide) (hts (.fieldLink RX8 13 "LiquidTongue$Scope" "test" "LLiquidTongue$Node;") (by decide +kernel)) (fun _ h9 => h9) rfl hin rfl (by decide +kernel) rfl rfl (zs_lt (zs_len hl0) (by decide)) dX8_init__11 (fun H locs hP hD hS => ?_)
  have hP : va_P (dC, dI) vwCl [(h0, .inr (10, ((fs0.set 0 (.null)).set 1 (.ref p0))))] H := hP
  have hD : va_D A [(h0, .inr (10, ((fs0.set 0 (.null)).set 1 (.ref p0))))] := hD
  refine lv_aload_n hx hb dX8_init__14 rfl (lv_at hl 0 rfl) ?_
  refine lv_iload_n hx hb dX8_init__15 rfl (lv_at hl 2 rfl) ?_
  refine va_putF (D := (dC, dI)) (ci := 10) (v := .int p1) (ty := .boolean) (C := RX8) (T := TX8) (N := 4) hx hb hts iw_X8_init__X8 tyX8 tyX8_ok nmX8 hown hK hP hD hS 0 rfl rfl 2 (by decide) (hts (.fieldLink RX8 17 "LiquidTongue$Scope" "holds" "Z") (by decide +kernel)) (fun _ h9 => h9) rfl hin rfl (by decide +kernel) hb_0 hb_1 (zs_lt (zs_len (zs_len hl0)) (by decide)) dX8_init__16 (fun H locs hP hD hS => ?_)
  have hP : va_P (dC, dI) vwCl [(h0, .inr (10, (((fs0.set 0 (.null)).set 1 (.ref p0)).set 2 (.int p1))))] H := hP
  have hD : va_D A [(h0, .inr (10, (((fs0.set 0 (.null)).set 1 (.ref p0)).set 2 (.int p1))))] := hD
  refine lv_aload_n hx hb dX8_init__19 rfl (lv_at hl 0 rfl) ?_
  refine lv_aload_n hx hb dX8_init__20 rfl (lv_at hl 3 rfl) ?_
  refine va_putF (D := (dC, dI)) (ci := 10) (v := .ref p2) (ty := .object "LiquidTongue$Scope") (C := RX8) (T := TX8) (N := 4) hx hb hts iw_X8_init__X8 tyX8 tyX8_ok nmX8 hown hK hP hD hS 0 rfl rfl 3 (by decide) (hts (.fieldLink RX8 21 "LiquidTongue$Scope" "outer" "LLiquidTongue$Scope;") (by decide +kernel)) (fun _ h9 => h9) rfl hin rfl (by decide +kernel) rfl rfl (zs_lt (zs_len (zs_len (zs_len hl0))) (by decide)) dX8_init__21 (fun H locs hP hD hS => ?_)
  have hP : va_P (dC, dI) vwCl [(h0, .inr (10, ((((fs0.set 0 (.null)).set 1 (.ref p0)).set 2 (.int p1)).set 3 (.ref p2))))] H := hP
  have hD : va_D A [(h0, .inr (10, ((((fs0.set 0 (.null)).set 1 (.ref p0)).set 2 (.int p1)).set 3 (.ref p2))))] := hD
  have hP9 := hP.sub (ws' := [(h0, .inr (10, ((((fs0.set 0 (.null)).set 1 (.ref p0)).set 2 (.int p1)).set 3 (.ref p2))))]) [0] rfl
  have hD9 := hD.sub (ws' := [(h0, .inr (10, ((((fs0.set 0 (.null)).set 1 (.ref p0)).set 2 (.int p1)).set 3 (.ref p2))))]) [0] (by decide) rfl
  have hK9 := hK.sub (tys' := []) [] rfl
  exact W.vret hx hb hr (fun t ht hW => ⟨⟨(), rfl, trivial, (zB_mk (by rw [ht]; exact hP9) (va_K.moved hW.alike hK9) hD9)⟩, hS.F ht⟩) hS.2.2 dX8_init__24
