/-! methods without loops that call such ones, a road each (wip/auto.py) -/
theorem iw_X13_form_X13 : ∀ w ∈ wsX130, w ∈ wsX13_form := fun w h => List.mem_cons_of_mem _ (List.mem_append_right _ h)
set_option maxHeartbeats 4000000 in
set_option maxRecDepth 100000 in
/-- X13_form, a road -/
theorem c_X13_form_r0 (l : Launch) (dC : Nat → ClassId) (dI : Nat → Nat → Nat) (sz : Nat) (h0 : Nat) (fs0 : List Value) (v0_7 : Nat) (v0_10 : Int32) (c_v0_7 : ClassId) (f_v0_7 : Nat → Int32) (v0_11 : Int32) (hl0 : fs0.length = 196) (hf0_7 : fs0[7]? = some (.ref v0_7)) (hf0_10 : fs0[10]? = some (.int v0_10)) (hf0_11 : fs0[11]? = some (.int v0_11)) (hi_0 : vp_in v0_10 2010) (hp_1 : v0_11 = 0) : Met l yX13_form wsX13_form ({ frames := 1, cells := 0, slots := 0, locals := 22 }) (zPc dC dI sz [.ref h0] [(h0, .inr (15, fs0)), (v0_7, .inl (c_v0_7, 2010, .inl f_v0_7))] [(c_v0_7, .int)]) (va_Qv (fun _ : Unit => True) (zB dC dI (fun _ => [(c_v0_7, .int)]) (fun _ : Unit => [(v0_7, .inl (c_v0_7, 2010, .inl f_v0_7)), (h0, .inr (15, ((fs0.set 11 (.int 2)).set 12 (.int (f_v0_7 (v0_10 : Int32).toNatClampNeg)))))]) (va_A [(h0, .inr (15, fs0)), (v0_7, .inl (c_v0_7, 2010, .inl f_v0_7))] sz)) (va_A [(h0, .inr (15, fs0)), (v0_7, .inl (c_v0_7, 2010, .inl f_v0_7))] sz)) 0 0 (va_A [(h0, .inr (15, fs0)), (v0_7, .inl (c_v0_7, 2010, .inl f_v0_7))] sz) := by
  refine Met.ofW (cc := cX13_form) (maxL := 1) (ret := none) (by decide) rfl ?_
  intro p e s m args below meth c s₁ B hml hv
  obtain ⟨rfl, hsz, hP, hK, hD0⟩ := hv
  have hx := B.exec
  have hb := B.bytes
  have hr := B.returns
  have hts := atoms_spec (ws := wsX13_form) B.pre
  have hown : s.vm.findClass RX13 = some m.cls := findClass_of_methodNamed B.named
  have hlocks := B.notSynchronized
  subst hsz
  have hD := hD0.self (sz := s.heap.size)
  generalize hAe : va_A [(h0, .inr (15, fs0)), (v0_7, .inl (c_v0_7, 2010, .inl f_v0_7))] s.heap.size = A at hD ⊢
  have hA : ∀ q : Nat, s.heap.size ≤ q → A q := fun q h => by rw [← hAe]; exact Or.inr h
  have hS : va_S A s.heap s.heap [] := va_S.rf
  have hP : va_P (dC, dI) vwCl [(h0, .inr (15, fs0)), (v0_7, .inl (c_v0_7, 2010, .inl f_v0_7))] s.heap := hP
  have hl := lv_entry ([.ref h0]) (n := 1) (Nat.le_of_ble_eq_true rfl)
  rw [lg_entry_eq]
  generalize (lg_sl ([.ref h0]) ++ List.replicate (1 - (lg_sl ([.ref h0])).length) Slot.unset).toArray = ls at hl ⊢
  have hl : lv_has ls 1 [(0, .ref h0)] := hl
  refine lv_aload_n hx hb dX13_form_0 rfl (lv_at hl 0 rfl) ?_
  refine lv_iconst (v := 2) hx hb dX13_form_1 (by decide) ?_
  refine lv_aload_n hx hb dX13_form_2 rfl (lv_at hl 0 rfl) ?_
  refine va_get (D := (dC, dI)) (ci := 15) (v := .ref v0_7) (C := RX13) (T := TX13) (N := 196) hx hb hts iw_X13_form_X13 hown hK hP 0 rfl rfl 7 (by decide) (hts (.fieldLink RX13 23 "LiquidTongueModel" "wAt" "[I") (by decide +kernel)) (fun _ h9 => h9) hf0_7 dX13_form_3 ?_
  refine lv_aload_n hx hb dX13_form_6 rfl (lv_at hl 0 rfl) ?_
  refine va_get (D := (dC, dI)) (ci := 15) (v := .int v0_10) (C := RX13) (T := TX13) (N := 196) hx hb hts iw_X13_form_X13 hown hK hP 0 rfl rfl 10 (by decide) (hts (.fieldLink RX13 433 "LiquidTongueModel" "w" "I") (by decide +kernel)) (fun _ h9 => h9) hf0_10 dX13_form_7 ?_
  refine va_iald hx hb hK hP 1 0 rfl rfl hi_0 dX13_form_10 ?_
  have hPc := hP.sub (ws' := [(h0, .inr (15, fs0))]) [0] rfl
  have hDc := hD.sub (ws' := [(h0, .inr (15, fs0))]) [0] (by decide) rfl
  have hKc := hK.sub (tys' := []) [] rfl
  have hFc := va_free (wc := [(h0, .inr (15, fs0))]) hD hS hA [0] rfl
  refine va_callv (va_runV (As := [.int 2, .int (f_v0_7 (v0_10 : Int32).toNatClampNeg)]) (rest := []) ⟨hx, hb, hml, hown, hts⟩ (c_X13_fault_r0 l dC dI s.heap.size h0 fs0 2 (f_v0_7 (v0_10 : Int32).toNatClampNeg) v0_11 hl0 hf0_11 hp_1) (cwV 2 hts gX13_form_X13_fault rfl rfl rfl (by decide +kernel) ⟨Nat.le_of_ble_eq_true rfl, Nat.le_of_ble_eq_true rfl⟩) ⟨zPc_blind, va_recv hKc hPc (ci := 15) (q0 := 0) rfl rfl, fun U hU hW => zPc_at hPc hKc hDc hU hW⟩ rfl rfl hl.1 rfl (lv_room (Nat.le_of_ble_eq_true rfl)) dX13_form_11 ⟨Nat.le_of_ble_eq_true rfl, Nat.le_of_ble_eq_true rfl⟩) hS (fun q _ h => hFc q h) hFc (fun u t H1 locs ht hvm hw hB hz1 hk1 hS => ?_)
  obtain ⟨hP1, hK1, hD1⟩ := hB
  rw [ht] at hP1
  have hK1 := va_K.moved hvm.symm hK1
  obtain ⟨hP, hD⟩ := va_join (wr := [(v0_7, .inl (c_v0_7, 2010, .inl f_v0_7))]) (w1 := [(h0, .inr (15, ((fs0.set 11 (.int 2)).set 12 (.int (f_v0_7 (v0_10 : Int32).toNatClampNeg)))))]) hP hD [0] [1] rfl rfl (by decide) (by decide) hk1 hFc hP1 hD1
  generalize H1 = H at hP hS ⊢
  have hP : va_P (dC, dI) vwCl [(v0_7, .inl (c_v0_7, 2010, .inl f_v0_7)), (h0, .inr (15, ((fs0.set 11 (.int 2)).set 12 (.int (f_v0_7 (v0_10 : Int32).toNatClampNeg)))))] H := hP
  have hD : va_D A [(v0_7, .inl (c_v0_7, 2010, .inl f_v0_7)), (h0, .inr (15, ((fs0.set 11 (.int 2)).set 12 (.int (f_v0_7 (v0_10 : Int32).toNatClampNeg)))))] := hD
  have hP9 := hP.sub (ws' := [(v0_7, .inl (c_v0_7, 2010, .inl f_v0_7)), (h0, .inr (15, ((fs0.set 11 (.int 2)).set 12 (.int (f_v0_7 (v0_10 : Int32).toNatClampNeg)))))]) [0, 1] rfl
  have hD9 := hD.sub (ws' := [(v0_7, .inl (c_v0_7, 2010, .inl f_v0_7)), (h0, .inr (15, ((fs0.set 11 (.int 2)).set 12 (.int (f_v0_7 (v0_10 : Int32).toNatClampNeg)))))]) [0, 1] (by decide) rfl
  have hK9 := hK.sub (tys' := [(c_v0_7, .int)]) [0] rfl
  exact W.vret hx hb hr (fun t ht hW => ⟨⟨(), rfl, trivial, (zB_mk (by rw [ht]; exact hP9) (va_K.moved hW.alike hK9) hD9)⟩, hS.F ht⟩) hS.2.2 dX13_form_14
set_option maxHeartbeats 4000000 in
set_option maxRecDepth 100000 in
/-- X13_form, a road -/
theorem c_X13_form_r1 (l : Launch) (dC : Nat → ClassId) (dI : Nat → Nat → Nat) (sz : Nat) (h0 : Nat) (fs0 : List Value) (v0_7 : Nat) (v0_10 : Int32) (c_v0_7 : ClassId) (f_v0_7 : Nat → Int32) (v0_11 : Int32) (hl0 : fs0.length = 196) (hf0_7 : fs0[7]? = some (.ref v0_7)) (hf0_10 : fs0[10]? = some (.int v0_10)) (hf0_11 : fs0[11]? = some (.int v0_11)) (hi_0 : vp_in v0_10 2010) (hp_1 : ¬ v0_11 = 0) : Met l yX13_form wsX13_form ({ frames := 1, cells := 0, slots := 0, locals := 22 }) (zPc dC dI sz [.ref h0] [(h0, .inr (15, fs0)), (v0_7, .inl (c_v0_7, 2010, .inl f_v0_7))] [(c_v0_7, .int)]) (va_Qv (fun _ : Unit => True) (zB dC dI (fun _ => [(c_v0_7, .int)]) (fun _ : Unit => [(v0_7, .inl (c_v0_7, 2010, .inl f_v0_7)), (h0, .inr (15, fs0))]) (va_A [(h0, .inr (15, fs0)), (v0_7, .inl (c_v0_7, 2010, .inl f_v0_7))] sz)) (va_A [(h0, .inr (15, fs0)), (v0_7, .inl (c_v0_7, 2010, .inl f_v0_7))] sz)) 0 0 (va_A [(h0, .inr (15, fs0)), (v0_7, .inl (c_v0_7, 2010, .inl f_v0_7))] sz) := by
  refine Met.ofW (cc := cX13_form) (maxL := 1) (ret := none) (by decide) rfl ?_
  intro p e s m args below meth c s₁ B hml hv
  obtain ⟨rfl, hsz, hP, hK, hD0⟩ := hv
  have hx := B.exec
  have hb := B.bytes
  have hr := B.returns
  have hts := atoms_spec (ws := wsX13_form) B.pre
  have hown : s.vm.findClass RX13 = some m.cls := findClass_of_methodNamed B.named
  have hlocks := B.notSynchronized
  subst hsz
  have hD := hD0.self (sz := s.heap.size)
  generalize hAe : va_A [(h0, .inr (15, fs0)), (v0_7, .inl (c_v0_7, 2010, .inl f_v0_7))] s.heap.size = A at hD ⊢
  have hA : ∀ q : Nat, s.heap.size ≤ q → A q := fun q h => by rw [← hAe]; exact Or.inr h
  have hS : va_S A s.heap s.heap [] := va_S.rf
  have hP : va_P (dC, dI) vwCl [(h0, .inr (15, fs0)), (v0_7, .inl (c_v0_7, 2010, .inl f_v0_7))] s.heap := hP
  have hl := lv_entry ([.ref h0]) (n := 1) (Nat.le_of_ble_eq_true rfl)
  rw [lg_entry_eq]
  generalize (lg_sl ([.ref h0]) ++ List.replicate (1 - (lg_sl ([.ref h0])).length) Slot.unset).toArray = ls at hl ⊢
  have hl : lv_has ls 1 [(0, .ref h0)] := hl
  refine lv_aload_n hx hb dX13_form_0 rfl (lv_at hl 0 rfl) ?_
  refine lv_iconst (v := 2) hx hb dX13_form_1 (by decide) ?_
  refine lv_aload_n hx hb dX13_form_2 rfl (lv_at hl 0 rfl) ?_
  refine va_get (D := (dC, dI)) (ci := 15) (v := .ref v0_7) (C := RX13) (T := TX13) (N := 196) hx hb hts iw_X13_form_X13 hown hK hP 0 rfl rfl 7 (by decide) (hts (.fieldLink RX13 23 "LiquidTongueModel" "wAt" "[I") (by decide +kernel)) (fun _ h9 => h9) hf0_7 dX13_form_3 ?_
  refine lv_aload_n hx hb dX13_form_6 rfl (lv_at hl 0 rfl) ?_
  refine va_get (D := (dC, dI)) (ci := 15) (v := .int v0_10) (C := RX13) (T := TX13) (N := 196) hx hb hts iw_X13_form_X13 hown hK hP 0 rfl rfl 10 (by decide) (hts (.fieldLink RX13 433 "LiquidTongueModel" "w" "I") (by decide +kernel)) (fun _ h9 => h9) hf0_10 dX13_form_7 ?_
  refine va_iald hx hb hK hP 1 0 rfl rfl hi_0 dX13_form_10 ?_
  have hPc := hP.sub (ws' := [(h0, .inr (15, fs0))]) [0] rfl
  have hDc := hD.sub (ws' := [(h0, .inr (15, fs0))]) [0] (by decide) rfl
  have hKc := hK.sub (tys' := []) [] rfl
  have hFc := va_free (wc := [(h0, .inr (15, fs0))]) hD hS hA [0] rfl
  refine va_callv (va_runV (As := [.int 2, .int (f_v0_7 (v0_10 : Int32).toNatClampNeg)]) (rest := []) ⟨hx, hb, hml, hown, hts⟩ (c_X13_fault_r1 l dC dI s.heap.size h0 fs0 2 (f_v0_7 (v0_10 : Int32).toNatClampNeg) v0_11 hl0 hf0_11 hp_1) (cwV 2 hts gX13_form_X13_fault rfl rfl rfl (by decide +kernel) ⟨Nat.le_of_ble_eq_true rfl, Nat.le_of_ble_eq_true rfl⟩) ⟨zPc_blind, va_recv hKc hPc (ci := 15) (q0 := 0) rfl rfl, fun U hU hW => zPc_at hPc hKc hDc hU hW⟩ rfl rfl hl.1 rfl (lv_room (Nat.le_of_ble_eq_true rfl)) dX13_form_11 ⟨Nat.le_of_ble_eq_true rfl, Nat.le_of_ble_eq_true rfl⟩) hS (fun q _ h => hFc q h) hFc (fun u t H1 locs ht hvm hw hB hz1 hk1 hS => ?_)
  obtain ⟨hP1, hK1, hD1⟩ := hB
  rw [ht] at hP1
  have hK1 := va_K.moved hvm.symm hK1
  obtain ⟨hP, hD⟩ := va_join (wr := [(v0_7, .inl (c_v0_7, 2010, .inl f_v0_7))]) (w1 := [(h0, .inr (15, fs0))]) hP hD [0] [1] rfl rfl (by decide) (by decide) hk1 hFc hP1 hD1
  generalize H1 = H at hP hS ⊢
  have hP : va_P (dC, dI) vwCl [(v0_7, .inl (c_v0_7, 2010, .inl f_v0_7)), (h0, .inr (15, fs0))] H := hP
  have hD : va_D A [(v0_7, .inl (c_v0_7, 2010, .inl f_v0_7)), (h0, .inr (15, fs0))] := hD
  have hP9 := hP.sub (ws' := [(v0_7, .inl (c_v0_7, 2010, .inl f_v0_7)), (h0, .inr (15, fs0))]) [0, 1] rfl
  have hD9 := hD.sub (ws' := [(v0_7, .inl (c_v0_7, 2010, .inl f_v0_7)), (h0, .inr (15, fs0))]) [0, 1] (by decide) rfl
  have hK9 := hK.sub (tys' := [(c_v0_7, .int)]) [0] rfl
  exact W.vret hx hb hr (fun t ht hW => ⟨⟨(), rfl, trivial, (zB_mk (by rw [ht]; exact hP9) (va_K.moved hW.alike hK9) hD9)⟩, hS.F ht⟩) hS.2.2 dX13_form_14
set_option maxHeartbeats 4000000 in
set_option maxRecDepth 100000 in
/-- X13_openType, a road -/
theorem c_X13_openType_r0 (l : Launch) (dC : Nat → ClassId) (dI : Nat → Nat → Nat) (sz : Nat) (h0 : Nat) (fs0 : List Value) (v0_53 : Nat) (v0_59 : Int32) (c_v0_53 : ClassId) (f_v0_53 : Nat → Int32) (v0_54 : Nat) (c_v0_54 : ClassId) (f_v0_54 : Nat → Int32) (v0_55 : Nat) (c_v0_55 : ClassId) (f_v0_55 : Nat → Int32) (v0_56 : Nat) (c_v0_56 : ClassId) (f_v0_56 : Nat → Int32) (v0_57 : Nat) (c_v0_57 : ClassId) (f_v0_57 : Nat → Int32) (hl0 : fs0.length = 196) (hf0_53 : fs0[53]? = some (.ref v0_53)) (hf0_59 : fs0[59]? = some (.int v0_59)) (hf0_54 : fs0[54]? = some (.ref v0_54)) (hf0_55 : fs0[55]? = some (.ref v0_55)) (hf0_56 : fs0[56]? = some (.ref v0_56)) (hf0_57 : fs0[57]? = some (.ref v0_57)) (hp_0 : vp_in v0_59 9000) : Met l yX13_openType wsX13_openType ({ frames := 1, cells := 0, slots := 0, locals := 23 }) (zPc dC dI sz [.ref h0] [(h0, .inr (15, fs0)), (v0_53, .inl (c_v0_53, 9000, .inl f_v0_53)), (v0_54, .inl (c_v0_54, 9000, .inl f_v0_54)), (v0_55, .inl (c_v0_55, 9000, .inl f_v0_55)), (v0_56, .inl (c_v0_56, 9000, .inl f_v0_56)), (v0_57, .inl (c_v0_57, 9000, .inl f_v0_57))] [(c_v0_53, .int), (c_v0_54, .int), (c_v0_55, .int), (c_v0_56, .int), (c_v0_57, .int)]) (va_Qi (fun (r : Int32) (_ : Unit) => r = ((v0_59 + 1) - 1)) (zB dC dI (fun _ => [(c_v0_53, .int), (c_v0_54, .int), (c_v0_55, .int), (c_v0_56, .int), (c_v0_57, .int)]) (fun _ : Unit => [(h0, .inr (15, (fs0.set 59 (.int (v0_59 + 1))))), (v0_53, .inl (c_v0_53, 9000, .inl (upd f_v0_53 (v0_59 : Int32).toNatClampNeg 0))), (v0_54, .inl (c_v0_54, 9000, .inl (upd f_v0_54 (v0_59 : Int32).toNatClampNeg (-1)))), (v0_55, .inl (c_v0_55, 9000, .inl (upd f_v0_55 (v0_59 : Int32).toNatClampNeg (-1)))), (v0_56, .inl (c_v0_56, 9000, .inl (upd f_v0_56 (v0_59 : Int32).toNatClampNeg (-1)))), (v0_57, .inl (c_v0_57, 9000, .inl (upd f_v0_57 (v0_59 : Int32).toNatClampNeg 0)))]) (va_A [(h0, .inr (15, fs0)), (v0_53, .inl (c_v0_53, 9000, .inl f_v0_53)), (v0_54, .inl (c_v0_54, 9000, .inl f_v0_54)), (v0_55, .inl (c_v0_55, 9000, .inl f_v0_55)), (v0_56, .inl (c_v0_56, 9000, .inl f_v0_56)), (v0_57, .inl (c_v0_57, 9000, .inl f_v0_57))] sz)) (va_A [(h0, .inr (15, fs0)), (v0_53, .inl (c_v0_53, 9000, .inl f_v0_53)), (v0_54, .inl (c_v0_54, 9000, .inl f_v0_54)), (v0_55, .inl (c_v0_55, 9000, .inl f_v0_55)), (v0_56, .inl (c_v0_56, 9000, .inl f_v0_56)), (v0_57, .inl (c_v0_57, 9000, .inl f_v0_57))] sz)) 0 0 (va_A [(h0, .inr (15, fs0)), (v0_53, .inl (c_v0_53, 9000, .inl f_v0_53)), (v0_54, .inl (c_v0_54, 9000, .inl f_v0_54)), (v0_55, .inl (c_v0_55, 9000, .inl f_v0_55)), (v0_56, .inl (c_v0_56, 9000, .inl f_v0_56)), (v0_57, .inl (c_v0_57, 9000, .inl f_v0_57))] sz) := by
  refine Met.ofW (cc := cX13_openType) (maxL := 1) (ret := (some .int)) (by decide) rfl ?_
  intro p e s m args below meth c s₁ B hml hv
  obtain ⟨rfl, hsz, hP, hK, hD0⟩ := hv
  have hx := B.exec
  have hb := B.bytes
  have hr := B.returns
  have hts := atoms_spec (ws := wsX13_openType) B.pre
  have hown : s.vm.findClass RX13 = some m.cls := findClass_of_methodNamed B.named
  have hlocks := B.notSynchronized
  subst hsz
  have hD := hD0.self (sz := s.heap.size)
  generalize hAe : va_A [(h0, .inr (15, fs0)), (v0_53, .inl (c_v0_53, 9000, .inl f_v0_53)), (v0_54, .inl (c_v0_54, 9000, .inl f_v0_54)), (v0_55, .inl (c_v0_55, 9000, .inl f_v0_55)), (v0_56, .inl (c_v0_56, 9000, .inl f_v0_56)), (v0_57, .inl (c_v0_57, 9000, .inl f_v0_57))] s.heap.size = A at hD ⊢
  have hA : ∀ q : Nat, s.heap.size ≤ q → A q := fun q h => by rw [← hAe]; exact Or.inr h
  have hS : va_S A s.heap s.heap [] := va_S.rf
  have hP : va_P (dC, dI) vwCl [(h0, .inr (15, fs0)), (v0_53, .inl (c_v0_53, 9000, .inl f_v0_53)), (v0_54, .inl (c_v0_54, 9000, .inl f_v0_54)), (v0_55, .inl (c_v0_55, 9000, .inl f_v0_55)), (v0_56, .inl (c_v0_56, 9000, .inl f_v0_56)), (v0_57, .inl (c_v0_57, 9000, .inl f_v0_57))] s.heap := hP
  have hl := lv_entry ([.ref h0]) (n := 1) (Nat.le_of_ble_eq_true rfl)
  rw [lg_entry_eq]
  generalize (lg_sl ([.ref h0]) ++ List.replicate (1 - (lg_sl ([.ref h0])).length) Slot.unset).toArray = ls at hl ⊢
  have hl : lv_has ls 1 [(0, .ref h0)] := hl
  refine lv_aload_n hx hb dX13_openType_0 rfl (lv_at hl 0 rfl) ?_
  refine lv_iconst (v := 0) hx hb dX13_openType_1 (by decide) ?_
  refine lv_iconst (v := -1) hx hb dX13_openType_2 (by decide) ?_
  refine lv_iconst (v := -1) hx hb dX13_openType_3 (by decide) ?_
  have hPc := hP.sub (ws' := [(h0, .inr (15, fs0)), (v0_53, .inl (c_v0_53, 9000, .inl f_v0_53)), (v0_54, .inl (c_v0_54, 9000, .inl f_v0_54)), (v0_55, .inl (c_v0_55, 9000, .inl f_v0_55)), (v0_56, .inl (c_v0_56, 9000, .inl f_v0_56)), (v0_57, .inl (c_v0_57, 9000, .inl f_v0_57))]) [0, 1, 2, 3, 4, 5] rfl
  have hDc := hD.sub (ws' := [(h0, .inr (15, fs0)), (v0_53, .inl (c_v0_53, 9000, .inl f_v0_53)), (v0_54, .inl (c_v0_54, 9000, .inl f_v0_54)), (v0_55, .inl (c_v0_55, 9000, .inl f_v0_55)), (v0_56, .inl (c_v0_56, 9000, .inl f_v0_56)), (v0_57, .inl (c_v0_57, 9000, .inl f_v0_57))]) [0, 1, 2, 3, 4, 5] (by decide) rfl
  have hKc := hK.sub (tys' := [(c_v0_53, .int), (c_v0_54, .int), (c_v0_55, .int), (c_v0_56, .int), (c_v0_57, .int)]) [0, 1, 2, 3, 4] rfl
  have hFc := va_free (wc := [(h0, .inr (15, fs0)), (v0_53, .inl (c_v0_53, 9000, .inl f_v0_53)), (v0_54, .inl (c_v0_54, 9000, .inl f_v0_54)), (v0_55, .inl (c_v0_55, 9000, .inl f_v0_55)), (v0_56, .inl (c_v0_56, 9000, .inl f_v0_56)), (v0_57, .inl (c_v0_57, 9000, .inl f_v0_57))]) hD hS hA [0, 1, 2, 3, 4, 5] rfl
  refine va_calli (va_runV (As := [.int 0, .int (-1), .int (-1)]) (rest := []) ⟨hx, hb, hml, hown, hts⟩ (c_X13_newType_r0 l dC dI s.heap.size h0 fs0 0 (-1) (-1) v0_53 v0_59 c_v0_53 f_v0_53 v0_54 c_v0_54 f_v0_54 v0_55 c_v0_55 f_v0_55 v0_56 c_v0_56 f_v0_56 v0_57 c_v0_57 f_v0_57 hl0 hf0_53 hf0_59 hf0_54 hf0_55 hf0_56 hf0_57 hp_0 hp_0 hp_0 hp_0 hp_0) (cwV 3 hts gX13_openType_X13_newType rfl rfl rfl (by decide +kernel) ⟨Nat.le_of_ble_eq_true rfl, Nat.le_of_ble_eq_true rfl⟩) ⟨zPc_blind, va_recv hKc hPc (ci := 15) (q0 := 0) rfl rfl, fun U hU hW => zPc_at hPc hKc hDc hU hW⟩ rfl rfl hl.1 rfl (lv_room (Nat.le_of_ble_eq_true rfl)) dX13_openType_4 ⟨Nat.le_of_ble_eq_true rfl, Nat.le_of_ble_eq_true rfl⟩) hS (fun q _ h => hFc q h) hFc (fun r_1 u t H1 locs ht hvm hw hB hz1 hk1 hS => ?_)
  obtain ⟨hP1, hK1, hD1⟩ := hB
  subst hw
  rw [ht] at hP1
  have hK1 := va_K.moved hvm.symm hK1
  obtain ⟨hP, hD⟩ := va_join (wr := []) (w1 := [(h0, .inr (15, (fs0.set 59 (.int (v0_59 + 1))))), (v0_53, .inl (c_v0_53, 9000, .inl (upd f_v0_53 (v0_59 : Int32).toNatClampNeg 0))), (v0_54, .inl (c_v0_54, 9000, .inl (upd f_v0_54 (v0_59 : Int32).toNatClampNeg (-1)))), (v0_55, .inl (c_v0_55, 9000, .inl (upd f_v0_55 (v0_59 : Int32).toNatClampNeg (-1)))), (v0_56, .inl (c_v0_56, 9000, .inl (upd f_v0_56 (v0_59 : Int32).toNatClampNeg (-1)))), (v0_57, .inl (c_v0_57, 9000, .inl (upd f_v0_57 (v0_59 : Int32).toNatClampNeg 0)))]) hP hD [0, 1, 2, 3, 4, 5] [] rfl rfl (by decide) (by decide) hk1 hFc hP1 hD1
  generalize H1 = H at hP hS ⊢
  have hP : va_P (dC, dI) vwCl [(h0, .inr (15, (fs0.set 59 (.int (v0_59 + 1))))), (v0_53, .inl (c_v0_53, 9000, .inl (upd f_v0_53 (v0_59 : Int32).toNatClampNeg 0))), (v0_54, .inl (c_v0_54, 9000, .inl (upd f_v0_54 (v0_59 : Int32).toNatClampNeg (-1)))), (v0_55, .inl (c_v0_55, 9000, .inl (upd f_v0_55 (v0_59 : Int32).toNatClampNeg (-1)))), (v0_56, .inl (c_v0_56, 9000, .inl (upd f_v0_56 (v0_59 : Int32).toNatClampNeg (-1)))), (v0_57, .inl (c_v0_57, 9000, .inl (upd f_v0_57 (v0_59 : Int32).toNatClampNeg 0)))] H := hP
  have hD : va_D A [(h0, .inr (15, (fs0.set 59 (.int (v0_59 + 1))))), (v0_53, .inl (c_v0_53, 9000, .inl (upd f_v0_53 (v0_59 : Int32).toNatClampNeg 0))), (v0_54, .inl (c_v0_54, 9000, .inl (upd f_v0_54 (v0_59 : Int32).toNatClampNeg (-1)))), (v0_55, .inl (c_v0_55, 9000, .inl (upd f_v0_55 (v0_59 : Int32).toNatClampNeg (-1)))), (v0_56, .inl (c_v0_56, 9000, .inl (upd f_v0_56 (v0_59 : Int32).toNatClampNeg (-1)))), (v0_57, .inl (c_v0_57, 9000, .inl (upd f_v0_57 (v0_59 : Int32).toNatClampNeg 0)))] := hD
  have hP9 := hP.sub (ws' := [(h0, .inr (15, (fs0.set 59 (.int (v0_59 + 1))))), (v0_53, .inl (c_v0_53, 9000, .inl (upd f_v0_53 (v0_59 : Int32).toNatClampNeg 0))), (v0_54, .inl (c_v0_54, 9000, .inl (upd f_v0_54 (v0_59 : Int32).toNatClampNeg (-1)))), (v0_55, .inl (c_v0_55, 9000, .inl (upd f_v0_55 (v0_59 : Int32).toNatClampNeg (-1)))), (v0_56, .inl (c_v0_56, 9000, .inl (upd f_v0_56 (v0_59 : Int32).toNatClampNeg (-1)))), (v0_57, .inl (c_v0_57, 9000, .inl (upd f_v0_57 (v0_59 : Int32).toNatClampNeg 0)))]) [0, 1, 2, 3, 4, 5] rfl
  have hD9 := hD.sub (ws' := [(h0, .inr (15, (fs0.set 59 (.int (v0_59 + 1))))), (v0_53, .inl (c_v0_53, 9000, .inl (upd f_v0_53 (v0_59 : Int32).toNatClampNeg 0))), (v0_54, .inl (c_v0_54, 9000, .inl (upd f_v0_54 (v0_59 : Int32).toNatClampNeg (-1)))), (v0_55, .inl (c_v0_55, 9000, .inl (upd f_v0_55 (v0_59 : Int32).toNatClampNeg (-1)))), (v0_56, .inl (c_v0_56, 9000, .inl (upd f_v0_56 (v0_59 : Int32).toNatClampNeg (-1)))), (v0_57, .inl (c_v0_57, 9000, .inl (upd f_v0_57 (v0_59 : Int32).toNatClampNeg 0)))]) [0, 1, 2, 3, 4, 5] (by decide) rfl
  have hK9 := hK.sub (tys' := [(c_v0_53, .int), (c_v0_54, .int), (c_v0_55, .int), (c_v0_56, .int), (c_v0_57, .int)]) [0, 1, 2, 3, 4] rfl
  exact W.iret (v := ((v0_59 + 1) - 1)) hx hb hr (fun t ht hW => ⟨⟨((v0_59 + 1) - 1), (), rfl, rfl, (zB_mk (by rw [ht]; exact hP9) (va_K.moved hW.alike hK9) hD9)⟩, hS.F ht⟩) hS.2.2 dX13_openType_7
set_option maxHeartbeats 4000000 in
set_option maxRecDepth 100000 in
/-- X13_plainType, a road -/
theorem c_X13_plainType_r0 (l : Launch) (dC : Nat → ClassId) (dI : Nat → Nat → Nat) (sz : Nat) (h0 : Nat) (fs0 : List Value) (p0 : Int32) (v0_76 : Nat) (v0_79 : Int32) (c_v0_76 : ClassId) (f_v0_76 : Nat → Int32) (v0_77 : Nat) (c_v0_77 : ClassId) (f_v0_77 : Nat → Int32) (v0_78 : Nat) (c_v0_78 : ClassId) (f_v0_78 : Nat → Int32) (v0_70 : Nat) (v0_75 : Int32) (c_v0_70 : ClassId) (f_v0_70 : Nat → Int32) (v0_71 : Nat) (c_v0_71 : ClassId) (f_v0_71 : Nat → Int32) (v0_72 : Nat) (c_v0_72 : ClassId) (f_v0_72 : Nat → Int32) (v0_73 : Nat) (c_v0_73 : ClassId) (f_v0_73 : Nat → Int32) (v0_74 : Nat) (c_v0_74 : ClassId) (f_v0_74 : Nat → Int32) (hl0 : fs0.length = 196) (hf0_76 : fs0[76]? = some (.ref v0_76)) (hf0_79 : fs0[79]? = some (.int v0_79)) (hf0_77 : fs0[77]? = some (.ref v0_77)) (hf0_78 : fs0[78]? = some (.ref v0_78)) (hf0_70 : fs0[70]? = some (.ref v0_70)) (hf0_75 : fs0[75]? = some (.int v0_75)) (hf0_71 : fs0[71]? = some (.ref v0_71)) (hf0_72 : fs0[72]? = some (.ref v0_72)) (hf0_73 : fs0[73]? = some (.ref v0_73)) (hf0_74 : fs0[74]? = some (.ref v0_74)) (hp_0 : p0 = 1) (hp_1 : vp_in v0_79 24000) (hp_2 : vp_in v0_75 40000) : Met l yX13_plainType wsX13_plainType ({ frames := 1, cells := 0, slots := 0, locals := 25 }) (zPc dC dI sz [.ref h0, .int p0] [(h0, .inr (15, fs0)), (v0_76, .inl (c_v0_76, 24000, .inl f_v0_76)), (v0_77, .inl (c_v0_77, 24000, .inl f_v0_77)), (v0_78, .inl (c_v0_78, 24000, .inl f_v0_78)), (v0_70, .inl (c_v0_70, 40000, .inl f_v0_70)), (v0_71, .inl (c_v0_71, 40000, .inl f_v0_71)), (v0_72, .inl (c_v0_72, 40000, .inl f_v0_72)), (v0_73, .inl (c_v0_73, 40000, .inl f_v0_73)), (v0_74, .inl (c_v0_74, 40000, .inl f_v0_74))] [(c_v0_76, .int), (c_v0_77, .int), (c_v0_78, .int), (c_v0_70, .int), (c_v0_71, .int), (c_v0_72, .int), (c_v0_73, .int), (c_v0_74, .int)]) (va_Qi (fun (r : Int32) (_ : Unit) => r = ((v0_75 + 1) - 1)) (zB dC dI (fun _ => [(c_v0_76, .int), (c_v0_77, .int), (c_v0_78, .int), (c_v0_70, .int), (c_v0_71, .int), (c_v0_72, .int), (c_v0_73, .int), (c_v0_74, .int)]) (fun _ : Unit => [(v0_76, .inl (c_v0_76, 24000, .inl (upd f_v0_76 (v0_79 : Int32).toNatClampNeg (-1)))), (v0_77, .inl (c_v0_77, 24000, .inl (upd f_v0_77 (v0_79 : Int32).toNatClampNeg (-1)))), (v0_78, .inl (c_v0_78, 24000, .inl (upd f_v0_78 (v0_79 : Int32).toNatClampNeg (-1)))), (h0, .inr (15, ((fs0.set 79 (.int (v0_79 + 1))).set 75 (.int (v0_75 + 1))))), (v0_70, .inl (c_v0_70, 40000, .inl (upd f_v0_70 (v0_75 : Int32).toNatClampNeg p0))), (v0_71, .inl (c_v0_71, 40000, .inl (upd f_v0_71 (v0_75 : Int32).toNatClampNeg ((v0_79 + 1) - 1)))), (v0_72, .inl (c_v0_72, 40000, .inl (upd f_v0_72 (v0_75 : Int32).toNatClampNeg (-1)))), (v0_73, .inl (c_v0_73, 40000, .inl (upd f_v0_73 (v0_75 : Int32).toNatClampNeg (-1)))), (v0_74, .inl (c_v0_74, 40000, .inl (upd f_v0_74 (v0_75 : Int32).toNatClampNeg (-1))))]) (va_A [(h0, .inr (15, fs0)), (v0_76, .inl (c_v0_76, 24000, .inl f_v0_76)), (v0_77, .inl (c_v0_77, 24000, .inl f_v0_77)), (v0_78, .inl (c_v0_78, 24000, .inl f_v0_78)), (v0_70, .inl (c_v0_70, 40000, .inl f_v0_70)), (v0_71, .inl (c_v0_71, 40000, .inl f_v0_71)), (v0_72, .inl (c_v0_72, 40000, .inl f_v0_72)), (v0_73, .inl (c_v0_73, 40000, .inl f_v0_73)), (v0_74, .inl (c_v0_74, 40000, .inl f_v0_74))] sz)) (va_A [(h0, .inr (15, fs0)), (v0_76, .inl (c_v0_76, 24000, .inl f_v0_76)), (v0_77, .inl (c_v0_77, 24000, .inl f_v0_77)), (v0_78, .inl (c_v0_78, 24000, .inl f_v0_78)), (v0_70, .inl (c_v0_70, 40000, .inl f_v0_70)), (v0_71, .inl (c_v0_71, 40000, .inl f_v0_71)), (v0_72, .inl (c_v0_72, 40000, .inl f_v0_72)), (v0_73, .inl (c_v0_73, 40000, .inl f_v0_73)), (v0_74, .inl (c_v0_74, 40000, .inl f_v0_74))] sz)) 0 0 (va_A [(h0, .inr (15, fs0)), (v0_76, .inl (c_v0_76, 24000, .inl f_v0_76)), (v0_77, .inl (c_v0_77, 24000, .inl f_v0_77)), (v0_78, .inl (c_v0_78, 24000, .inl f_v0_78)), (v0_70, .inl (c_v0_70, 40000, .inl f_v0_70)), (v0_71, .inl (c_v0_71, 40000, .inl f_v0_71)), (v0_72, .inl (c_v0_72, 40000, .inl f_v0_72)), (v0_73, .inl (c_v0_73, 40000, .inl f_v0_73)), (v0_74, .inl (c_v0_74, 40000, .inl f_v0_74))] sz) := by
  refine Met.ofW (cc := cX13_plainType) (maxL := 2) (ret := (some .int)) (by decide) rfl ?_
  intro p e s m args below meth c s₁ B hml hv
  obtain ⟨rfl, hsz, hP, hK, hD0⟩ := hv
  have hx := B.exec
  have hb := B.bytes
  have hr := B.returns
  have hts := atoms_spec (ws := wsX13_plainType) B.pre
  have hown : s.vm.findClass RX13 = some m.cls := findClass_of_methodNamed B.named
  have hlocks := B.notSynchronized
  subst hsz
  have hD := hD0.self (sz := s.heap.size)
  generalize hAe : va_A [(h0, .inr (15, fs0)), (v0_76, .inl (c_v0_76, 24000, .inl f_v0_76)), (v0_77, .inl (c_v0_77, 24000, .inl f_v0_77)), (v0_78, .inl (c_v0_78, 24000, .inl f_v0_78)), (v0_70, .inl (c_v0_70, 40000, .inl f_v0_70)), (v0_71, .inl (c_v0_71, 40000, .inl f_v0_71)), (v0_72, .inl (c_v0_72, 40000, .inl f_v0_72)), (v0_73, .inl (c_v0_73, 40000, .inl f_v0_73)), (v0_74, .inl (c_v0_74, 40000, .inl f_v0_74))] s.heap.size = A at hD ⊢
  have hA : ∀ q : Nat, s.heap.size ≤ q → A q := fun q h => by rw [← hAe]; exact Or.inr h
  have hS : va_S A s.heap s.heap [] := va_S.rf
  have hP : va_P (dC, dI) vwCl [(h0, .inr (15, fs0)), (v0_76, .inl (c_v0_76, 24000, .inl f_v0_76)), (v0_77, .inl (c_v0_77, 24000, .inl f_v0_77)), (v0_78, .inl (c_v0_78, 24000, .inl f_v0_78)), (v0_70, .inl (c_v0_70, 40000, .inl f_v0_70)), (v0_71, .inl (c_v0_71, 40000, .inl f_v0_71)), (v0_72, .inl (c_v0_72, 40000, .inl f_v0_72)), (v0_73, .inl (c_v0_73, 40000, .inl f_v0_73)), (v0_74, .inl (c_v0_74, 40000, .inl f_v0_74))] s.heap := hP
  have hl := lv_entry ([.ref h0, .int p0]) (n := 2) (Nat.le_of_ble_eq_true rfl)
  rw [lg_entry_eq]
  generalize (lg_sl ([.ref h0, .int p0]) ++ List.replicate (2 - (lg_sl ([.ref h0, .int p0])).length) Slot.unset).toArray = ls at hl ⊢
  have hl : lv_has ls 2 [(0, .ref h0), (1, .int p0)] := hl
  refine lv_aload_n hx hb dX13_plainType_0 rfl (lv_at hl 0 rfl) ?_
  refine lv_iload_n hx hb dX13_plainType_1 rfl (lv_at hl 1 rfl) ?_
  refine lv_iload_n hx hb dX13_plainType_2 rfl (lv_at hl 1 rfl) ?_
  have hPc := hP.sub (ws' := []) [] rfl
  have hDc := hD.sub (ws' := []) [] (by decide) rfl
  have hKc := hK.sub (tys' := []) [] rfl
  have hFc := va_free (wc := []) hD hS hA [] rfl
  refine va_calli (va_runS (As := [.int p0]) (rest := [.int p0, .ref h0]) ⟨hx, hb, hml, hown, hts⟩ (c_X13_isSaid_r0 l dC dI s.heap.size p0 hp_0) (va_cwS 1 hts gX13_plainType_X13_isSaid rfl rfl rfl (by decide +kernel) ⟨Nat.le_of_ble_eq_true rfl, Nat.le_of_ble_eq_true rfl⟩) ⟨zPc_blind, fun U hU hW => zPc_at hPc hKc hDc hU hW⟩ rfl rfl hl.1 rfl (lv_room (Nat.le_of_ble_eq_true rfl)) dX13_plainType_3 ⟨Nat.le_of_ble_eq_true rfl, Nat.le_of_ble_eq_true rfl⟩) hS (fun q _ h => hFc q h) hFc (fun r_1 u t H1 locs ht hvm hw hB hz1 hk1 hS => ?_)
  obtain ⟨hP1, hK1, hD1⟩ := hB
  subst hw
  rw [ht] at hP1
  have hK1 := va_K.moved hvm.symm hK1
  obtain ⟨hP, hD⟩ := va_join (wr := [(h0, .inr (15, fs0)), (v0_76, .inl (c_v0_76, 24000, .inl f_v0_76)), (v0_77, .inl (c_v0_77, 24000, .inl f_v0_77)), (v0_78, .inl (c_v0_78, 24000, .inl f_v0_78)), (v0_70, .inl (c_v0_70, 40000, .inl f_v0_70)), (v0_71, .inl (c_v0_71, 40000, .inl f_v0_71)), (v0_72, .inl (c_v0_72, 40000, .inl f_v0_72)), (v0_73, .inl (c_v0_73, 40000, .inl f_v0_73)), (v0_74, .inl (c_v0_74, 40000, .inl f_v0_74))]) (w1 := []) hP hD [] [0, 1, 2, 3, 4, 5, 6, 7, 8] rfl rfl (by decide) (by decide) hk1 hFc hP1 hD1
  generalize H1 = H at hP hS ⊢
  have hP : va_P (dC, dI) vwCl [(h0, .inr (15, fs0)), (v0_76, .inl (c_v0_76, 24000, .inl f_v0_76)), (v0_77, .inl (c_v0_77, 24000, .inl f_v0_77)), (v0_78, .inl (c_v0_78, 24000, .inl f_v0_78)), (v0_70, .inl (c_v0_70, 40000, .inl f_v0_70)), (v0_71, .inl (c_v0_71, 40000, .inl f_v0_71)), (v0_72, .inl (c_v0_72, 40000, .inl f_v0_72)), (v0_73, .inl (c_v0_73, 40000, .inl f_v0_73)), (v0_74, .inl (c_v0_74, 40000, .inl f_v0_74))] H := hP
  have hD : va_D A [(h0, .inr (15, fs0)), (v0_76, .inl (c_v0_76, 24000, .inl f_v0_76)), (v0_77, .inl (c_v0_77, 24000, .inl f_v0_77)), (v0_78, .inl (c_v0_78, 24000, .inl f_v0_78)), (v0_70, .inl (c_v0_70, 40000, .inl f_v0_70)), (v0_71, .inl (c_v0_71, 40000, .inl f_v0_71)), (v0_72, .inl (c_v0_72, 40000, .inl f_v0_72)), (v0_73, .inl (c_v0_73, 40000, .inl f_v0_73)), (v0_74, .inl (c_v0_74, 40000, .inl f_v0_74))] := hD
  refine lv_if_eq (tgt := 19) hx hb dX13_plainType_6 (by decide) (fun c_1 => absurd c_1 (by decide)) (fun c_1 => ?_)
  refine lv_aload_n hx hb dX13_plainType_9 rfl (lv_at hl 0 rfl) ?_
  refine lv_iconst (v := -1) hx hb dX13_plainType_10 (by decide) ?_
  refine lv_iconst (v := -1) hx hb dX13_plainType_11 (by decide) ?_
  refine lv_iconst (v := -1) hx hb dX13_plainType_12 (by decide) ?_
  have hPc := hP.sub (ws' := [(h0, .inr (15, fs0)), (v0_76, .inl (c_v0_76, 24000, .inl f_v0_76)), (v0_77, .inl (c_v0_77, 24000, .inl f_v0_77)), (v0_78, .inl (c_v0_78, 24000, .inl f_v0_78))]) [0, 1, 2, 3] rfl
  have hDc := hD.sub (ws' := [(h0, .inr (15, fs0)), (v0_76, .inl (c_v0_76, 24000, .inl f_v0_76)), (v0_77, .inl (c_v0_77, 24000, .inl f_v0_77)), (v0_78, .inl (c_v0_78, 24000, .inl f_v0_78))]) [0, 1, 2, 3] (by decide) rfl
  have hKc := hK.sub (tys' := [(c_v0_76, .int), (c_v0_77, .int), (c_v0_78, .int)]) [0, 1, 2] rfl
  have hFc := va_free (wc := [(h0, .inr (15, fs0)), (v0_76, .inl (c_v0_76, 24000, .inl f_v0_76)), (v0_77, .inl (c_v0_77, 24000, .inl f_v0_77)), (v0_78, .inl (c_v0_78, 24000, .inl f_v0_78))]) hD hS hA [0, 1, 2, 3] rfl
  refine va_calli (va_runV (As := [.int (-1), .int (-1), .int (-1)]) (rest := [.int p0, .ref h0]) ⟨hx, hb, hml, hown, hts⟩ (c_X13_said_r0 l dC dI H.size h0 fs0 (-1) (-1) (-1) v0_76 v0_79 c_v0_76 f_v0_76 v0_77 c_v0_77 f_v0_77 v0_78 c_v0_78 f_v0_78 hl0 hf0_76 hf0_79 hf0_77 hf0_78 hp_1 hp_1 hp_1) (cwV 3 hts gX13_plainType_X13_said rfl rfl rfl (by decide +kernel) ⟨Nat.le_of_ble_eq_true rfl, Nat.le_of_ble_eq_true rfl⟩) ⟨zPc_blind, va_recv hKc hPc (ci := 15) (q0 := 0) rfl rfl, fun U hU hW => zPc_at hPc hKc hDc hU hW⟩ rfl rfl hl.1 rfl (lv_room (Nat.le_of_ble_eq_true rfl)) dX13_plainType_13 ⟨Nat.le_of_ble_eq_true rfl, Nat.le_of_ble_eq_true rfl⟩) hS (fun q _ h => hFc q h) hFc (fun r_2 u t H1 locs ht hvm hw hB hz1 hk1 hS => ?_)
  obtain ⟨hP1, hK1, hD1⟩ := hB
  subst hw
  rw [ht] at hP1
  have hK1 := va_K.moved hvm.symm hK1
  obtain ⟨hP, hD⟩ := va_join (wr := [(v0_70, .inl (c_v0_70, 40000, .inl f_v0_70)), (v0_71, .inl (c_v0_71, 40000, .inl f_v0_71)), (v0_72, .inl (c_v0_72, 40000, .inl f_v0_72)), (v0_73, .inl (c_v0_73, 40000, .inl f_v0_73)), (v0_74, .inl (c_v0_74, 40000, .inl f_v0_74))]) (w1 := [(h0, .inr (15, (fs0.set 79 (.int (v0_79 + 1))))), (v0_76, .inl (c_v0_76, 24000, .inl (upd f_v0_76 (v0_79 : Int32).toNatClampNeg (-1)))), (v0_77, .inl (c_v0_77, 24000, .inl (upd f_v0_77 (v0_79 : Int32).toNatClampNeg (-1)))), (v0_78, .inl (c_v0_78, 24000, .inl (upd f_v0_78 (v0_79 : Int32).toNatClampNeg (-1))))]) hP hD [0, 1, 2, 3] [4, 5, 6, 7, 8] rfl rfl (by decide) (by decide) hk1 hFc hP1 hD1
  generalize H1 = H at hP hS ⊢
  have hP : va_P (dC, dI) vwCl [(v0_70, .inl (c_v0_70, 40000, .inl f_v0_70)), (v0_71, .inl (c_v0_71, 40000, .inl f_v0_71)), (v0_72, .inl (c_v0_72, 40000, .inl f_v0_72)), (v0_73, .inl (c_v0_73, 40000, .inl f_v0_73)), (v0_74, .inl (c_v0_74, 40000, .inl f_v0_74)), (h0, .inr (15, (fs0.set 79 (.int (v0_79 + 1))))), (v0_76, .inl (c_v0_76, 24000, .inl (upd f_v0_76 (v0_79 : Int32).toNatClampNeg (-1)))), (v0_77, .inl (c_v0_77, 24000, .inl (upd f_v0_77 (v0_79 : Int32).toNatClampNeg (-1)))), (v0_78, .inl (c_v0_78, 24000, .inl (upd f_v0_78 (v0_79 : Int32).toNatClampNeg (-1))))] H := hP
  have hD : va_D A [(v0_70, .inl (c_v0_70, 40000, .inl f_v0_70)), (v0_71, .inl (c_v0_71, 40000, .inl f_v0_71)), (v0_72, .inl (c_v0_72, 40000, .inl f_v0_72)), (v0_73, .inl (c_v0_73, 40000, .inl f_v0_73)), (v0_74, .inl (c_v0_74, 40000, .inl f_v0_74)), (h0, .inr (15, (fs0.set 79 (.int (v0_79 + 1))))), (v0_76, .inl (c_v0_76, 24000, .inl (upd f_v0_76 (v0_79 : Int32).toNatClampNeg (-1)))), (v0_77, .inl (c_v0_77, 24000, .inl (upd f_v0_77 (v0_79 : Int32).toNatClampNeg (-1)))), (v0_78, .inl (c_v0_78, 24000, .inl (upd f_v0_78 (v0_79 : Int32).toNatClampNeg (-1))))] := hD
  refine lv_goto (tgt := 20) hx hb dX13_plainType_16 (by decide) ?_
  refine lv_iconst (v := -1) hx hb dX13_plainType_20 (by decide) ?_
  refine lv_iconst (v := -1) hx hb dX13_plainType_21 (by decide) ?_
  refine lv_iconst (v := -1) hx hb dX13_plainType_22 (by decide) ?_
  have hPc := hP.sub (ws' := [(h0, .inr (15, (fs0.set 79 (.int (v0_79 + 1))))), (v0_70, .inl (c_v0_70, 40000, .inl f_v0_70)), (v0_71, .inl (c_v0_71, 40000, .inl f_v0_71)), (v0_72, .inl (c_v0_72, 40000, .inl f_v0_72)), (v0_73, .inl (c_v0_73, 40000, .inl f_v0_73)), (v0_74, .inl (c_v0_74, 40000, .inl f_v0_74))]) [5, 0, 1, 2, 3, 4] rfl
  have hDc := hD.sub (ws' := [(h0, .inr (15, (fs0.set 79 (.int (v0_79 + 1))))), (v0_70, .inl (c_v0_70, 40000, .inl f_v0_70)), (v0_71, .inl (c_v0_71, 40000, .inl f_v0_71)), (v0_72, .inl (c_v0_72, 40000, .inl f_v0_72)), (v0_73, .inl (c_v0_73, 40000, .inl f_v0_73)), (v0_74, .inl (c_v0_74, 40000, .inl f_v0_74))]) [5, 0, 1, 2, 3, 4] (by decide) rfl
  have hKc := hK.sub (tys' := [(c_v0_70, .int), (c_v0_71, .int), (c_v0_72, .int), (c_v0_73, .int), (c_v0_74, .int)]) [3, 4, 5, 6, 7] rfl
  have hFc := va_free (wc := [(h0, .inr (15, (fs0.set 79 (.int (v0_79 + 1))))), (v0_70, .inl (c_v0_70, 40000, .inl f_v0_70)), (v0_71, .inl (c_v0_71, 40000, .inl f_v0_71)), (v0_72, .inl (c_v0_72, 40000, .inl f_v0_72)), (v0_73, .inl (c_v0_73, 40000, .inl f_v0_73)), (v0_74, .inl (c_v0_74, 40000, .inl f_v0_74))]) hD hS hA [5, 0, 1, 2, 3, 4] rfl
  refine va_calli (va_runV (As := [.int p0, .int ((v0_79 + 1) - 1), .int (-1), .int (-1), .int (-1)]) (rest := []) ⟨hx, hb, hml, hown, hts⟩ (c_X13_rich_r0 l dC dI H.size h0 (fs0.set 79 (.int (v0_79 + 1))) p0 ((v0_79 + 1) - 1) (-1) (-1) (-1) v0_70 v0_75 c_v0_70 f_v0_70 v0_71 c_v0_71 f_v0_71 v0_72 c_v0_72 f_v0_72 v0_73 c_v0_73 f_v0_73 v0_74 c_v0_74 f_v0_74 (zs_len hl0) (zs_ne (by decide) hf0_70) (zs_ne (by decide) hf0_75) (zs_ne (by decide) hf0_71) (zs_ne (by decide) hf0_72) (zs_ne (by decide) hf0_73) (zs_ne (by decide) hf0_74) hp_2 hp_2 hp_2 hp_2 hp_2) (cwV 5 hts gX13_plainType_X13_rich rfl rfl rfl (by decide +kernel) ⟨Nat.le_of_ble_eq_true rfl, Nat.le_of_ble_eq_true rfl⟩) ⟨zPc_blind, va_recv hKc hPc (ci := 15) (q0 := 0) rfl rfl, fun U hU hW => zPc_at hPc hKc hDc hU hW⟩ rfl rfl hl.1 rfl (lv_room (Nat.le_of_ble_eq_true rfl)) dX13_plainType_23 ⟨Nat.le_of_ble_eq_true rfl, Nat.le_of_ble_eq_true rfl⟩) hS (fun q _ h => hFc q h) hFc (fun r_3 u t H1 locs ht hvm hw hB hz1 hk1 hS => ?_)
  obtain ⟨hP1, hK1, hD1⟩ := hB
  subst hw
  rw [ht] at hP1
  have hK1 := va_K.moved hvm.symm hK1
  obtain ⟨hP, hD⟩ := va_join (wr := [(v0_76, .inl (c_v0_76, 24000, .inl (upd f_v0_76 (v0_79 : Int32).toNatClampNeg (-1)))), (v0_77, .inl (c_v0_77, 24000, .inl (upd f_v0_77 (v0_79 : Int32).toNatClampNeg (-1)))), (v0_78, .inl (c_v0_78, 24000, .inl (upd f_v0_78 (v0_79 : Int32).toNatClampNeg (-1))))]) (w1 := [(h0, .inr (15, ((fs0.set 79 (.int (v0_79 + 1))).set 75 (.int (v0_75 + 1))))), (v0_70, .inl (c_v0_70, 40000, .inl (upd f_v0_70 (v0_75 : Int32).toNatClampNeg p0))), (v0_71, .inl (c_v0_71, 40000, .inl (upd f_v0_71 (v0_75 : Int32).toNatClampNeg ((v0_79 + 1) - 1)))), (v0_72, .inl (c_v0_72, 40000, .inl (upd f_v0_72 (v0_75 : Int32).toNatClampNeg (-1)))), (v0_73, .inl (c_v0_73, 40000, .inl (upd f_v0_73 (v0_75 : Int32).toNatClampNeg (-1)))), (v0_74, .inl (c_v0_74, 40000, .inl (upd f_v0_74 (v0_75 : Int32).toNatClampNeg (-1))))]) hP hD [5, 0, 1, 2, 3, 4] [6, 7, 8] rfl rfl (by decide) (by decide) hk1 hFc hP1 hD1
  generalize H1 = H at hP hS ⊢
  have hP : va_P (dC, dI) vwCl [(v0_76, .inl (c_v0_76, 24000, .inl (upd f_v0_76 (v0_79 : Int32).toNatClampNeg (-1)))), (v0_77, .inl (c_v0_77, 24000, .inl (upd f_v0_77 (v0_79 : Int32).toNatClampNeg (-1)))), (v0_78, .inl (c_v0_78, 24000, .inl (upd f_v0_78 (v0_79 : Int32).toNatClampNeg (-1)))), (h0, .inr (15, ((fs0.set 79 (.int (v0_79 + 1))).set 75 (.int (v0_75 + 1))))), (v0_70, .inl (c_v0_70, 40000, .inl (upd f_v0_70 (v0_75 : Int32).toNatClampNeg p0))), (v0_71, .inl (c_v0_71, 40000, .inl (upd f_v0_71 (v0_75 : Int32).toNatClampNeg ((v0_79 + 1) - 1)))), (v0_72, .inl (c_v0_72, 40000, .inl (upd f_v0_72 (v0_75 : Int32).toNatClampNeg (-1)))), (v0_73, .inl (c_v0_73, 40000, .inl (upd f_v0_73 (v0_75 : Int32).toNatClampNeg (-1)))), (v0_74, .inl (c_v0_74, 40000, .inl (upd f_v0_74 (v0_75 : Int32).toNatClampNeg (-1))))] H := hP
  have hD : va_D A [(v0_76, .inl (c_v0_76, 24000, .inl (upd f_v0_76 (v0_79 : Int32).toNatClampNeg (-1)))), (v0_77, .inl (c_v0_77, 24000, .inl (upd f_v0_77 (v0_79 : Int32).toNatClampNeg (-1)))), (v0_78, .inl (c_v0_78, 24000, .inl (upd f_v0_78 (v0_79 : Int32).toNatClampNeg (-1)))), (h0, .inr (15, ((fs0.set 79 (.int (v0_79 + 1))).set 75 (.int (v0_75 + 1))))), (v0_70, .inl (c_v0_70, 40000, .inl (upd f_v0_70 (v0_75 : Int32).toNatClampNeg p0))), (v0_71, .inl (c_v0_71, 40000, .inl (upd f_v0_71 (v0_75 : Int32).toNatClampNeg ((v0_79 + 1) - 1)))), (v0_72, .inl (c_v0_72, 40000, .inl (upd f_v0_72 (v0_75 : Int32).toNatClampNeg (-1)))), (v0_73, .inl (c_v0_73, 40000, .inl (upd f_v0_73 (v0_75 : Int32).toNatClampNeg (-1)))), (v0_74, .inl (c_v0_74, 40000, .inl (upd f_v0_74 (v0_75 : Int32).toNatClampNeg (-1))))] := hD
  have hP9 := hP.sub (ws' := [(v0_76, .inl (c_v0_76, 24000, .inl (upd f_v0_76 (v0_79 : Int32).toNatClampNeg (-1)))), (v0_77, .inl (c_v0_77, 24000, .inl (upd f_v0_77 (v0_79 : Int32).toNatClampNeg (-1)))), (v0_78, .inl (c_v0_78, 24000, .inl (upd f_v0_78 (v0_79 : Int32).toNatClampNeg (-1)))), (h0, .inr (15, ((fs0.set 79 (.int (v0_79 + 1))).set 75 (.int (v0_75 + 1))))), (v0_70, .inl (c_v0_70, 40000, .inl (upd f_v0_70 (v0_75 : Int32).toNatClampNeg p0))), (v0_71, .inl (c_v0_71, 40000, .inl (upd f_v0_71 (v0_75 : Int32).toNatClampNeg ((v0_79 + 1) - 1)))), (v0_72, .inl (c_v0_72, 40000, .inl (upd f_v0_72 (v0_75 : Int32).toNatClampNeg (-1)))), (v0_73, .inl (c_v0_73, 40000, .inl (upd f_v0_73 (v0_75 : Int32).toNatClampNeg (-1)))), (v0_74, .inl (c_v0_74, 40000, .inl (upd f_v0_74 (v0_75 : Int32).toNatClampNeg (-1))))]) [0, 1, 2, 3, 4, 5, 6, 7, 8] rfl
  have hD9 := hD.sub (ws' := [(v0_76, .inl (c_v0_76, 24000, .inl (upd f_v0_76 (v0_79 : Int32).toNatClampNeg (-1)))), (v0_77, .inl (c_v0_77, 24000, .inl (upd f_v0_77 (v0_79 : Int32).toNatClampNeg (-1)))), (v0_78, .inl (c_v0_78, 24000, .inl (upd f_v0_78 (v0_79 : Int32).toNatClampNeg (-1)))), (h0, .inr (15, ((fs0.set 79 (.int (v0_79 + 1))).set 75 (.int (v0_75 + 1))))), (v0_70, .inl (c_v0_70, 40000, .inl (upd f_v0_70 (v0_75 : Int32).toNatClampNeg p0))), (v0_71, .inl (c_v0_71, 40000, .inl (upd f_v0_71 (v0_75 : Int32).toNatClampNeg ((v0_79 + 1) - 1)))), (v0_72, .inl (c_v0_72, 40000, .inl (upd f_v0_72 (v0_75 : Int32).toNatClampNeg (-1)))), (v0_73, .inl (c_v0_73, 40000, .inl (upd f_v0_73 (v0_75 : Int32).toNatClampNeg (-1)))), (v0_74, .inl (c_v0_74, 40000, .inl (upd f_v0_74 (v0_75 : Int32).toNatClampNeg (-1))))]) [0, 1, 2, 3, 4, 5, 6, 7, 8] (by decide) rfl
  have hK9 := hK.sub (tys' := [(c_v0_76, .int), (c_v0_77, .int), (c_v0_78, .int), (c_v0_70, .int), (c_v0_71, .int), (c_v0_72, .int), (c_v0_73, .int), (c_v0_74, .int)]) [0, 1, 2, 3, 4, 5, 6, 7] rfl
  exact W.iret (v := ((v0_75 + 1) - 1)) hx hb hr (fun t ht hW => ⟨⟨((v0_75 + 1) - 1), (), rfl, rfl, (zB_mk (by rw [ht]; exact hP9) (va_K.moved hW.alike hK9) hD9)⟩, hS.F ht⟩) hS.2.2 dX13_plainType_26
set_option maxHeartbeats 4000000 in
set_option maxRecDepth 100000 in
/-- X13_plainType, a road -/
theorem c_X13_plainType_r1 (l : Launch) (dC : Nat → ClassId) (dI : Nat → Nat → Nat) (sz : Nat) (h0 : Nat) (fs0 : List Value) (p0 : Int32) (v0_76 : Nat) (v0_79 : Int32) (c_v0_76 : ClassId) (f_v0_76 : Nat → Int32) (v0_77 : Nat) (c_v0_77 : ClassId) (f_v0_77 : Nat → Int32) (v0_78 : Nat) (c_v0_78 : ClassId) (f_v0_78 : Nat → Int32) (v0_70 : Nat) (v0_75 : Int32) (c_v0_70 : ClassId) (f_v0_70 : Nat → Int32) (v0_71 : Nat) (c_v0_71 : ClassId) (f_v0_71 : Nat → Int32) (v0_72 : Nat) (c_v0_72 : ClassId) (f_v0_72 : Nat → Int32) (v0_73 : Nat) (c_v0_73 : ClassId) (f_v0_73 : Nat → Int32) (v0_74 : Nat) (c_v0_74 : ClassId) (f_v0_74 : Nat → Int32) (hl0 : fs0.length = 196) (hf0_76 : fs0[76]? = some (.ref v0_76)) (hf0_79 : fs0[79]? = some (.int v0_79)) (hf0_77 : fs0[77]? = some (.ref v0_77)) (hf0_78 : fs0[78]? = some (.ref v0_78)) (hf0_70 : fs0[70]? = some (.ref v0_70)) (hf0_75 : fs0[75]? = some (.int v0_75)) (hf0_71 : fs0[71]? = some (.ref v0_71)) (hf0_72 : fs0[72]? = some (.ref v0_72)) (hf0_73 : fs0[73]? = some (.ref v0_73)) (hf0_74 : fs0[74]? = some (.ref v0_74)) (hp_0 : ¬ p0 = 1) (hp_1 : ¬ p0 = 3) (hp_2 : p0 = 5) (hp_3 : vp_in v0_79 24000) (hp_4 : vp_in v0_75 40000) : Met l yX13_plainType wsX13_plainType ({ frames := 1, cells := 0, slots := 0, locals := 25 }) (zPc dC dI sz [.ref h0, .int p0] [(h0, .inr (15, fs0)), (v0_76, .inl (c_v0_76, 24000, .inl f_v0_76)), (v0_77, .inl (c_v0_77, 24000, .inl f_v0_77)), (v0_78, .inl (c_v0_78, 24000, .inl f_v0_78)), (v0_70, .inl (c_v0_70, 40000, .inl f_v0_70)), (v0_71, .inl (c_v0_71, 40000, .inl f_v0_71)), (v0_72, .inl (c_v0_72, 40000, .inl f_v0_72)), (v0_73, .inl (c_v0_73, 40000, .inl f_v0_73)), (v0_74, .inl (c_v0_74, 40000, .inl f_v0_74))] [(c_v0_76, .int), (c_v0_77, .int), (c_v0_78, .int), (c_v0_70, .int), (c_v0_71, .int), (c_v0_72, .int), (c_v0_73, .int), (c_v0_74, .int)]) (va_Qi (fun (r : Int32) (_ : Unit) => r = ((v0_75 + 1) - 1)) (zB dC dI (fun _ => [(c_v0_76, .int), (c_v0_77, .int), (c_v0_78, .int), (c_v0_70, .int), (c_v0_71, .int), (c_v0_72, .int), (c_v0_73, .int), (c_v0_74, .int)]) (fun _ : Unit => [(v0_76, .inl (c_v0_76, 24000, .inl (upd f_v0_76 (v0_79 : Int32).toNatClampNeg (-1)))), (v0_77, .inl (c_v0_77, 24000, .inl (upd f_v0_77 (v0_79 : Int32).toNatClampNeg (-1)))), (v0_78, .inl (c_v0_78, 24000, .inl (upd f_v0_78 (v0_79 : Int32).toNatClampNeg (-1)))), (h0, .inr (15, ((fs0.set 79 (.int (v0_79 + 1))).set 75 (.int (v0_75 + 1))))), (v0_70, .inl (c_v0_70, 40000, .inl (upd f_v0_70 (v0_75 : Int32).toNatClampNeg p0))), (v0_71, .inl (c_v0_71, 40000, .inl (upd f_v0_71 (v0_75 : Int32).toNatClampNeg ((v0_79 + 1) - 1)))), (v0_72, .inl (c_v0_72, 40000, .inl (upd f_v0_72 (v0_75 : Int32).toNatClampNeg (-1)))), (v0_73, .inl (c_v0_73, 40000, .inl (upd f_v0_73 (v0_75 : Int32).toNatClampNeg (-1)))), (v0_74, .inl (c_v0_74, 40000, .inl (upd f_v0_74 (v0_75 : Int32).toNatClampNeg (-1))))]) (va_A [(h0, .inr (15, fs0)), (v0_76, .inl (c_v0_76, 24000, .inl f_v0_76)), (v0_77, .inl (c_v0_77, 24000, .inl f_v0_77)), (v0_78, .inl (c_v0_78, 24000, .inl f_v0_78)), (v0_70, .inl (c_v0_70, 40000, .inl f_v0_70)), (v0_71, .inl (c_v0_71, 40000, .inl f_v0_71)), (v0_72, .inl (c_v0_72, 40000, .inl f_v0_72)), (v0_73, .inl (c_v0_73, 40000, .inl f_v0_73)), (v0_74, .inl (c_v0_74, 40000, .inl f_v0_74))] sz)) (va_A [(h0, .inr (15, fs0)), (v0_76, .inl (c_v0_76, 24000, .inl f_v0_76)), (v0_77, .inl (c_v0_77, 24000, .inl f_v0_77)), (v0_78, .inl (c_v0_78, 24000, .inl f_v0_78)), (v0_70, .inl (c_v0_70, 40000, .inl f_v0_70)), (v0_71, .inl (c_v0_71, 40000, .inl f_v0_71)), (v0_72, .inl (c_v0_72, 40000, .inl f_v0_72)), (v0_73, .inl (c_v0_73, 40000, .inl f_v0_73)), (v0_74, .inl (c_v0_74, 40000, .inl f_v0_74))] sz)) 0 0 (va_A [(h0, .inr (15, fs0)), (v0_76, .inl (c_v0_76, 24000, .inl f_v0_76)), (v0_77, .inl (c_v0_77, 24000, .inl f_v0_77)), (v0_78, .inl (c_v0_78, 24000, .inl f_v0_78)), (v0_70, .inl (c_v0_70, 40000, .inl f_v0_70)), (v0_71, .inl (c_v0_71, 40000, .inl f_v0_71)), (v0_72, .inl (c_v0_72, 40000, .inl f_v0_72)), (v0_73, .inl (c_v0_73, 40000, .inl f_v0_73)), (v0_74, .inl (c_v0_74, 40000, .inl f_v0_74))] sz) := by
  refine Met.ofW (cc := cX13_plainType) (maxL := 2) (ret := (some .int)) (by decide) rfl ?_
  intro p e s m args below meth c s₁ B hml hv
  obtain ⟨rfl, hsz, hP, hK, hD0⟩ := hv
  have hx := B.exec
  have hb := B.bytes
  have hr := B.returns
  have hts := atoms_spec (ws := wsX13_plainType) B.pre
  have hown : s.vm.findClass RX13 = some m.cls := findClass_of_methodNamed B.named
  have hlocks := B.notSynchronized
  subst hsz
  have hD := hD0.self (sz := s.heap.size)
  generalize hAe : va_A [(h0, .inr (15, fs0)), (v0_76, .inl (c_v0_76, 24000, .inl f_v0_76)), (v0_77, .inl (c_v0_77, 24000, .inl f_v0_77)), (v0_78, .inl (c_v0_78, 24000, .inl f_v0_78)), (v0_70, .inl (c_v0_70, 40000, .inl f_v0_70)), (v0_71, .inl (c_v0_71, 40000, .inl f_v0_71)), (v0_72, .inl (c_v0_72, 40000, .inl f_v0_72)), (v0_73, .inl (c_v0_73, 40000, .inl f_v0_73)), (v0_74, .inl (c_v0_74, 40000, .inl f_v0_74))] s.heap.size = A at hD ⊢
  have hA : ∀ q : Nat, s.heap.size ≤ q → A q := fun q h => by rw [← hAe]; exact Or.inr h
  have hS : va_S A s.heap s.heap [] := va_S.rf
  have hP : va_P (dC, dI) vwCl [(h0, .inr (15, fs0)), (v0_76, .inl (c_v0_76, 24000, .inl f_v0_76)), (v0_77, .inl (c_v0_77, 24000, .inl f_v0_77)), (v0_78, .inl (c_v0_78, 24000, .inl f_v0_78)), (v0_70, .inl (c_v0_70, 40000, .inl f_v0_70)), (v0_71, .inl (c_v0_71, 40000, .inl f_v0_71)), (v0_72, .inl (c_v0_72, 40000, .inl f_v0_72)), (v0_73, .inl (c_v0_73, 40000, .inl f_v0_73)), (v0_74, .inl (c_v0_74, 40000, .inl f_v0_74))] s.heap := hP
  have hl := lv_entry ([.ref h0, .int p0]) (n := 2) (Nat.le_of_ble_eq_true rfl)
  rw [lg_entry_eq]
  generalize (lg_sl ([.ref h0, .int p0]) ++ List.replicate (2 - (lg_sl ([.ref h0, .int p0])).length) Slot.unset).toArray = ls at hl ⊢
  have hl : lv_has ls 2 [(0, .ref h0), (1, .int p0)] := hl
  refine lv_aload_n hx hb dX13_plainType_0 rfl (lv_at hl 0 rfl) ?_
  refine lv_iload_n hx hb dX13_plainType_1 rfl (lv_at hl 1 rfl) ?_
  refine lv_iload_n hx hb dX13_plainType_2 rfl (lv_at hl 1 rfl) ?_
  have hPc := hP.sub (ws' := []) [] rfl
  have hDc := hD.sub (ws' := []) [] (by decide) rfl
  have hKc := hK.sub (tys' := []) [] rfl
  have hFc := va_free (wc := []) hD hS hA [] rfl
  refine va_calli (va_runS (As := [.int p0]) (rest := [.int p0, .ref h0]) ⟨hx, hb, hml, hown, hts⟩ (c_X13_isSaid_r3 l dC dI s.heap.size p0 hp_0 hp_1 hp_2) (va_cwS 1 hts gX13_plainType_X13_isSaid rfl rfl rfl (by decide +kernel) ⟨Nat.le_of_ble_eq_true rfl, Nat.le_of_ble_eq_true rfl⟩) ⟨zPc_blind, fun U hU hW => zPc_at hPc hKc hDc hU hW⟩ rfl rfl hl.1 rfl (lv_room (Nat.le_of_ble_eq_true rfl)) dX13_plainType_3 ⟨Nat.le_of_ble_eq_true rfl, Nat.le_of_ble_eq_true rfl⟩) hS (fun q _ h => hFc q h) hFc (fun r_1 u t H1 locs ht hvm hw hB hz1 hk1 hS => ?_)
  obtain ⟨hP1, hK1, hD1⟩ := hB
  subst hw
  rw [ht] at hP1
  have hK1 := va_K.moved hvm.symm hK1
  obtain ⟨hP, hD⟩ := va_join (wr := [(h0, .inr (15, fs0)), (v0_76, .inl (c_v0_76, 24000, .inl f_v0_76)), (v0_77, .inl (c_v0_77, 24000, .inl f_v0_77)), (v0_78, .inl (c_v0_78, 24000, .inl f_v0_78)), (v0_70, .inl (c_v0_70, 40000, .inl f_v0_70)), (v0_71, .inl (c_v0_71, 40000, .inl f_v0_71)), (v0_72, .inl (c_v0_72, 40000, .inl f_v0_72)), (v0_73, .inl (c_v0_73, 40000, .inl f_v0_73)), (v0_74, .inl (c_v0_74, 40000, .inl f_v0_74))]) (w1 := []) hP hD [] [0, 1, 2, 3, 4, 5, 6, 7, 8] rfl rfl (by decide) (by decide) hk1 hFc hP1 hD1
  generalize H1 = H at hP hS ⊢
  have hP : va_P (dC, dI) vwCl [(h0, .inr (15, fs0)), (v0_76, .inl (c_v0_76, 24000, .inl f_v0_76)), (v0_77, .inl (c_v0_77, 24000, .inl f_v0_77)), (v0_78, .inl (c_v0_78, 24000, .inl f_v0_78)), (v0_70, .inl (c_v0_70, 40000, .inl f_v0_70)), (v0_71, .inl (c_v0_71, 40000, .inl f_v0_71)), (v0_72, .inl (c_v0_72, 40000, .inl f_v0_72)), (v0_73, .inl (c_v0_73, 40000, .inl f_v0_73)), (v0_74, .inl (c_v0_74, 40000, .inl f_v0_74))] H := hP
  have hD : va_D A [(h0, .inr (15, fs0)), (v0_76, .inl (c_v0_76, 24000, .inl f_v0_76)), (v0_77, .inl (c_v0_77, 24000, .inl f_v0_77)), (v0_78, .inl (c_v0_78, 24000, .inl f_v0_78)), (v0_70, .inl (c_v0_70, 40000, .inl f_v0_70)), (v0_71, .inl (c_v0_71, 40000, .inl f_v0_71)), (v0_72, .inl (c_v0_72, 40000, .inl f_v0_72)), (v0_73, .inl (c_v0_73, 40000, .inl f_v0_73)), (v0_74, .inl (c_v0_74, 40000, .inl f_v0_74))] := hD
  refine lv_if_eq (tgt := 19) hx hb dX13_plainType_6 (by decide) (fun c_1 => absurd c_1 (by decide)) (fun c_1 => ?_)
  refine lv_aload_n hx hb dX13_plainType_9 rfl (lv_at hl 0 rfl) ?_
  refine lv_iconst (v := -1) hx hb dX13_plainType_10 (by decide) ?_
  refine lv_iconst (v := -1) hx hb dX13_plainType_11 (by decide) ?_
  refine lv_iconst (v := -1) hx hb dX13_plainType_12 (by decide) ?_
  have hPc := hP.sub (ws' := [(h0, .inr (15, fs0)), (v0_76, .inl (c_v0_76, 24000, .inl f_v0_76)), (v0_77, .inl (c_v0_77, 24000, .inl f_v0_77)), (v0_78, .inl (c_v0_78, 24000, .inl f_v0_78))]) [0, 1, 2, 3] rfl
  have hDc := hD.sub (ws' := [(h0, .inr (15, fs0)), (v0_76, .inl (c_v0_76, 24000, .inl f_v0_76)), (v0_77, .inl (c_v0_77, 24000, .inl f_v0_77)), (v0_78, .inl (c_v0_78, 24000, .inl f_v0_78))]) [0, 1, 2, 3] (by decide) rfl
  have hKc := hK.sub (tys' := [(c_v0_76, .int), (c_v0_77, .int), (c_v0_78, .int)]) [0, 1, 2] rfl
  have hFc := va_free (wc := [(h0, .inr (15, fs0)), (v0_76, .inl (c_v0_76, 24000, .inl f_v0_76)), (v0_77, .inl (c_v0_77, 24000, .inl f_v0_77)), (v0_78, .inl (c_v0_78, 24000, .inl f_v0_78))]) hD hS hA [0, 1, 2, 3] rfl
  refine va_calli (va_runV (As := [.int (-1), .int (-1), .int (-1)]) (rest := [.int p0, .ref h0]) ⟨hx, hb, hml, hown, hts⟩ (c_X13_said_r0 l dC dI H.size h0 fs0 (-1) (-1) (-1) v0_76 v0_79 c_v0_76 f_v0_76 v0_77 c_v0_77 f_v0_77 v0_78 c_v0_78 f_v0_78 hl0 hf0_76 hf0_79 hf0_77 hf0_78 hp_3 hp_3 hp_3) (cwV 3 hts gX13_plainType_X13_said rfl rfl rfl (by decide +kernel) ⟨Nat.le_of_ble_eq_true rfl, Nat.le_of_ble_eq_true rfl⟩) ⟨zPc_blind, va_recv hKc hPc (ci := 15) (q0 := 0) rfl rfl, fun U hU hW => zPc_at hPc hKc hDc hU hW⟩ rfl rfl hl.1 rfl (lv_room (Nat.le_of_ble_eq_true rfl)) dX13_plainType_13 ⟨Nat.le_of_ble_eq_true rfl, Nat.le_of_ble_eq_true rfl⟩) hS (fun q _ h => hFc q h) hFc (fun r_2 u t H1 locs ht hvm hw hB hz1 hk1 hS => ?_)
  obtain ⟨hP1, hK1, hD1⟩ := hB
  subst hw
  rw [ht] at hP1
  have hK1 := va_K.moved hvm.symm hK1
  obtain ⟨hP, hD⟩ := va_join (wr := [(v0_70, .inl (c_v0_70, 40000, .inl f_v0_70)), (v0_71, .inl (c_v0_71, 40000, .inl f_v0_71)), (v0_72, .inl (c_v0_72, 40000, .inl f_v0_72)), (v0_73, .inl (c_v0_73, 40000, .inl f_v0_73)), (v0_74, .inl (c_v0_74, 40000, .inl f_v0_74))]) (w1 := [(h0, .inr (15, (fs0.set 79 (.int (v0_79 + 1))))), (v0_76, .inl (c_v0_76, 24000, .inl (upd f_v0_76 (v0_79 : Int32).toNatClampNeg (-1)))), (v0_77, .inl (c_v0_77, 24000, .inl (upd f_v0_77 (v0_79 : Int32).toNatClampNeg (-1)))), (v0_78, .inl (c_v0_78, 24000, .inl (upd f_v0_78 (v0_79 : Int32).toNatClampNeg (-1))))]) hP hD [0, 1, 2, 3] [4, 5, 6, 7, 8] rfl rfl (by decide) (by decide) hk1 hFc hP1 hD1
  generalize H1 = H at hP hS ⊢
  have hP : va_P (dC, dI) vwCl [(v0_70, .inl (c_v0_70, 40000, .inl f_v0_70)), (v0_71, .inl (c_v0_71, 40000, .inl f_v0_71)), (v0_72, .inl (c_v0_72, 40000, .inl f_v0_72)), (v0_73, .inl (c_v0_73, 40000, .inl f_v0_73)), (v0_74, .inl (c_v0_74, 40000, .inl f_v0_74)), (h0, .inr (15, (fs0.set 79 (.int (v0_79 + 1))))), (v0_76, .inl (c_v0_76, 24000, .inl (upd f_v0_76 (v0_79 : Int32).toNatClampNeg (-1)))), (v0_77, .inl (c_v0_77, 24000, .inl (upd f_v0_77 (v0_79 : Int32).toNatClampNeg (-1)))), (v0_78, .inl (c_v0_78, 24000, .inl (upd f_v0_78 (v0_79 : Int32).toNatClampNeg (-1))))] H := hP
  have hD : va_D A [(v0_70, .inl (c_v0_70, 40000, .inl f_v0_70)), (v0_71, .inl (c_v0_71, 40000, .inl f_v0_71)), (v0_72, .inl (c_v0_72, 40000, .inl f_v0_72)), (v0_73, .inl (c_v0_73, 40000, .inl f_v0_73)), (v0_74, .inl (c_v0_74, 40000, .inl f_v0_74)), (h0, .inr (15, (fs0.set 79 (.int (v0_79 + 1))))), (v0_76, .inl (c_v0_76, 24000, .inl (upd f_v0_76 (v0_79 : Int32).toNatClampNeg (-1)))), (v0_77, .inl (c_v0_77, 24000, .inl (upd f_v0_77 (v0_79 : Int32).toNatClampNeg (-1)))), (v0_78, .inl (c_v0_78, 24000, .inl (upd f_v0_78 (v0_79 : Int32).toNatClampNeg (-1))))] := hD
  refine lv_goto (tgt := 20) hx hb dX13_plainType_16 (by decide) ?_
  refine lv_iconst (v := -1) hx hb dX13_plainType_20 (by decide) ?_
  refine lv_iconst (v := -1) hx hb dX13_plainType_21 (by decide) ?_
  refine lv_iconst (v := -1) hx hb dX13_plainType_22 (by decide) ?_
  have hPc := hP.sub (ws' := [(h0, .inr (15, (fs0.set 79 (.int (v0_79 + 1))))), (v0_70, .inl (c_v0_70, 40000, .inl f_v0_70)), (v0_71, .inl (c_v0_71, 40000, .inl f_v0_71)), (v0_72, .inl (c_v0_72, 40000, .inl f_v0_72)), (v0_73, .inl (c_v0_73, 40000, .inl f_v0_73)), (v0_74, .inl (c_v0_74, 40000, .inl f_v0_74))]) [5, 0, 1, 2, 3, 4] rfl
  have hDc := hD.sub (ws' := [(h0, .inr (15, (fs0.set 79 (.int (v0_79 + 1))))), (v0_70, .inl (c_v0_70, 40000, .inl f_v0_70)), (v0_71, .inl (c_v0_71, 40000, .inl f_v0_71)), (v0_72, .inl (c_v0_72, 40000, .inl f_v0_72)), (v0_73, .inl (c_v0_73, 40000, .inl f_v0_73)), (v0_74, .inl (c_v0_74, 40000, .inl f_v0_74))]) [5, 0, 1, 2, 3, 4] (by decide) rfl
  have hKc := hK.sub (tys' := [(c_v0_70, .int), (c_v0_71, .int), (c_v0_72, .int), (c_v0_73, .int), (c_v0_74, .int)]) [3, 4, 5, 6, 7] rfl
  have hFc := va_free (wc := [(h0, .inr (15, (fs0.set 79 (.int (v0_79 + 1))))), (v0_70, .inl (c_v0_70, 40000, .inl f_v0_70)), (v0_71, .inl (c_v0_71, 40000, .inl f_v0_71)), (v0_72, .inl (c_v0_72, 40000, .inl f_v0_72)), (v0_73, .inl (c_v0_73, 40000, .inl f_v0_73)), (v0_74, .inl (c_v0_74, 40000, .inl f_v0_74))]) hD hS hA [5, 0, 1, 2, 3, 4] rfl
  refine va_calli (va_runV (As := [.int p0, .int ((v0_79 + 1) - 1), .int (-1), .int (-1), .int (-1)]) (rest := []) ⟨hx, hb, hml, hown, hts⟩ (c_X13_rich_r0 l dC dI H.size h0 (fs0.set 79 (.int (v0_79 + 1))) p0 ((v0_79 + 1) - 1) (-1) (-1) (-1) v0_70 v0_75 c_v0_70 f_v0_70 v0_71 c_v0_71 f_v0_71 v0_72 c_v0_72 f_v0_72 v0_73 c_v0_73 f_v0_73 v0_74 c_v0_74 f_v0_74 (zs_len hl0) (zs_ne (by decide) hf0_70) (zs_ne (by decide) hf0_75) (zs_ne (by decide) hf0_71) (zs_ne (by decide) hf0_72) (zs_ne (by decide) hf0_73) (zs_ne (by decide) hf0_74) hp_4 hp_4 hp_4 hp_4 hp_4) (cwV 5 hts gX13_plainType_X13_rich rfl rfl rfl (by decide +kernel) ⟨Nat.le_of_ble_eq_true rfl, Nat.le_of_ble_eq_true rfl⟩) ⟨zPc_blind, va_recv hKc hPc (ci := 15) (q0 := 0) rfl rfl, fun U hU hW => zPc_at hPc hKc hDc hU hW⟩ rfl rfl hl.1 rfl (lv_room (Nat.le_of_ble_eq_true rfl)) dX13_plainType_23 ⟨Nat.le_of_ble_eq_true rfl, Nat.le_of_ble_eq_true rfl⟩) hS (fun q _ h => hFc q h) hFc (fun r_3 u t H1 locs ht hvm hw hB hz1 hk1 hS => ?_)
  obtain ⟨hP1, hK1, hD1⟩ := hB
  subst hw
  rw [ht] at hP1
  have hK1 := va_K.moved hvm.symm hK1
  obtain ⟨hP, hD⟩ := va_join (wr := [(v0_76, .inl (c_v0_76, 24000, .inl (upd f_v0_76 (v0_79 : Int32).toNatClampNeg (-1)))), (v0_77, .inl (c_v0_77, 24000, .inl (upd f_v0_77 (v0_79 : Int32).toNatClampNeg (-1)))), (v0_78, .inl (c_v0_78, 24000, .inl (upd f_v0_78 (v0_79 : Int32).toNatClampNeg (-1))))]) (w1 := [(h0, .inr (15, ((fs0.set 79 (.int (v0_79 + 1))).set 75 (.int (v0_75 + 1))))), (v0_70, .inl (c_v0_70, 40000, .inl (upd f_v0_70 (v0_75 : Int32).toNatClampNeg p0))), (v0_71, .inl (c_v0_71, 40000, .inl (upd f_v0_71 (v0_75 : Int32).toNatClampNeg ((v0_79 + 1) - 1)))), (v0_72, .inl (c_v0_72, 40000, .inl (upd f_v0_72 (v0_75 : Int32).toNatClampNeg (-1)))), (v0_73, .inl (c_v0_73, 40000, .inl (upd f_v0_73 (v0_75 : Int32).toNatClampNeg (-1)))), (v0_74, .inl (c_v0_74, 40000, .inl (upd f_v0_74 (v0_75 : Int32).toNatClampNeg (-1))))]) hP hD [5, 0, 1, 2, 3, 4] [6, 7, 8] rfl rfl (by decide) (by decide) hk1 hFc hP1 hD1
  generalize H1 = H at hP hS ⊢
  have hP : va_P (dC, dI) vwCl [(v0_76, .inl (c_v0_76, 24000, .inl (upd f_v0_76 (v0_79 : Int32).toNatClampNeg (-1)))), (v0_77, .inl (c_v0_77, 24000, .inl (upd f_v0_77 (v0_79 : Int32).toNatClampNeg (-1)))), (v0_78, .inl (c_v0_78, 24000, .inl (upd f_v0_78 (v0_79 : Int32).toNatClampNeg (-1)))), (h0, .inr (15, ((fs0.set 79 (.int (v0_79 + 1))).set 75 (.int (v0_75 + 1))))), (v0_70, .inl (c_v0_70, 40000, .inl (upd f_v0_70 (v0_75 : Int32).toNatClampNeg p0))), (v0_71, .inl (c_v0_71, 40000, .inl (upd f_v0_71 (v0_75 : Int32).toNatClampNeg ((v0_79 + 1) - 1)))), (v0_72, .inl (c_v0_72, 40000, .inl (upd f_v0_72 (v0_75 : Int32).toNatClampNeg (-1)))), (v0_73, .inl (c_v0_73, 40000, .inl (upd f_v0_73 (v0_75 : Int32).toNatClampNeg (-1)))), (v0_74, .inl (c_v0_74, 40000, .inl (upd f_v0_74 (v0_75 : Int32).toNatClampNeg (-1))))] H := hP
  have hD : va_D A [(v0_76, .inl (c_v0_76, 24000, .inl (upd f_v0_76 (v0_79 : Int32).toNatClampNeg (-1)))), (v0_77, .inl (c_v0_77, 24000, .inl (upd f_v0_77 (v0_79 : Int32).toNatClampNeg (-1)))), (v0_78, .inl (c_v0_78, 24000, .inl (upd f_v0_78 (v0_79 : Int32).toNatClampNeg (-1)))), (h0, .inr (15, ((fs0.set 79 (.int (v0_79 + 1))).set 75 (.int (v0_75 + 1))))), (v0_70, .inl (c_v0_70, 40000, .inl (upd f_v0_70 (v0_75 : Int32).toNatClampNeg p0))), (v0_71, .inl (c_v0_71, 40000, .inl (upd f_v0_71 (v0_75 : Int32).toNatClampNeg ((v0_79 + 1) - 1)))), (v0_72, .inl (c_v0_72, 40000, .inl (upd f_v0_72 (v0_75 : Int32).toNatClampNeg (-1)))), (v0_73, .inl (c_v0_73, 40000, .inl (upd f_v0_73 (v0_75 : Int32).toNatClampNeg (-1)))), (v0_74, .inl (c_v0_74, 40000, .inl (upd f_v0_74 (v0_75 : Int32).toNatClampNeg (-1))))] := hD
  have hP9 := hP.sub (ws' := [(v0_76, .inl (c_v0_76, 24000, .inl (upd f_v0_76 (v0_79 : Int32).toNatClampNeg (-1)))), (v0_77, .inl (c_v0_77, 24000, .inl (upd f_v0_77 (v0_79 : Int32).toNatClampNeg (-1)))), (v0_78, .inl (c_v0_78, 24000, .inl (upd f_v0_78 (v0_79 : Int32).toNatClampNeg (-1)))), (h0, .inr (15, ((fs0.set 79 (.int (v0_79 + 1))).set 75 (.int (v0_75 + 1))))), (v0_70, .inl (c_v0_70, 40000, .inl (upd f_v0_70 (v0_75 : Int32).toNatClampNeg p0))), (v0_71, .inl (c_v0_71, 40000, .inl (upd f_v0_71 (v0_75 : Int32).toNatClampNeg ((v0_79 + 1) - 1)))), (v0_72, .inl (c_v0_72, 40000, .inl (upd f_v0_72 (v0_75 : Int32).toNatClampNeg (-1)))), (v0_73, .inl (c_v0_73, 40000, .inl (upd f_v0_73 (v0_75 : Int32).toNatClampNeg (-1)))), (v0_74, .inl (c_v0_74, 40000, .inl (upd f_v0_74 (v0_75 : Int32).toNatClampNeg (-1))))]) [0, 1, 2, 3, 4, 5, 6, 7, 8] rfl
  have hD9 := hD.sub (ws' := [(v0_76, .inl (c_v0_76, 24000, .inl (upd f_v0_76 (v0_79 : Int32).toNatClampNeg (-1)))), (v0_77, .inl (c_v0_77, 24000, .inl (upd f_v0_77 (v0_79 : Int32).toNatClampNeg (-1)))), (v0_78, .inl (c_v0_78, 24000, .inl (upd f_v0_78 (v0_79 : Int32).toNatClampNeg (-1)))), (h0, .inr (15, ((fs0.set 79 (.int (v0_79 + 1))).set 75 (.int (v0_75 + 1))))), (v0_70, .inl (c_v0_70, 40000, .inl (upd f_v0_70 (v0_75 : Int32).toNatClampNeg p0))), (v0_71, .inl (c_v0_71, 40000, .inl (upd f_v0_71 (v0_75 : Int32).toNatClampNeg ((v0_79 + 1) - 1)))), (v0_72, .inl (c_v0_72, 40000, .inl (upd f_v0_72 (v0_75 : Int32).toNatClampNeg (-1)))), (v0_73, .inl (c_v0_73, 40000, .inl (upd f_v0_73 (v0_75 : Int32).toNatClampNeg (-1)))), (v0_74, .inl (c_v0_74, 40000, .inl (upd f_v0_74 (v0_75 : Int32).toNatClampNeg (-1))))]) [0, 1, 2, 3, 4, 5, 6, 7, 8] (by decide) rfl
  have hK9 := hK.sub (tys' := [(c_v0_76, .int), (c_v0_77, .int), (c_v0_78, .int), (c_v0_70, .int), (c_v0_71, .int), (c_v0_72, .int), (c_v0_73, .int), (c_v0_74, .int)]) [0, 1, 2, 3, 4, 5, 6, 7] rfl
  exact W.iret (v := ((v0_75 + 1) - 1)) hx hb hr (fun t ht hW => ⟨⟨((v0_75 + 1) - 1), (), rfl, rfl, (zB_mk (by rw [ht]; exact hP9) (va_K.moved hW.alike hK9) hD9)⟩, hS.F ht⟩) hS.2.2 dX13_plainType_26
set_option maxHeartbeats 4000000 in
set_option maxRecDepth 100000 in
/-- X13_plainType, a road -/
theorem c_X13_plainType_r2 (l : Launch) (dC : Nat → ClassId) (dI : Nat → Nat → Nat) (sz : Nat) (h0 : Nat) (fs0 : List Value) (p0 : Int32) (v0_70 : Nat) (v0_75 : Int32) (c_v0_70 : ClassId) (f_v0_70 : Nat → Int32) (v0_71 : Nat) (c_v0_71 : ClassId) (f_v0_71 : Nat → Int32) (v0_72 : Nat) (c_v0_72 : ClassId) (f_v0_72 : Nat → Int32) (v0_73 : Nat) (c_v0_73 : ClassId) (f_v0_73 : Nat → Int32) (v0_74 : Nat) (c_v0_74 : ClassId) (f_v0_74 : Nat → Int32) (hl0 : fs0.length = 196) (hf0_70 : fs0[70]? = some (.ref v0_70)) (hf0_75 : fs0[75]? = some (.int v0_75)) (hf0_71 : fs0[71]? = some (.ref v0_71)) (hf0_72 : fs0[72]? = some (.ref v0_72)) (hf0_73 : fs0[73]? = some (.ref v0_73)) (hf0_74 : fs0[74]? = some (.ref v0_74)) (hp_0 : ¬ p0 = 1) (hp_1 : ¬ p0 = 3) (hp_2 : ¬ p0 = 5) (hp_3 : vp_in v0_75 40000) : Met l yX13_plainType wsX13_plainType ({ frames := 1, cells := 0, slots := 0, locals := 25 }) (zPc dC dI sz [.ref h0, .int p0] [(h0, .inr (15, fs0)), (v0_70, .inl (c_v0_70, 40000, .inl f_v0_70)), (v0_71, .inl (c_v0_71, 40000, .inl f_v0_71)), (v0_72, .inl (c_v0_72, 40000, .inl f_v0_72)), (v0_73, .inl (c_v0_73, 40000, .inl f_v0_73)), (v0_74, .inl (c_v0_74, 40000, .inl f_v0_74))] [(c_v0_70, .int), (c_v0_71, .int), (c_v0_72, .int), (c_v0_73, .int), (c_v0_74, .int)]) (va_Qi (fun (r : Int32) (_ : Unit) => r = ((v0_75 + 1) - 1)) (zB dC dI (fun _ => [(c_v0_70, .int), (c_v0_71, .int), (c_v0_72, .int), (c_v0_73, .int), (c_v0_74, .int)]) (fun _ : Unit => [(h0, .inr (15, (fs0.set 75 (.int (v0_75 + 1))))), (v0_70, .inl (c_v0_70, 40000, .inl (upd f_v0_70 (v0_75 : Int32).toNatClampNeg p0))), (v0_71, .inl (c_v0_71, 40000, .inl (upd f_v0_71 (v0_75 : Int32).toNatClampNeg (-1)))), (v0_72, .inl (c_v0_72, 40000, .inl (upd f_v0_72 (v0_75 : Int32).toNatClampNeg (-1)))), (v0_73, .inl (c_v0_73, 40000, .inl (upd f_v0_73 (v0_75 : Int32).toNatClampNeg (-1)))), (v0_74, .inl (c_v0_74, 40000, .inl (upd f_v0_74 (v0_75 : Int32).toNatClampNeg (-1))))]) (va_A [(h0, .inr (15, fs0)), (v0_70, .inl (c_v0_70, 40000, .inl f_v0_70)), (v0_71, .inl (c_v0_71, 40000, .inl f_v0_71)), (v0_72, .inl (c_v0_72, 40000, .inl f_v0_72)), (v0_73, .inl (c_v0_73, 40000, .inl f_v0_73)), (v0_74, .inl (c_v0_74, 40000, .inl f_v0_74))] sz)) (va_A [(h0, .inr (15, fs0)), (v0_70, .inl (c_v0_70, 40000, .inl f_v0_70)), (v0_71, .inl (c_v0_71, 40000, .inl f_v0_71)), (v0_72, .inl (c_v0_72, 40000, .inl f_v0_72)), (v0_73, .inl (c_v0_73, 40000, .inl f_v0_73)), (v0_74, .inl (c_v0_74, 40000, .inl f_v0_74))] sz)) 0 0 (va_A [(h0, .inr (15, fs0)), (v0_70, .inl (c_v0_70, 40000, .inl f_v0_70)), (v0_71, .inl (c_v0_71, 40000, .inl f_v0_71)), (v0_72, .inl (c_v0_72, 40000, .inl f_v0_72)), (v0_73, .inl (c_v0_73, 40000, .inl f_v0_73)), (v0_74, .inl (c_v0_74, 40000, .inl f_v0_74))] sz) := by
  refine Met.ofW (cc := cX13_plainType) (maxL := 2) (ret := (some .int)) (by decide) rfl ?_
  intro p e s m args below meth c s₁ B hml hv
  obtain ⟨rfl, hsz, hP, hK, hD0⟩ := hv
  have hx := B.exec
  have hb := B.bytes
  have hr := B.returns
  have hts := atoms_spec (ws := wsX13_plainType) B.pre
  have hown : s.vm.findClass RX13 = some m.cls := findClass_of_methodNamed B.named
  have hlocks := B.notSynchronized
  subst hsz
  have hD := hD0.self (sz := s.heap.size)
  generalize hAe : va_A [(h0, .inr (15, fs0)), (v0_70, .inl (c_v0_70, 40000, .inl f_v0_70)), (v0_71, .inl (c_v0_71, 40000, .inl f_v0_71)), (v0_72, .inl (c_v0_72, 40000, .inl f_v0_72)), (v0_73, .inl (c_v0_73, 40000, .inl f_v0_73)), (v0_74, .inl (c_v0_74, 40000, .inl f_v0_74))] s.heap.size = A at hD ⊢
  have hA : ∀ q : Nat, s.heap.size ≤ q → A q := fun q h => by rw [← hAe]; exact Or.inr h
  have hS : va_S A s.heap s.heap [] := va_S.rf
  have hP : va_P (dC, dI) vwCl [(h0, .inr (15, fs0)), (v0_70, .inl (c_v0_70, 40000, .inl f_v0_70)), (v0_71, .inl (c_v0_71, 40000, .inl f_v0_71)), (v0_72, .inl (c_v0_72, 40000, .inl f_v0_72)), (v0_73, .inl (c_v0_73, 40000, .inl f_v0_73)), (v0_74, .inl (c_v0_74, 40000, .inl f_v0_74))] s.heap := hP
  have hl := lv_entry ([.ref h0, .int p0]) (n := 2) (Nat.le_of_ble_eq_true rfl)
  rw [lg_entry_eq]
  generalize (lg_sl ([.ref h0, .int p0]) ++ List.replicate (2 - (lg_sl ([.ref h0, .int p0])).length) Slot.unset).toArray = ls at hl ⊢
  have hl : lv_has ls 2 [(0, .ref h0), (1, .int p0)] := hl
  refine lv_aload_n hx hb dX13_plainType_0 rfl (lv_at hl 0 rfl) ?_
  refine lv_iload_n hx hb dX13_plainType_1 rfl (lv_at hl 1 rfl) ?_
  refine lv_iload_n hx hb dX13_plainType_2 rfl (lv_at hl 1 rfl) ?_
  have hPc := hP.sub (ws' := []) [] rfl
  have hDc := hD.sub (ws' := []) [] (by decide) rfl
  have hKc := hK.sub (tys' := []) [] rfl
  have hFc := va_free (wc := []) hD hS hA [] rfl
  refine va_calli (va_runS (As := [.int p0]) (rest := [.int p0, .ref h0]) ⟨hx, hb, hml, hown, hts⟩ (c_X13_isSaid_r2 l dC dI s.heap.size p0 hp_0 hp_1 hp_2) (va_cwS 1 hts gX13_plainType_X13_isSaid rfl rfl rfl (by decide +kernel) ⟨Nat.le_of_ble_eq_true rfl, Nat.le_of_ble_eq_true rfl⟩) ⟨zPc_blind, fun U hU hW => zPc_at hPc hKc hDc hU hW⟩ rfl rfl hl.1 rfl (lv_room (Nat.le_of_ble_eq_true rfl)) dX13_plainType_3 ⟨Nat.le_of_ble_eq_true rfl, Nat.le_of_ble_eq_true rfl⟩) hS (fun q _ h => hFc q h) hFc (fun r_1 u t H1 locs ht hvm hw hB hz1 hk1 hS => ?_)
  obtain ⟨hP1, hK1, hD1⟩ := hB
  subst hw
  rw [ht] at hP1
  have hK1 := va_K.moved hvm.symm hK1
  obtain ⟨hP, hD⟩ := va_join (wr := [(h0, .inr (15, fs0)), (v0_70, .inl (c_v0_70, 40000, .inl f_v0_70)), (v0_71, .inl (c_v0_71, 40000, .inl f_v0_71)), (v0_72, .inl (c_v0_72, 40000, .inl f_v0_72)), (v0_73, .inl (c_v0_73, 40000, .inl f_v0_73)), (v0_74, .inl (c_v0_74, 40000, .inl f_v0_74))]) (w1 := []) hP hD [] [0, 1, 2, 3, 4, 5] rfl rfl (by decide) (by decide) hk1 hFc hP1 hD1
  generalize H1 = H at hP hS ⊢
  have hP : va_P (dC, dI) vwCl [(h0, .inr (15, fs0)), (v0_70, .inl (c_v0_70, 40000, .inl f_v0_70)), (v0_71, .inl (c_v0_71, 40000, .inl f_v0_71)), (v0_72, .inl (c_v0_72, 40000, .inl f_v0_72)), (v0_73, .inl (c_v0_73, 40000, .inl f_v0_73)), (v0_74, .inl (c_v0_74, 40000, .inl f_v0_74))] H := hP
  have hD : va_D A [(h0, .inr (15, fs0)), (v0_70, .inl (c_v0_70, 40000, .inl f_v0_70)), (v0_71, .inl (c_v0_71, 40000, .inl f_v0_71)), (v0_72, .inl (c_v0_72, 40000, .inl f_v0_72)), (v0_73, .inl (c_v0_73, 40000, .inl f_v0_73)), (v0_74, .inl (c_v0_74, 40000, .inl f_v0_74))] := hD
  refine lv_if_eq (tgt := 19) hx hb dX13_plainType_6 (by decide) (fun c_1 => ?_) (fun c_1 => absurd (by decide) c_1)
  refine lv_iconst (v := -1) hx hb dX13_plainType_19 (by decide) ?_
  refine lv_iconst (v := -1) hx hb dX13_plainType_20 (by decide) ?_
  refine lv_iconst (v := -1) hx hb dX13_plainType_21 (by decide) ?_
  refine lv_iconst (v := -1) hx hb dX13_plainType_22 (by decide) ?_
  have hPc := hP.sub (ws' := [(h0, .inr (15, fs0)), (v0_70, .inl (c_v0_70, 40000, .inl f_v0_70)), (v0_71, .inl (c_v0_71, 40000, .inl f_v0_71)), (v0_72, .inl (c_v0_72, 40000, .inl f_v0_72)), (v0_73, .inl (c_v0_73, 40000, .inl f_v0_73)), (v0_74, .inl (c_v0_74, 40000, .inl f_v0_74))]) [0, 1, 2, 3, 4, 5] rfl
  have hDc := hD.sub (ws' := [(h0, .inr (15, fs0)), (v0_70, .inl (c_v0_70, 40000, .inl f_v0_70)), (v0_71, .inl (c_v0_71, 40000, .inl f_v0_71)), (v0_72, .inl (c_v0_72, 40000, .inl f_v0_72)), (v0_73, .inl (c_v0_73, 40000, .inl f_v0_73)), (v0_74, .inl (c_v0_74, 40000, .inl f_v0_74))]) [0, 1, 2, 3, 4, 5] (by decide) rfl
  have hKc := hK.sub (tys' := [(c_v0_70, .int), (c_v0_71, .int), (c_v0_72, .int), (c_v0_73, .int), (c_v0_74, .int)]) [0, 1, 2, 3, 4] rfl
  have hFc := va_free (wc := [(h0, .inr (15, fs0)), (v0_70, .inl (c_v0_70, 40000, .inl f_v0_70)), (v0_71, .inl (c_v0_71, 40000, .inl f_v0_71)), (v0_72, .inl (c_v0_72, 40000, .inl f_v0_72)), (v0_73, .inl (c_v0_73, 40000, .inl f_v0_73)), (v0_74, .inl (c_v0_74, 40000, .inl f_v0_74))]) hD hS hA [0, 1, 2, 3, 4, 5] rfl
  refine va_calli (va_runV (As := [.int p0, .int (-1), .int (-1), .int (-1), .int (-1)]) (rest := []) ⟨hx, hb, hml, hown, hts⟩ (c_X13_rich_r0 l dC dI H.size h0 fs0 p0 (-1) (-1) (-1) (-1) v0_70 v0_75 c_v0_70 f_v0_70 v0_71 c_v0_71 f_v0_71 v0_72 c_v0_72 f_v0_72 v0_73 c_v0_73 f_v0_73 v0_74 c_v0_74 f_v0_74 hl0 hf0_70 hf0_75 hf0_71 hf0_72 hf0_73 hf0_74 hp_3 hp_3 hp_3 hp_3 hp_3) (cwV 5 hts gX13_plainType_X13_rich rfl rfl rfl (by decide +kernel) ⟨Nat.le_of_ble_eq_true rfl, Nat.le_of_ble_eq_true rfl⟩) ⟨zPc_blind, va_recv hKc hPc (ci := 15) (q0 := 0) rfl rfl, fun U hU hW => zPc_at hPc hKc hDc hU hW⟩ rfl rfl hl.1 rfl (lv_room (Nat.le_of_ble_eq_true rfl)) dX13_plainType_23 ⟨Nat.le_of_ble_eq_true rfl, Nat.le_of_ble_eq_true rfl⟩) hS (fun q _ h => hFc q h) hFc (fun r_2 u t H1 locs ht hvm hw hB hz1 hk1 hS => ?_)
  obtain ⟨hP1, hK1, hD1⟩ := hB
  subst hw
  rw [ht] at hP1
  have hK1 := va_K.moved hvm.symm hK1
  obtain ⟨hP, hD⟩ := va_join (wr := []) (w1 := [(h0, .inr (15, (fs0.set 75 (.int (v0_75 + 1))))), (v0_70, .inl (c_v0_70, 40000, .inl (upd f_v0_70 (v0_75 : Int32).toNatClampNeg p0))), (v0_71, .inl (c_v0_71, 40000, .inl (upd f_v0_71 (v0_75 : Int32).toNatClampNeg (-1)))), (v0_72, .inl (c_v0_72, 40000, .inl (upd f_v0_72 (v0_75 : Int32).toNatClampNeg (-1)))), (v0_73, .inl (c_v0_73, 40000, .inl (upd f_v0_73 (v0_75 : Int32).toNatClampNeg (-1)))), (v0_74, .inl (c_v0_74, 40000, .inl (upd f_v0_74 (v0_75 : Int32).toNatClampNeg (-1))))]) hP hD [0, 1, 2, 3, 4, 5] [] rfl rfl (by decide) (by decide) hk1 hFc hP1 hD1
  generalize H1 = H at hP hS ⊢
  have hP : va_P (dC, dI) vwCl [(h0, .inr (15, (fs0.set 75 (.int (v0_75 + 1))))), (v0_70, .inl (c_v0_70, 40000, .inl (upd f_v0_70 (v0_75 : Int32).toNatClampNeg p0))), (v0_71, .inl (c_v0_71, 40000, .inl (upd f_v0_71 (v0_75 : Int32).toNatClampNeg (-1)))), (v0_72, .inl (c_v0_72, 40000, .inl (upd f_v0_72 (v0_75 : Int32).toNatClampNeg (-1)))), (v0_73, .inl (c_v0_73, 40000, .inl (upd f_v0_73 (v0_75 : Int32).toNatClampNeg (-1)))), (v0_74, .inl (c_v0_74, 40000, .inl (upd f_v0_74 (v0_75 : Int32).toNatClampNeg (-1))))] H := hP
  have hD : va_D A [(h0, .inr (15, (fs0.set 75 (.int (v0_75 + 1))))), (v0_70, .inl (c_v0_70, 40000, .inl (upd f_v0_70 (v0_75 : Int32).toNatClampNeg p0))), (v0_71, .inl (c_v0_71, 40000, .inl (upd f_v0_71 (v0_75 : Int32).toNatClampNeg (-1)))), (v0_72, .inl (c_v0_72, 40000, .inl (upd f_v0_72 (v0_75 : Int32).toNatClampNeg (-1)))), (v0_73, .inl (c_v0_73, 40000, .inl (upd f_v0_73 (v0_75 : Int32).toNatClampNeg (-1)))), (v0_74, .inl (c_v0_74, 40000, .inl (upd f_v0_74 (v0_75 : Int32).toNatClampNeg (-1))))] := hD
  have hP9 := hP.sub (ws' := [(h0, .inr (15, (fs0.set 75 (.int (v0_75 + 1))))), (v0_70, .inl (c_v0_70, 40000, .inl (upd f_v0_70 (v0_75 : Int32).toNatClampNeg p0))), (v0_71, .inl (c_v0_71, 40000, .inl (upd f_v0_71 (v0_75 : Int32).toNatClampNeg (-1)))), (v0_72, .inl (c_v0_72, 40000, .inl (upd f_v0_72 (v0_75 : Int32).toNatClampNeg (-1)))), (v0_73, .inl (c_v0_73, 40000, .inl (upd f_v0_73 (v0_75 : Int32).toNatClampNeg (-1)))), (v0_74, .inl (c_v0_74, 40000, .inl (upd f_v0_74 (v0_75 : Int32).toNatClampNeg (-1))))]) [0, 1, 2, 3, 4, 5] rfl
  have hD9 := hD.sub (ws' := [(h0, .inr (15, (fs0.set 75 (.int (v0_75 + 1))))), (v0_70, .inl (c_v0_70, 40000, .inl (upd f_v0_70 (v0_75 : Int32).toNatClampNeg p0))), (v0_71, .inl (c_v0_71, 40000, .inl (upd f_v0_71 (v0_75 : Int32).toNatClampNeg (-1)))), (v0_72, .inl (c_v0_72, 40000, .inl (upd f_v0_72 (v0_75 : Int32).toNatClampNeg (-1)))), (v0_73, .inl (c_v0_73, 40000, .inl (upd f_v0_73 (v0_75 : Int32).toNatClampNeg (-1)))), (v0_74, .inl (c_v0_74, 40000, .inl (upd f_v0_74 (v0_75 : Int32).toNatClampNeg (-1))))]) [0, 1, 2, 3, 4, 5] (by decide) rfl
  have hK9 := hK.sub (tys' := [(c_v0_70, .int), (c_v0_71, .int), (c_v0_72, .int), (c_v0_73, .int), (c_v0_74, .int)]) [0, 1, 2, 3, 4] rfl
  exact W.iret (v := ((v0_75 + 1) - 1)) hx hb hr (fun t ht hW => ⟨⟨((v0_75 + 1) - 1), (), rfl, rfl, (zB_mk (by rw [ht]; exact hP9) (va_K.moved hW.alike hK9) hD9)⟩, hS.F ht⟩) hS.2.2 dX13_plainType_26
set_option maxHeartbeats 4000000 in
set_option maxRecDepth 100000 in
/-- X13_plainType, a road -/
theorem c_X13_plainType_r3 (l : Launch) (dC : Nat → ClassId) (dI : Nat → Nat → Nat) (sz : Nat) (h0 : Nat) (fs0 : List Value) (p0 : Int32) (v0_76 : Nat) (v0_79 : Int32) (c_v0_76 : ClassId) (f_v0_76 : Nat → Int32) (v0_77 : Nat) (c_v0_77 : ClassId) (f_v0_77 : Nat → Int32) (v0_78 : Nat) (c_v0_78 : ClassId) (f_v0_78 : Nat → Int32) (v0_70 : Nat) (v0_75 : Int32) (c_v0_70 : ClassId) (f_v0_70 : Nat → Int32) (v0_71 : Nat) (c_v0_71 : ClassId) (f_v0_71 : Nat → Int32) (v0_72 : Nat) (c_v0_72 : ClassId) (f_v0_72 : Nat → Int32) (v0_73 : Nat) (c_v0_73 : ClassId) (f_v0_73 : Nat → Int32) (v0_74 : Nat) (c_v0_74 : ClassId) (f_v0_74 : Nat → Int32) (hl0 : fs0.length = 196) (hf0_76 : fs0[76]? = some (.ref v0_76)) (hf0_79 : fs0[79]? = some (.int v0_79)) (hf0_77 : fs0[77]? = some (.ref v0_77)) (hf0_78 : fs0[78]? = some (.ref v0_78)) (hf0_70 : fs0[70]? = some (.ref v0_70)) (hf0_75 : fs0[75]? = some (.int v0_75)) (hf0_71 : fs0[71]? = some (.ref v0_71)) (hf0_72 : fs0[72]? = some (.ref v0_72)) (hf0_73 : fs0[73]? = some (.ref v0_73)) (hf0_74 : fs0[74]? = some (.ref v0_74)) (hp_0 : ¬ p0 = 1) (hp_1 : p0 = 3) (hp_2 : vp_in v0_79 24000) (hp_3 : vp_in v0_75 40000) : Met l yX13_plainType wsX13_plainType ({ frames := 1, cells := 0, slots := 0, locals := 25 }) (zPc dC dI sz [.ref h0, .int p0] [(h0, .inr (15, fs0)), (v0_76, .inl (c_v0_76, 24000, .inl f_v0_76)), (v0_77, .inl (c_v0_77, 24000, .inl f_v0_77)), (v0_78, .inl (c_v0_78, 24000, .inl f_v0_78)), (v0_70, .inl (c_v0_70, 40000, .inl f_v0_70)), (v0_71, .inl (c_v0_71, 40000, .inl f_v0_71)), (v0_72, .inl (c_v0_72, 40000, .inl f_v0_72)), (v0_73, .inl (c_v0_73, 40000, .inl f_v0_73)), (v0_74, .inl (c_v0_74, 40000, .inl f_v0_74))] [(c_v0_76, .int), (c_v0_77, .int), (c_v0_78, .int), (c_v0_70, .int), (c_v0_71, .int), (c_v0_72, .int), (c_v0_73, .int), (c_v0_74, .int)]) (va_Qi (fun (r : Int32) (_ : Unit) => r = ((v0_75 + 1) - 1)) (zB dC dI (fun _ => [(c_v0_76, .int), (c_v0_77, .int), (c_v0_78, .int), (c_v0_70, .int), (c_v0_71, .int), (c_v0_72, .int), (c_v0_73, .int), (c_v0_74, .int)]) (fun _ : Unit => [(v0_76, .inl (c_v0_76, 24000, .inl (upd f_v0_76 (v0_79 : Int32).toNatClampNeg (-1)))), (v0_77, .inl (c_v0_77, 24000, .inl (upd f_v0_77 (v0_79 : Int32).toNatClampNeg (-1)))), (v0_78, .inl (c_v0_78, 24000, .inl (upd f_v0_78 (v0_79 : Int32).toNatClampNeg (-1)))), (h0, .inr (15, ((fs0.set 79 (.int (v0_79 + 1))).set 75 (.int (v0_75 + 1))))), (v0_70, .inl (c_v0_70, 40000, .inl (upd f_v0_70 (v0_75 : Int32).toNatClampNeg p0))), (v0_71, .inl (c_v0_71, 40000, .inl (upd f_v0_71 (v0_75 : Int32).toNatClampNeg ((v0_79 + 1) - 1)))), (v0_72, .inl (c_v0_72, 40000, .inl (upd f_v0_72 (v0_75 : Int32).toNatClampNeg (-1)))), (v0_73, .inl (c_v0_73, 40000, .inl (upd f_v0_73 (v0_75 : Int32).toNatClampNeg (-1)))), (v0_74, .inl (c_v0_74, 40000, .inl (upd f_v0_74 (v0_75 : Int32).toNatClampNeg (-1))))]) (va_A [(h0, .inr (15, fs0)), (v0_76, .inl (c_v0_76, 24000, .inl f_v0_76)), (v0_77, .inl (c_v0_77, 24000, .inl f_v0_77)), (v0_78, .inl (c_v0_78, 24000, .inl f_v0_78)), (v0_70, .inl (c_v0_70, 40000, .inl f_v0_70)), (v0_71, .inl (c_v0_71, 40000, .inl f_v0_71)), (v0_72, .inl (c_v0_72, 40000, .inl f_v0_72)), (v0_73, .inl (c_v0_73, 40000, .inl f_v0_73)), (v0_74, .inl (c_v0_74, 40000, .inl f_v0_74))] sz)) (va_A [(h0, .inr (15, fs0)), (v0_76, .inl (c_v0_76, 24000, .inl f_v0_76)), (v0_77, .inl (c_v0_77, 24000, .inl f_v0_77)), (v0_78, .inl (c_v0_78, 24000, .inl f_v0_78)), (v0_70, .inl (c_v0_70, 40000, .inl f_v0_70)), (v0_71, .inl (c_v0_71, 40000, .inl f_v0_71)), (v0_72, .inl (c_v0_72, 40000, .inl f_v0_72)), (v0_73, .inl (c_v0_73, 40000, .inl f_v0_73)), (v0_74, .inl (c_v0_74, 40000, .inl f_v0_74))] sz)) 0 0 (va_A [(h0, .inr (15, fs0)), (v0_76, .inl (c_v0_76, 24000, .inl f_v0_76)), (v0_77, .inl (c_v0_77, 24000, .inl f_v0_77)), (v0_78, .inl (c_v0_78, 24000, .inl f_v0_78)), (v0_70, .inl (c_v0_70, 40000, .inl f_v0_70)), (v0_71, .inl (c_v0_71, 40000, .inl f_v0_71)), (v0_72, .inl (c_v0_72, 40000, .inl f_v0_72)), (v0_73, .inl (c_v0_73, 40000, .inl f_v0_73)), (v0_74, .inl (c_v0_74, 40000, .inl f_v0_74))] sz) := by
  refine Met.ofW (cc := cX13_plainType) (maxL := 2) (ret := (some .int)) (by decide) rfl ?_
  intro p e s m args below meth c s₁ B hml hv
  obtain ⟨rfl, hsz, hP, hK, hD0⟩ := hv
  have hx := B.exec
  have hb := B.bytes
  have hr := B.returns
  have hts := atoms_spec (ws := wsX13_plainType) B.pre
  have hown : s.vm.findClass RX13 = some m.cls := findClass_of_methodNamed B.named
  have hlocks := B.notSynchronized
  subst hsz
  have hD := hD0.self (sz := s.heap.size)
  generalize hAe : va_A [(h0, .inr (15, fs0)), (v0_76, .inl (c_v0_76, 24000, .inl f_v0_76)), (v0_77, .inl (c_v0_77, 24000, .inl f_v0_77)), (v0_78, .inl (c_v0_78, 24000, .inl f_v0_78)), (v0_70, .inl (c_v0_70, 40000, .inl f_v0_70)), (v0_71, .inl (c_v0_71, 40000, .inl f_v0_71)), (v0_72, .inl (c_v0_72, 40000, .inl f_v0_72)), (v0_73, .inl (c_v0_73, 40000, .inl f_v0_73)), (v0_74, .inl (c_v0_74, 40000, .inl f_v0_74))] s.heap.size = A at hD ⊢
  have hA : ∀ q : Nat, s.heap.size ≤ q → A q := fun q h => by rw [← hAe]; exact Or.inr h
  have hS : va_S A s.heap s.heap [] := va_S.rf
  have hP : va_P (dC, dI) vwCl [(h0, .inr (15, fs0)), (v0_76, .inl (c_v0_76, 24000, .inl f_v0_76)), (v0_77, .inl (c_v0_77, 24000, .inl f_v0_77)), (v0_78, .inl (c_v0_78, 24000, .inl f_v0_78)), (v0_70, .inl (c_v0_70, 40000, .inl f_v0_70)), (v0_71, .inl (c_v0_71, 40000, .inl f_v0_71)), (v0_72, .inl (c_v0_72, 40000, .inl f_v0_72)), (v0_73, .inl (c_v0_73, 40000, .inl f_v0_73)), (v0_74, .inl (c_v0_74, 40000, .inl f_v0_74))] s.heap := hP
  have hl := lv_entry ([.ref h0, .int p0]) (n := 2) (Nat.le_of_ble_eq_true rfl)
  rw [lg_entry_eq]
  generalize (lg_sl ([.ref h0, .int p0]) ++ List.replicate (2 - (lg_sl ([.ref h0, .int p0])).length) Slot.unset).toArray = ls at hl ⊢
  have hl : lv_has ls 2 [(0, .ref h0), (1, .int p0)] := hl
  refine lv_aload_n hx hb dX13_plainType_0 rfl (lv_at hl 0 rfl) ?_
  refine lv_iload_n hx hb dX13_plainType_1 rfl (lv_at hl 1 rfl) ?_
  refine lv_iload_n hx hb dX13_plainType_2 rfl (lv_at hl 1 rfl) ?_
  have hPc := hP.sub (ws' := []) [] rfl
  have hDc := hD.sub (ws' := []) [] (by decide) rfl
  have hKc := hK.sub (tys' := []) [] rfl
  have hFc := va_free (wc := []) hD hS hA [] rfl
  refine va_calli (va_runS (As := [.int p0]) (rest := [.int p0, .ref h0]) ⟨hx, hb, hml, hown, hts⟩ (c_X13_isSaid_r1 l dC dI s.heap.size p0 hp_0 hp_1) (va_cwS 1 hts gX13_plainType_X13_isSaid rfl rfl rfl (by decide +kernel) ⟨Nat.le_of_ble_eq_true rfl, Nat.le_of_ble_eq_true rfl⟩) ⟨zPc_blind, fun U hU hW => zPc_at hPc hKc hDc hU hW⟩ rfl rfl hl.1 rfl (lv_room (Nat.le_of_ble_eq_true rfl)) dX13_plainType_3 ⟨Nat.le_of_ble_eq_true rfl, Nat.le_of_ble_eq_true rfl⟩) hS (fun q _ h => hFc q h) hFc (fun r_1 u t H1 locs ht hvm hw hB hz1 hk1 hS => ?_)
  obtain ⟨hP1, hK1, hD1⟩ := hB
  subst hw
  rw [ht] at hP1
  have hK1 := va_K.moved hvm.symm hK1
  obtain ⟨hP, hD⟩ := va_join (wr := [(h0, .inr (15, fs0)), (v0_76, .inl (c_v0_76, 24000, .inl f_v0_76)), (v0_77, .inl (c_v0_77, 24000, .inl f_v0_77)), (v0_78, .inl (c_v0_78, 24000, .inl f_v0_78)), (v0_70, .inl (c_v0_70, 40000, .inl f_v0_70)), (v0_71, .inl (c_v0_71, 40000, .inl f_v0_71)), (v0_72, .inl (c_v0_72, 40000, .inl f_v0_72)), (v0_73, .inl (c_v0_73, 40000, .inl f_v0_73)), (v0_74, .inl (c_v0_74, 40000, .inl f_v0_74))]) (w1 := []) hP hD [] [0, 1, 2, 3, 4, 5, 6, 7, 8] rfl rfl (by decide) (by decide) hk1 hFc hP1 hD1
  generalize H1 = H at hP hS ⊢
  have hP : va_P (dC, dI) vwCl [(h0, .inr (15, fs0)), (v0_76, .inl (c_v0_76, 24000, .inl f_v0_76)), (v0_77, .inl (c_v0_77, 24000, .inl f_v0_77)), (v0_78, .inl (c_v0_78, 24000, .inl f_v0_78)), (v0_70, .inl (c_v0_70, 40000, .inl f_v0_70)), (v0_71, .inl (c_v0_71, 40000, .inl f_v0_71)), (v0_72, .inl (c_v0_72, 40000, .inl f_v0_72)), (v0_73, .inl (c_v0_73, 40000, .inl f_v0_73)), (v0_74, .inl (c_v0_74, 40000, .inl f_v0_74))] H := hP
  have hD : va_D A [(h0, .inr (15, fs0)), (v0_76, .inl (c_v0_76, 24000, .inl f_v0_76)), (v0_77, .inl (c_v0_77, 24000, .inl f_v0_77)), (v0_78, .inl (c_v0_78, 24000, .inl f_v0_78)), (v0_70, .inl (c_v0_70, 40000, .inl f_v0_70)), (v0_71, .inl (c_v0_71, 40000, .inl f_v0_71)), (v0_72, .inl (c_v0_72, 40000, .inl f_v0_72)), (v0_73, .inl (c_v0_73, 40000, .inl f_v0_73)), (v0_74, .inl (c_v0_74, 40000, .inl f_v0_74))] := hD
  refine lv_if_eq (tgt := 19) hx hb dX13_plainType_6 (by decide) (fun c_1 => absurd c_1 (by decide)) (fun c_1 => ?_)
  refine lv_aload_n hx hb dX13_plainType_9 rfl (lv_at hl 0 rfl) ?_
  refine lv_iconst (v := -1) hx hb dX13_plainType_10 (by decide) ?_
  refine lv_iconst (v := -1) hx hb dX13_plainType_11 (by decide) ?_
  refine lv_iconst (v := -1) hx hb dX13_plainType_12 (by decide) ?_
  have hPc := hP.sub (ws' := [(h0, .inr (15, fs0)), (v0_76, .inl (c_v0_76, 24000, .inl f_v0_76)), (v0_77, .inl (c_v0_77, 24000, .inl f_v0_77)), (v0_78, .inl (c_v0_78, 24000, .inl f_v0_78))]) [0, 1, 2, 3] rfl
  have hDc := hD.sub (ws' := [(h0, .inr (15, fs0)), (v0_76, .inl (c_v0_76, 24000, .inl f_v0_76)), (v0_77, .inl (c_v0_77, 24000, .inl f_v0_77)), (v0_78, .inl (c_v0_78, 24000, .inl f_v0_78))]) [0, 1, 2, 3] (by decide) rfl
  have hKc := hK.sub (tys' := [(c_v0_76, .int), (c_v0_77, .int), (c_v0_78, .int)]) [0, 1, 2] rfl
  have hFc := va_free (wc := [(h0, .inr (15, fs0)), (v0_76, .inl (c_v0_76, 24000, .inl f_v0_76)), (v0_77, .inl (c_v0_77, 24000, .inl f_v0_77)), (v0_78, .inl (c_v0_78, 24000, .inl f_v0_78))]) hD hS hA [0, 1, 2, 3] rfl
  refine va_calli (va_runV (As := [.int (-1), .int (-1), .int (-1)]) (rest := [.int p0, .ref h0]) ⟨hx, hb, hml, hown, hts⟩ (c_X13_said_r0 l dC dI H.size h0 fs0 (-1) (-1) (-1) v0_76 v0_79 c_v0_76 f_v0_76 v0_77 c_v0_77 f_v0_77 v0_78 c_v0_78 f_v0_78 hl0 hf0_76 hf0_79 hf0_77 hf0_78 hp_2 hp_2 hp_2) (cwV 3 hts gX13_plainType_X13_said rfl rfl rfl (by decide +kernel) ⟨Nat.le_of_ble_eq_true rfl, Nat.le_of_ble_eq_true rfl⟩) ⟨zPc_blind, va_recv hKc hPc (ci := 15) (q0 := 0) rfl rfl, fun U hU hW => zPc_at hPc hKc hDc hU hW⟩ rfl rfl hl.1 rfl (lv_room (Nat.le_of_ble_eq_true rfl)) dX13_plainType_13 ⟨Nat.le_of_ble_eq_true rfl, Nat.le_of_ble_eq_true rfl⟩) hS (fun q _ h => hFc q h) hFc (fun r_2 u t H1 locs ht hvm hw hB hz1 hk1 hS => ?_)
  obtain ⟨hP1, hK1, hD1⟩ := hB
  subst hw
  rw [ht] at hP1
  have hK1 := va_K.moved hvm.symm hK1
  obtain ⟨hP, hD⟩ := va_join (wr := [(v0_70, .inl (c_v0_70, 40000, .inl f_v0_70)), (v0_71, .inl (c_v0_71, 40000, .inl f_v0_71)), (v0_72, .inl (c_v0_72, 40000, .inl f_v0_72)), (v0_73, .inl (c_v0_73, 40000, .inl f_v0_73)), (v0_74, .inl (c_v0_74, 40000, .inl f_v0_74))]) (w1 := [(h0, .inr (15, (fs0.set 79 (.int (v0_79 + 1))))), (v0_76, .inl (c_v0_76, 24000, .inl (upd f_v0_76 (v0_79 : Int32).toNatClampNeg (-1)))), (v0_77, .inl (c_v0_77, 24000, .inl (upd f_v0_77 (v0_79 : Int32).toNatClampNeg (-1)))), (v0_78, .inl (c_v0_78, 24000, .inl (upd f_v0_78 (v0_79 : Int32).toNatClampNeg (-1))))]) hP hD [0, 1, 2, 3] [4, 5, 6, 7, 8] rfl rfl (by decide) (by decide) hk1 hFc hP1 hD1
  generalize H1 = H at hP hS ⊢
  have hP : va_P (dC, dI) vwCl [(v0_70, .inl (c_v0_70, 40000, .inl f_v0_70)), (v0_71, .inl (c_v0_71, 40000, .inl f_v0_71)), (v0_72, .inl (c_v0_72, 40000, .inl f_v0_72)), (v0_73, .inl (c_v0_73, 40000, .inl f_v0_73)), (v0_74, .inl (c_v0_74, 40000, .inl f_v0_74)), (h0, .inr (15, (fs0.set 79 (.int (v0_79 + 1))))), (v0_76, .inl (c_v0_76, 24000, .inl (upd f_v0_76 (v0_79 : Int32).toNatClampNeg (-1)))), (v0_77, .inl (c_v0_77, 24000, .inl (upd f_v0_77 (v0_79 : Int32).toNatClampNeg (-1)))), (v0_78, .inl (c_v0_78, 24000, .inl (upd f_v0_78 (v0_79 : Int32).toNatClampNeg (-1))))] H := hP
  have hD : va_D A [(v0_70, .inl (c_v0_70, 40000, .inl f_v0_70)), (v0_71, .inl (c_v0_71, 40000, .inl f_v0_71)), (v0_72, .inl (c_v0_72, 40000, .inl f_v0_72)), (v0_73, .inl (c_v0_73, 40000, .inl f_v0_73)), (v0_74, .inl (c_v0_74, 40000, .inl f_v0_74)), (h0, .inr (15, (fs0.set 79 (.int (v0_79 + 1))))), (v0_76, .inl (c_v0_76, 24000, .inl (upd f_v0_76 (v0_79 : Int32).toNatClampNeg (-1)))), (v0_77, .inl (c_v0_77, 24000, .inl (upd f_v0_77 (v0_79 : Int32).toNatClampNeg (-1)))), (v0_78, .inl (c_v0_78, 24000, .inl (upd f_v0_78 (v0_79 : Int32).toNatClampNeg (-1))))] := hD
  refine lv_goto (tgt := 20) hx hb dX13_plainType_16 (by decide) ?_
  refine lv_iconst (v := -1) hx hb dX13_plainType_20 (by decide) ?_
  refine lv_iconst (v := -1) hx hb dX13_plainType_21 (by decide) ?_
  refine lv_iconst (v := -1) hx hb dX13_plainType_22 (by decide) ?_
  have hPc := hP.sub (ws' := [(h0, .inr (15, (fs0.set 79 (.int (v0_79 + 1))))), (v0_70, .inl (c_v0_70, 40000, .inl f_v0_70)), (v0_71, .inl (c_v0_71, 40000, .inl f_v0_71)), (v0_72, .inl (c_v0_72, 40000, .inl f_v0_72)), (v0_73, .inl (c_v0_73, 40000, .inl f_v0_73)), (v0_74, .inl (c_v0_74, 40000, .inl f_v0_74))]) [5, 0, 1, 2, 3, 4] rfl
  have hDc := hD.sub (ws' := [(h0, .inr (15, (fs0.set 79 (.int (v0_79 + 1))))), (v0_70, .inl (c_v0_70, 40000, .inl f_v0_70)), (v0_71, .inl (c_v0_71, 40000, .inl f_v0_71)), (v0_72, .inl (c_v0_72, 40000, .inl f_v0_72)), (v0_73, .inl (c_v0_73, 40000, .inl f_v0_73)), (v0_74, .inl (c_v0_74, 40000, .inl f_v0_74))]) [5, 0, 1, 2, 3, 4] (by decide) rfl
  have hKc := hK.sub (tys' := [(c_v0_70, .int), (c_v0_71, .int), (c_v0_72, .int), (c_v0_73, .int), (c_v0_74, .int)]) [3, 4, 5, 6, 7] rfl
  have hFc := va_free (wc := [(h0, .inr (15, (fs0.set 79 (.int (v0_79 + 1))))), (v0_70, .inl (c_v0_70, 40000, .inl f_v0_70)), (v0_71, .inl (c_v0_71, 40000, .inl f_v0_71)), (v0_72, .inl (c_v0_72, 40000, .inl f_v0_72)), (v0_73, .inl (c_v0_73, 40000, .inl f_v0_73)), (v0_74, .inl (c_v0_74, 40000, .inl f_v0_74))]) hD hS hA [5, 0, 1, 2, 3, 4] rfl
  refine va_calli (va_runV (As := [.int p0, .int ((v0_79 + 1) - 1), .int (-1), .int (-1), .int (-1)]) (rest := []) ⟨hx, hb, hml, hown, hts⟩ (c_X13_rich_r0 l dC dI H.size h0 (fs0.set 79 (.int (v0_79 + 1))) p0 ((v0_79 + 1) - 1) (-1) (-1) (-1) v0_70 v0_75 c_v0_70 f_v0_70 v0_71 c_v0_71 f_v0_71 v0_72 c_v0_72 f_v0_72 v0_73 c_v0_73 f_v0_73 v0_74 c_v0_74 f_v0_74 (zs_len hl0) (zs_ne (by decide) hf0_70) (zs_ne (by decide) hf0_75) (zs_ne (by decide) hf0_71) (zs_ne (by decide) hf0_72) (zs_ne (by decide) hf0_73) (zs_ne (by decide) hf0_74) hp_3 hp_3 hp_3 hp_3 hp_3) (cwV 5 hts gX13_plainType_X13_rich rfl rfl rfl (by decide +kernel) ⟨Nat.le_of_ble_eq_true rfl, Nat.le_of_ble_eq_true rfl⟩) ⟨zPc_blind, va_recv hKc hPc (ci := 15) (q0 := 0) rfl rfl, fun U hU hW => zPc_at hPc hKc hDc hU hW⟩ rfl rfl hl.1 rfl (lv_room (Nat.le_of_ble_eq_true rfl)) dX13_plainType_23 ⟨Nat.le_of_ble_eq_true rfl, Nat.le_of_ble_eq_true rfl⟩) hS (fun q _ h => hFc q h) hFc (fun r_3 u t H1 locs ht hvm hw hB hz1 hk1 hS => ?_)
  obtain ⟨hP1, hK1, hD1⟩ := hB
  subst hw
  rw [ht] at hP1
  have hK1 := va_K.moved hvm.symm hK1
  obtain ⟨hP, hD⟩ := va_join (wr := [(v0_76, .inl (c_v0_76, 24000, .inl (upd f_v0_76 (v0_79 : Int32).toNatClampNeg (-1)))), (v0_77, .inl (c_v0_77, 24000, .inl (upd f_v0_77 (v0_79 : Int32).toNatClampNeg (-1)))), (v0_78, .inl (c_v0_78, 24000, .inl (upd f_v0_78 (v0_79 : Int32).toNatClampNeg (-1))))]) (w1 := [(h0, .inr (15, ((fs0.set 79 (.int (v0_79 + 1))).set 75 (.int (v0_75 + 1))))), (v0_70, .inl (c_v0_70, 40000, .inl (upd f_v0_70 (v0_75 : Int32).toNatClampNeg p0))), (v0_71, .inl (c_v0_71, 40000, .inl (upd f_v0_71 (v0_75 : Int32).toNatClampNeg ((v0_79 + 1) - 1)))), (v0_72, .inl (c_v0_72, 40000, .inl (upd f_v0_72 (v0_75 : Int32).toNatClampNeg (-1)))), (v0_73, .inl (c_v0_73, 40000, .inl (upd f_v0_73 (v0_75 : Int32).toNatClampNeg (-1)))), (v0_74, .inl (c_v0_74, 40000, .inl (upd f_v0_74 (v0_75 : Int32).toNatClampNeg (-1))))]) hP hD [5, 0, 1, 2, 3, 4] [6, 7, 8] rfl rfl (by decide) (by decide) hk1 hFc hP1 hD1
  generalize H1 = H at hP hS ⊢
  have hP : va_P (dC, dI) vwCl [(v0_76, .inl (c_v0_76, 24000, .inl (upd f_v0_76 (v0_79 : Int32).toNatClampNeg (-1)))), (v0_77, .inl (c_v0_77, 24000, .inl (upd f_v0_77 (v0_79 : Int32).toNatClampNeg (-1)))), (v0_78, .inl (c_v0_78, 24000, .inl (upd f_v0_78 (v0_79 : Int32).toNatClampNeg (-1)))), (h0, .inr (15, ((fs0.set 79 (.int (v0_79 + 1))).set 75 (.int (v0_75 + 1))))), (v0_70, .inl (c_v0_70, 40000, .inl (upd f_v0_70 (v0_75 : Int32).toNatClampNeg p0))), (v0_71, .inl (c_v0_71, 40000, .inl (upd f_v0_71 (v0_75 : Int32).toNatClampNeg ((v0_79 + 1) - 1)))), (v0_72, .inl (c_v0_72, 40000, .inl (upd f_v0_72 (v0_75 : Int32).toNatClampNeg (-1)))), (v0_73, .inl (c_v0_73, 40000, .inl (upd f_v0_73 (v0_75 : Int32).toNatClampNeg (-1)))), (v0_74, .inl (c_v0_74, 40000, .inl (upd f_v0_74 (v0_75 : Int32).toNatClampNeg (-1))))] H := hP
  have hD : va_D A [(v0_76, .inl (c_v0_76, 24000, .inl (upd f_v0_76 (v0_79 : Int32).toNatClampNeg (-1)))), (v0_77, .inl (c_v0_77, 24000, .inl (upd f_v0_77 (v0_79 : Int32).toNatClampNeg (-1)))), (v0_78, .inl (c_v0_78, 24000, .inl (upd f_v0_78 (v0_79 : Int32).toNatClampNeg (-1)))), (h0, .inr (15, ((fs0.set 79 (.int (v0_79 + 1))).set 75 (.int (v0_75 + 1))))), (v0_70, .inl (c_v0_70, 40000, .inl (upd f_v0_70 (v0_75 : Int32).toNatClampNeg p0))), (v0_71, .inl (c_v0_71, 40000, .inl (upd f_v0_71 (v0_75 : Int32).toNatClampNeg ((v0_79 + 1) - 1)))), (v0_72, .inl (c_v0_72, 40000, .inl (upd f_v0_72 (v0_75 : Int32).toNatClampNeg (-1)))), (v0_73, .inl (c_v0_73, 40000, .inl (upd f_v0_73 (v0_75 : Int32).toNatClampNeg (-1)))), (v0_74, .inl (c_v0_74, 40000, .inl (upd f_v0_74 (v0_75 : Int32).toNatClampNeg (-1))))] := hD
  have hP9 := hP.sub (ws' := [(v0_76, .inl (c_v0_76, 24000, .inl (upd f_v0_76 (v0_79 : Int32).toNatClampNeg (-1)))), (v0_77, .inl (c_v0_77, 24000, .inl (upd f_v0_77 (v0_79 : Int32).toNatClampNeg (-1)))), (v0_78, .inl (c_v0_78, 24000, .inl (upd f_v0_78 (v0_79 : Int32).toNatClampNeg (-1)))), (h0, .inr (15, ((fs0.set 79 (.int (v0_79 + 1))).set 75 (.int (v0_75 + 1))))), (v0_70, .inl (c_v0_70, 40000, .inl (upd f_v0_70 (v0_75 : Int32).toNatClampNeg p0))), (v0_71, .inl (c_v0_71, 40000, .inl (upd f_v0_71 (v0_75 : Int32).toNatClampNeg ((v0_79 + 1) - 1)))), (v0_72, .inl (c_v0_72, 40000, .inl (upd f_v0_72 (v0_75 : Int32).toNatClampNeg (-1)))), (v0_73, .inl (c_v0_73, 40000, .inl (upd f_v0_73 (v0_75 : Int32).toNatClampNeg (-1)))), (v0_74, .inl (c_v0_74, 40000, .inl (upd f_v0_74 (v0_75 : Int32).toNatClampNeg (-1))))]) [0, 1, 2, 3, 4, 5, 6, 7, 8] rfl
  have hD9 := hD.sub (ws' := [(v0_76, .inl (c_v0_76, 24000, .inl (upd f_v0_76 (v0_79 : Int32).toNatClampNeg (-1)))), (v0_77, .inl (c_v0_77, 24000, .inl (upd f_v0_77 (v0_79 : Int32).toNatClampNeg (-1)))), (v0_78, .inl (c_v0_78, 24000, .inl (upd f_v0_78 (v0_79 : Int32).toNatClampNeg (-1)))), (h0, .inr (15, ((fs0.set 79 (.int (v0_79 + 1))).set 75 (.int (v0_75 + 1))))), (v0_70, .inl (c_v0_70, 40000, .inl (upd f_v0_70 (v0_75 : Int32).toNatClampNeg p0))), (v0_71, .inl (c_v0_71, 40000, .inl (upd f_v0_71 (v0_75 : Int32).toNatClampNeg ((v0_79 + 1) - 1)))), (v0_72, .inl (c_v0_72, 40000, .inl (upd f_v0_72 (v0_75 : Int32).toNatClampNeg (-1)))), (v0_73, .inl (c_v0_73, 40000, .inl (upd f_v0_73 (v0_75 : Int32).toNatClampNeg (-1)))), (v0_74, .inl (c_v0_74, 40000, .inl (upd f_v0_74 (v0_75 : Int32).toNatClampNeg (-1))))]) [0, 1, 2, 3, 4, 5, 6, 7, 8] (by decide) rfl
  have hK9 := hK.sub (tys' := [(c_v0_76, .int), (c_v0_77, .int), (c_v0_78, .int), (c_v0_70, .int), (c_v0_71, .int), (c_v0_72, .int), (c_v0_73, .int), (c_v0_74, .int)]) [0, 1, 2, 3, 4, 5, 6, 7] rfl
  exact W.iret (v := ((v0_75 + 1) - 1)) hx hb hr (fun t ht hW => ⟨⟨((v0_75 + 1) - 1), (), rfl, rfl, (zB_mk (by rw [ht]; exact hP9) (va_K.moved hW.alike hK9) hD9)⟩, hS.F ht⟩) hS.2.2 dX13_plainType_26
theorem iw_X13_name_X13 : ∀ w ∈ wsX130, w ∈ wsX13_name := fun w h => List.mem_cons_of_mem _ (List.mem_append_right _ h)
set_option maxHeartbeats 4000000 in
set_option maxRecDepth 100000 in
/-- X13_name, a road -/
theorem c_X13_name_r0 (l : Launch) (dC : Nat → ClassId) (dI : Nat → Nat → Nat) (sz : Nat) (h0 : Nat) (fs0 : List Value) (v0_11 : Int32) (v0_6 : Nat) (v0_10 : Int32) (c_v0_6 : ClassId) (f_v0_6 : Nat → Int32) (hl0 : fs0.length = 196) (hf0_11 : fs0[11]? = some (.int v0_11)) (hf0_6 : fs0[6]? = some (.ref v0_6)) (hf0_10 : fs0[10]? = some (.int v0_10)) (hi_0 : vp_in v0_10 2010) (hc_0 : v0_11 = 0) (hc_1 : (f_v0_6 (v0_10 : Int32).toNatClampNeg) = 1) : Met l yX13_name wsX13_name ({ frames := 0, cells := 0, slots := 0, locals := 0 }) (zPc dC dI sz [.ref h0] [(h0, .inr (15, fs0)), (v0_6, .inl (c_v0_6, 2010, .inl f_v0_6))] [(c_v0_6, .int)]) (va_Qi (fun (r : Int32) (_ : Unit) => r = ((v0_10 + 1) - 1)) (zB dC dI (fun _ => [(c_v0_6, .int)]) (fun _ : Unit => [(h0, .inr (15, (fs0.set 10 (.int (v0_10 + 1))))), (v0_6, .inl (c_v0_6, 2010, .inl f_v0_6))]) (va_A [(h0, .inr (15, fs0)), (v0_6, .inl (c_v0_6, 2010, .inl f_v0_6))] sz)) (va_A [(h0, .inr (15, fs0)), (v0_6, .inl (c_v0_6, 2010, .inl f_v0_6))] sz)) 0 0 (va_A [(h0, .inr (15, fs0)), (v0_6, .inl (c_v0_6, 2010, .inl f_v0_6))] sz) := by
  refine Met.ofW (cc := cX13_name) (maxL := 1) (ret := (some .int)) (by decide) rfl ?_
  intro p e s m args below meth c s₁ B hml hv
  obtain ⟨rfl, hsz, hP, hK, hD0⟩ := hv
  have hx := B.exec
  have hb := B.bytes
  have hr := B.returns
  have hts := atoms_spec (ws := wsX13_name) B.pre
  have hown : s.vm.findClass RX13 = some m.cls := findClass_of_methodNamed B.named
  have hlocks := B.notSynchronized
  subst hsz
  have hD := hD0.self (sz := s.heap.size)
  generalize hAe : va_A [(h0, .inr (15, fs0)), (v0_6, .inl (c_v0_6, 2010, .inl f_v0_6))] s.heap.size = A at hD ⊢
  have hA : ∀ q : Nat, s.heap.size ≤ q → A q := fun q h => by rw [← hAe]; exact Or.inr h
  have hS : va_S A s.heap s.heap [] := va_S.rf
  have hP : va_P (dC, dI) vwCl [(h0, .inr (15, fs0)), (v0_6, .inl (c_v0_6, 2010, .inl f_v0_6))] s.heap := hP
  have hl := lv_entry ([.ref h0]) (n := 1) (Nat.le_of_ble_eq_true rfl)
  rw [lg_entry_eq]
  generalize (lg_sl ([.ref h0]) ++ List.replicate (1 - (lg_sl ([.ref h0])).length) Slot.unset).toArray = ls at hl ⊢
  have hl : lv_has ls 1 [(0, .ref h0)] := hl
  refine lv_aload_n hx hb dX13_name_0 rfl (lv_at hl 0 rfl) ?_
  refine va_get (D := (dC, dI)) (ci := 15) (v := .int v0_11) (C := RX13) (T := TX13) (N := 196) hx hb hts iw_X13_name_X13 hown hK hP 0 rfl rfl 11 (by decide) (hts (.fieldLink RX13 392 "LiquidTongueModel" "bad" "I") (by decide +kernel)) (fun _ h9 => h9) hf0_11 dX13_name_1 ?_
  refine lv_if_eq (tgt := 9) hx hb dX13_name_4 (by decide) (fun c_1 => ?_) (fun c_1 => absurd hc_0 c_1)
  refine lv_aload_n hx hb dX13_name_9 rfl (lv_at hl 0 rfl) ?_
  refine va_get (D := (dC, dI)) (ci := 15) (v := .ref v0_6) (C := RX13) (T := TX13) (N := 196) hx hb hts iw_X13_name_X13 hown hK hP 0 rfl rfl 6 (by decide) (hts (.fieldLink RX13 19 "LiquidTongueModel" "wKind" "[I") (by decide +kernel)) (fun _ h9 => h9) hf0_6 dX13_name_10 ?_
  refine lv_aload_n hx hb dX13_name_13 rfl (lv_at hl 0 rfl) ?_
  refine va_get (D := (dC, dI)) (ci := 15) (v := .int v0_10) (C := RX13) (T := TX13) (N := 196) hx hb hts iw_X13_name_X13 hown hK hP 0 rfl rfl 10 (by decide) (hts (.fieldLink RX13 433 "LiquidTongueModel" "w" "I") (by decide +kernel)) (fun _ h9 => h9) hf0_10 dX13_name_14 ?_
  refine va_iald hx hb hK hP 1 0 rfl rfl hi_0 dX13_name_17 ?_
  refine lv_iconst (v := 1) hx hb dX13_name_18 (by decide) ?_
  refine lv_icmp_eq (tgt := 28) hx hb dX13_name_19 (by decide) (fun c_2 => ?_) (fun c_2 => absurd hc_1 c_2)
  refine lv_aload_n hx hb dX13_name_28 rfl (lv_at hl 0 rfl) ?_
  refine lv_dup hx hb dX13_name_29 rfl ?_
  refine va_get (D := (dC, dI)) (ci := 15) (v := .int v0_10) (C := RX13) (T := TX13) (N := 196) hx hb hts iw_X13_name_X13 hown hK hP 0 rfl rfl 10 (by decide) (hts (.fieldLink RX13 433 "LiquidTongueModel" "w" "I") (by decide +kernel)) (fun _ h9 => h9) hf0_10 dX13_name_30 ?_
  refine lv_iconst (v := 1) hx hb dX13_name_33 (by decide) ?_
  refine lv_iadd hx hb dX13_name_34 ?_
  refine va_put (D := (dC, dI)) (ci := 15) (v := .int (v0_10 + 1)) (ty := .int) (C := RX13) (T := TX13) (N := 196) hx hb hts iw_X13_name_X13 tyX13 tyX13_ok nmX13 hown hK hP hD hS 0 rfl rfl 10 (by decide) (hts (.fieldLink RX13 433 "LiquidTongueModel" "w" "I") (by decide +kernel)) (fun _ h9 => h9) rfl (by decide +kernel) rfl rfl (zs_lt hl0 (by decide)) dX13_name_35 (fun H locs hP hD hS => ?_)
  have hP : va_P (dC, dI) vwCl [(h0, .inr (15, (fs0.set 10 (.int (v0_10 + 1))))), (v0_6, .inl (c_v0_6, 2010, .inl f_v0_6))] H := hP
  have hD : va_D A [(h0, .inr (15, (fs0.set 10 (.int (v0_10 + 1))))), (v0_6, .inl (c_v0_6, 2010, .inl f_v0_6))] := hD
  refine lv_aload_n hx hb dX13_name_38 rfl (lv_at hl 0 rfl) ?_
  refine va_get (D := (dC, dI)) (ci := 15) (v := .int (v0_10 + 1)) (C := RX13) (T := TX13) (N := 196) hx hb hts iw_X13_name_X13 hown hK hP 0 rfl rfl 10 (by decide) (hts (.fieldLink RX13 433 "LiquidTongueModel" "w" "I") (by decide +kernel)) (fun _ h9 => h9) (zs_eq (zs_lt hl0 (by decide))) dX13_name_39 ?_
  refine lv_iconst (v := 1) hx hb dX13_name_42 (by decide) ?_
  refine lv_isub hx hb dX13_name_43 ?_
  have hP9 := hP.sub (ws' := [(h0, .inr (15, (fs0.set 10 (.int (v0_10 + 1))))), (v0_6, .inl (c_v0_6, 2010, .inl f_v0_6))]) [0, 1] rfl
  have hD9 := hD.sub (ws' := [(h0, .inr (15, (fs0.set 10 (.int (v0_10 + 1))))), (v0_6, .inl (c_v0_6, 2010, .inl f_v0_6))]) [0, 1] (by decide) rfl
  have hK9 := hK.sub (tys' := [(c_v0_6, .int)]) [0] rfl
  exact W.iret (v := ((v0_10 + 1) - 1)) hx hb hr (fun t ht hW => ⟨⟨((v0_10 + 1) - 1), (), rfl, rfl, (zB_mk (by rw [ht]; exact hP9) (va_K.moved hW.alike hK9) hD9)⟩, hS.F ht⟩) hS.2.2 dX13_name_44
set_option maxHeartbeats 4000000 in
set_option maxRecDepth 100000 in
/-- X13_name, a road -/
theorem c_X13_name_r1 (l : Launch) (dC : Nat → ClassId) (dI : Nat → Nat → Nat) (sz : Nat) (h0 : Nat) (fs0 : List Value) (v0_11 : Int32) (v0_6 : Nat) (v0_10 : Int32) (c_v0_6 : ClassId) (f_v0_6 : Nat → Int32) (v0_7 : Nat) (c_v0_7 : ClassId) (f_v0_7 : Nat → Int32) (hl0 : fs0.length = 196) (hf0_11 : fs0[11]? = some (.int v0_11)) (hf0_6 : fs0[6]? = some (.ref v0_6)) (hf0_10 : fs0[10]? = some (.int v0_10)) (hf0_7 : fs0[7]? = some (.ref v0_7)) (hi_0 : vp_in v0_10 2010) (hc_0 : v0_11 = 0) (hc_1 : ¬ (f_v0_6 (v0_10 : Int32).toNatClampNeg) = 1) : Met l yX13_name wsX13_name ({ frames := 2, cells := 0, slots := 0, locals := 42 }) (zPc dC dI sz [.ref h0] [(h0, .inr (15, fs0)), (v0_6, .inl (c_v0_6, 2010, .inl f_v0_6)), (v0_7, .inl (c_v0_7, 2010, .inl f_v0_7))] [(c_v0_6, .int), (c_v0_7, .int)]) (va_Qi (fun (r : Int32) (_ : Unit) => r = 0) (zB dC dI (fun _ => [(c_v0_6, .int), (c_v0_7, .int)]) (fun _ : Unit => [(v0_6, .inl (c_v0_6, 2010, .inl f_v0_6)), (v0_7, .inl (c_v0_7, 2010, .inl f_v0_7)), (h0, .inr (15, ((fs0.set 11 (.int 2)).set 12 (.int (f_v0_7 (v0_10 : Int32).toNatClampNeg)))))]) (va_A [(h0, .inr (15, fs0)), (v0_6, .inl (c_v0_6, 2010, .inl f_v0_6)), (v0_7, .inl (c_v0_7, 2010, .inl f_v0_7))] sz)) (va_A [(h0, .inr (15, fs0)), (v0_6, .inl (c_v0_6, 2010, .inl f_v0_6)), (v0_7, .inl (c_v0_7, 2010, .inl f_v0_7))] sz)) 0 0 (va_A [(h0, .inr (15, fs0)), (v0_6, .inl (c_v0_6, 2010, .inl f_v0_6)), (v0_7, .inl (c_v0_7, 2010, .inl f_v0_7))] sz) := by
  refine Met.ofW (cc := cX13_name) (maxL := 1) (ret := (some .int)) (by decide) rfl ?_
  intro p e s m args below meth c s₁ B hml hv
  obtain ⟨rfl, hsz, hP, hK, hD0⟩ := hv
  have hx := B.exec
  have hb := B.bytes
  have hr := B.returns
  have hts := atoms_spec (ws := wsX13_name) B.pre
  have hown : s.vm.findClass RX13 = some m.cls := findClass_of_methodNamed B.named
  have hlocks := B.notSynchronized
  subst hsz
  have hD := hD0.self (sz := s.heap.size)
  generalize hAe : va_A [(h0, .inr (15, fs0)), (v0_6, .inl (c_v0_6, 2010, .inl f_v0_6)), (v0_7, .inl (c_v0_7, 2010, .inl f_v0_7))] s.heap.size = A at hD ⊢
  have hA : ∀ q : Nat, s.heap.size ≤ q → A q := fun q h => by rw [← hAe]; exact Or.inr h
  have hS : va_S A s.heap s.heap [] := va_S.rf
  have hP : va_P (dC, dI) vwCl [(h0, .inr (15, fs0)), (v0_6, .inl (c_v0_6, 2010, .inl f_v0_6)), (v0_7, .inl (c_v0_7, 2010, .inl f_v0_7))] s.heap := hP
  have hl := lv_entry ([.ref h0]) (n := 1) (Nat.le_of_ble_eq_true rfl)
  rw [lg_entry_eq]
  generalize (lg_sl ([.ref h0]) ++ List.replicate (1 - (lg_sl ([.ref h0])).length) Slot.unset).toArray = ls at hl ⊢
  have hl : lv_has ls 1 [(0, .ref h0)] := hl
  refine lv_aload_n hx hb dX13_name_0 rfl (lv_at hl 0 rfl) ?_
  refine va_get (D := (dC, dI)) (ci := 15) (v := .int v0_11) (C := RX13) (T := TX13) (N := 196) hx hb hts iw_X13_name_X13 hown hK hP 0 rfl rfl 11 (by decide) (hts (.fieldLink RX13 392 "LiquidTongueModel" "bad" "I") (by decide +kernel)) (fun _ h9 => h9) hf0_11 dX13_name_1 ?_
  refine lv_if_eq (tgt := 9) hx hb dX13_name_4 (by decide) (fun c_1 => ?_) (fun c_1 => absurd hc_0 c_1)
  refine lv_aload_n hx hb dX13_name_9 rfl (lv_at hl 0 rfl) ?_
  refine va_get (D := (dC, dI)) (ci := 15) (v := .ref v0_6) (C := RX13) (T := TX13) (N := 196) hx hb hts iw_X13_name_X13 hown hK hP 0 rfl rfl 6 (by decide) (hts (.fieldLink RX13 19 "LiquidTongueModel" "wKind" "[I") (by decide +kernel)) (fun _ h9 => h9) hf0_6 dX13_name_10 ?_
  refine lv_aload_n hx hb dX13_name_13 rfl (lv_at hl 0 rfl) ?_
  refine va_get (D := (dC, dI)) (ci := 15) (v := .int v0_10) (C := RX13) (T := TX13) (N := 196) hx hb hts iw_X13_name_X13 hown hK hP 0 rfl rfl 10 (by decide) (hts (.fieldLink RX13 433 "LiquidTongueModel" "w" "I") (by decide +kernel)) (fun _ h9 => h9) hf0_10 dX13_name_14 ?_
  refine va_iald hx hb hK hP 1 0 rfl rfl hi_0 dX13_name_17 ?_
  refine lv_iconst (v := 1) hx hb dX13_name_18 (by decide) ?_
  refine lv_icmp_eq (tgt := 28) hx hb dX13_name_19 (by decide) (fun c_2 => absurd c_2 hc_1) (fun c_2 => ?_)
  refine lv_aload_n hx hb dX13_name_22 rfl (lv_at hl 0 rfl) ?_
  have hPc := hP.sub (ws' := [(h0, .inr (15, fs0)), (v0_7, .inl (c_v0_7, 2010, .inl f_v0_7))]) [0, 2] rfl
  have hDc := hD.sub (ws' := [(h0, .inr (15, fs0)), (v0_7, .inl (c_v0_7, 2010, .inl f_v0_7))]) [0, 2] (by decide) rfl
  have hKc := hK.sub (tys' := [(c_v0_7, .int)]) [1] rfl
  have hFc := va_free (wc := [(h0, .inr (15, fs0)), (v0_7, .inl (c_v0_7, 2010, .inl f_v0_7))]) hD hS hA [0, 2] rfl
  refine va_callv (va_runV (As := []) (rest := []) ⟨hx, hb, hml, hown, hts⟩ (c_X13_form_r0 l dC dI s.heap.size h0 fs0 v0_7 v0_10 c_v0_7 f_v0_7 v0_11 hl0 hf0_7 hf0_10 hf0_11 hi_0 hc_0) (cwV 0 hts gX13_name_X13_form rfl rfl rfl (by decide +kernel) ⟨Nat.le_of_ble_eq_true rfl, Nat.le_of_ble_eq_true rfl⟩) ⟨zPc_blind, va_recv hKc hPc (ci := 15) (q0 := 0) rfl rfl, fun U hU hW => zPc_at hPc hKc hDc hU hW⟩ rfl rfl hl.1 rfl (lv_room (Nat.le_of_ble_eq_true rfl)) dX13_name_23 ⟨Nat.le_of_ble_eq_true rfl, Nat.le_of_ble_eq_true rfl⟩) hS (fun q _ h => hFc q h) hFc (fun u t H1 locs ht hvm hw hB hz1 hk1 hS => ?_)
  obtain ⟨hP1, hK1, hD1⟩ := hB
  rw [ht] at hP1
  have hK1 := va_K.moved hvm.symm hK1
  obtain ⟨hP, hD⟩ := va_join (wr := [(v0_6, .inl (c_v0_6, 2010, .inl f_v0_6))]) (w1 := [(v0_7, .inl (c_v0_7, 2010, .inl f_v0_7)), (h0, .inr (15, ((fs0.set 11 (.int 2)).set 12 (.int (f_v0_7 (v0_10 : Int32).toNatClampNeg)))))]) hP hD [0, 2] [1] rfl rfl (by decide) (by decide) hk1 hFc hP1 hD1
  generalize H1 = H at hP hS ⊢
  have hP : va_P (dC, dI) vwCl [(v0_6, .inl (c_v0_6, 2010, .inl f_v0_6)), (v0_7, .inl (c_v0_7, 2010, .inl f_v0_7)), (h0, .inr (15, ((fs0.set 11 (.int 2)).set 12 (.int (f_v0_7 (v0_10 : Int32).toNatClampNeg)))))] H := hP
  have hD : va_D A [(v0_6, .inl (c_v0_6, 2010, .inl f_v0_6)), (v0_7, .inl (c_v0_7, 2010, .inl f_v0_7)), (h0, .inr (15, ((fs0.set 11 (.int 2)).set 12 (.int (f_v0_7 (v0_10 : Int32).toNatClampNeg)))))] := hD
  refine lv_iconst (v := 0) hx hb dX13_name_26 (by decide) ?_
  have hP9 := hP.sub (ws' := [(v0_6, .inl (c_v0_6, 2010, .inl f_v0_6)), (v0_7, .inl (c_v0_7, 2010, .inl f_v0_7)), (h0, .inr (15, ((fs0.set 11 (.int 2)).set 12 (.int (f_v0_7 (v0_10 : Int32).toNatClampNeg)))))]) [0, 1, 2] rfl
  have hD9 := hD.sub (ws' := [(v0_6, .inl (c_v0_6, 2010, .inl f_v0_6)), (v0_7, .inl (c_v0_7, 2010, .inl f_v0_7)), (h0, .inr (15, ((fs0.set 11 (.int 2)).set 12 (.int (f_v0_7 (v0_10 : Int32).toNatClampNeg)))))]) [0, 1, 2] (by decide) rfl
  have hK9 := hK.sub (tys' := [(c_v0_6, .int), (c_v0_7, .int)]) [0, 1] rfl
  exact W.iret (v := 0) hx hb hr (fun t ht hW => ⟨⟨0, (), rfl, rfl, (zB_mk (by rw [ht]; exact hP9) (va_K.moved hW.alike hK9) hD9)⟩, hS.F ht⟩) hS.2.2 dX13_name_27
set_option maxHeartbeats 4000000 in
set_option maxRecDepth 100000 in
/-- X13_name, a road -/
theorem c_X13_name_r2 (l : Launch) (dC : Nat → ClassId) (dI : Nat → Nat → Nat) (sz : Nat) (h0 : Nat) (fs0 : List Value) (v0_11 : Int32) (v0_6 : Nat) (v0_10 : Int32) (c_v0_6 : ClassId) (f_v0_6 : Nat → Int32) (v0_7 : Nat) (c_v0_7 : ClassId) (f_v0_7 : Nat → Int32) (hl0 : fs0.length = 196) (hf0_11 : fs0[11]? = some (.int v0_11)) (hf0_6 : fs0[6]? = some (.ref v0_6)) (hf0_10 : fs0[10]? = some (.int v0_10)) (hf0_7 : fs0[7]? = some (.ref v0_7)) (hi_0 : vp_in v0_10 2010) (hp_1 : ¬ v0_11 = 0) (hc_0 : v0_11 = 0) (hc_1 : ¬ (f_v0_6 (v0_10 : Int32).toNatClampNeg) = 1) : Met l yX13_name wsX13_name ({ frames := 2, cells := 0, slots := 0, locals := 42 }) (zPc dC dI sz [.ref h0] [(h0, .inr (15, fs0)), (v0_6, .inl (c_v0_6, 2010, .inl f_v0_6)), (v0_7, .inl (c_v0_7, 2010, .inl f_v0_7))] [(c_v0_6, .int), (c_v0_7, .int)]) (va_Qi (fun (r : Int32) (_ : Unit) => r = 0) (zB dC dI (fun _ => [(c_v0_6, .int), (c_v0_7, .int)]) (fun _ : Unit => [(v0_6, .inl (c_v0_6, 2010, .inl f_v0_6)), (v0_7, .inl (c_v0_7, 2010, .inl f_v0_7)), (h0, .inr (15, fs0))]) (va_A [(h0, .inr (15, fs0)), (v0_6, .inl (c_v0_6, 2010, .inl f_v0_6)), (v0_7, .inl (c_v0_7, 2010, .inl f_v0_7))] sz)) (va_A [(h0, .inr (15, fs0)), (v0_6, .inl (c_v0_6, 2010, .inl f_v0_6)), (v0_7, .inl (c_v0_7, 2010, .inl f_v0_7))] sz)) 0 0 (va_A [(h0, .inr (15, fs0)), (v0_6, .inl (c_v0_6, 2010, .inl f_v0_6)), (v0_7, .inl (c_v0_7, 2010, .inl f_v0_7))] sz) := by
  refine Met.ofW (cc := cX13_name) (maxL := 1) (ret := (some .int)) (by decide) rfl ?_
  intro p e s m args below meth c s₁ B hml hv
  obtain ⟨rfl, hsz, hP, hK, hD0⟩ := hv
  have hx := B.exec
  have hb := B.bytes
  have hr := B.returns
  have hts := atoms_spec (ws := wsX13_name) B.pre
  have hown : s.vm.findClass RX13 = some m.cls := findClass_of_methodNamed B.named
  have hlocks := B.notSynchronized
  subst hsz
  have hD := hD0.self (sz := s.heap.size)
  generalize hAe : va_A [(h0, .inr (15, fs0)), (v0_6, .inl (c_v0_6, 2010, .inl f_v0_6)), (v0_7, .inl (c_v0_7, 2010, .inl f_v0_7))] s.heap.size = A at hD ⊢
  have hA : ∀ q : Nat, s.heap.size ≤ q → A q := fun q h => by rw [← hAe]; exact Or.inr h
  have hS : va_S A s.heap s.heap [] := va_S.rf
  have hP : va_P (dC, dI) vwCl [(h0, .inr (15, fs0)), (v0_6, .inl (c_v0_6, 2010, .inl f_v0_6)), (v0_7, .inl (c_v0_7, 2010, .inl f_v0_7))] s.heap := hP
  have hl := lv_entry ([.ref h0]) (n := 1) (Nat.le_of_ble_eq_true rfl)
  rw [lg_entry_eq]
  generalize (lg_sl ([.ref h0]) ++ List.replicate (1 - (lg_sl ([.ref h0])).length) Slot.unset).toArray = ls at hl ⊢
  have hl : lv_has ls 1 [(0, .ref h0)] := hl
  refine lv_aload_n hx hb dX13_name_0 rfl (lv_at hl 0 rfl) ?_
  refine va_get (D := (dC, dI)) (ci := 15) (v := .int v0_11) (C := RX13) (T := TX13) (N := 196) hx hb hts iw_X13_name_X13 hown hK hP 0 rfl rfl 11 (by decide) (hts (.fieldLink RX13 392 "LiquidTongueModel" "bad" "I") (by decide +kernel)) (fun _ h9 => h9) hf0_11 dX13_name_1 ?_
  refine lv_if_eq (tgt := 9) hx hb dX13_name_4 (by decide) (fun c_1 => ?_) (fun c_1 => absurd hc_0 c_1)
  refine lv_aload_n hx hb dX13_name_9 rfl (lv_at hl 0 rfl) ?_
  refine va_get (D := (dC, dI)) (ci := 15) (v := .ref v0_6) (C := RX13) (T := TX13) (N := 196) hx hb hts iw_X13_name_X13 hown hK hP 0 rfl rfl 6 (by decide) (hts (.fieldLink RX13 19 "LiquidTongueModel" "wKind" "[I") (by decide +kernel)) (fun _ h9 => h9) hf0_6 dX13_name_10 ?_
  refine lv_aload_n hx hb dX13_name_13 rfl (lv_at hl 0 rfl) ?_
  refine va_get (D := (dC, dI)) (ci := 15) (v := .int v0_10) (C := RX13) (T := TX13) (N := 196) hx hb hts iw_X13_name_X13 hown hK hP 0 rfl rfl 10 (by decide) (hts (.fieldLink RX13 433 "LiquidTongueModel" "w" "I") (by decide +kernel)) (fun _ h9 => h9) hf0_10 dX13_name_14 ?_
  refine va_iald hx hb hK hP 1 0 rfl rfl hi_0 dX13_name_17 ?_
  refine lv_iconst (v := 1) hx hb dX13_name_18 (by decide) ?_
  refine lv_icmp_eq (tgt := 28) hx hb dX13_name_19 (by decide) (fun c_2 => absurd c_2 hc_1) (fun c_2 => ?_)
  refine lv_aload_n hx hb dX13_name_22 rfl (lv_at hl 0 rfl) ?_
  have hPc := hP.sub (ws' := [(h0, .inr (15, fs0)), (v0_7, .inl (c_v0_7, 2010, .inl f_v0_7))]) [0, 2] rfl
  have hDc := hD.sub (ws' := [(h0, .inr (15, fs0)), (v0_7, .inl (c_v0_7, 2010, .inl f_v0_7))]) [0, 2] (by decide) rfl
  have hKc := hK.sub (tys' := [(c_v0_7, .int)]) [1] rfl
  have hFc := va_free (wc := [(h0, .inr (15, fs0)), (v0_7, .inl (c_v0_7, 2010, .inl f_v0_7))]) hD hS hA [0, 2] rfl
  refine va_callv (va_runV (As := []) (rest := []) ⟨hx, hb, hml, hown, hts⟩ (c_X13_form_r1 l dC dI s.heap.size h0 fs0 v0_7 v0_10 c_v0_7 f_v0_7 v0_11 hl0 hf0_7 hf0_10 hf0_11 hi_0 hp_1) (cwV 0 hts gX13_name_X13_form rfl rfl rfl (by decide +kernel) ⟨Nat.le_of_ble_eq_true rfl, Nat.le_of_ble_eq_true rfl⟩) ⟨zPc_blind, va_recv hKc hPc (ci := 15) (q0 := 0) rfl rfl, fun U hU hW => zPc_at hPc hKc hDc hU hW⟩ rfl rfl hl.1 rfl (lv_room (Nat.le_of_ble_eq_true rfl)) dX13_name_23 ⟨Nat.le_of_ble_eq_true rfl, Nat.le_of_ble_eq_true rfl⟩) hS (fun q _ h => hFc q h) hFc (fun u t H1 locs ht hvm hw hB hz1 hk1 hS => ?_)
  obtain ⟨hP1, hK1, hD1⟩ := hB
  rw [ht] at hP1
  have hK1 := va_K.moved hvm.symm hK1
  obtain ⟨hP, hD⟩ := va_join (wr := [(v0_6, .inl (c_v0_6, 2010, .inl f_v0_6))]) (w1 := [(v0_7, .inl (c_v0_7, 2010, .inl f_v0_7)), (h0, .inr (15, fs0))]) hP hD [0, 2] [1] rfl rfl (by decide) (by decide) hk1 hFc hP1 hD1
  generalize H1 = H at hP hS ⊢
  have hP : va_P (dC, dI) vwCl [(v0_6, .inl (c_v0_6, 2010, .inl f_v0_6)), (v0_7, .inl (c_v0_7, 2010, .inl f_v0_7)), (h0, .inr (15, fs0))] H := hP
  have hD : va_D A [(v0_6, .inl (c_v0_6, 2010, .inl f_v0_6)), (v0_7, .inl (c_v0_7, 2010, .inl f_v0_7)), (h0, .inr (15, fs0))] := hD
  refine lv_iconst (v := 0) hx hb dX13_name_26 (by decide) ?_
  have hP9 := hP.sub (ws' := [(v0_6, .inl (c_v0_6, 2010, .inl f_v0_6)), (v0_7, .inl (c_v0_7, 2010, .inl f_v0_7)), (h0, .inr (15, fs0))]) [0, 1, 2] rfl
  have hD9 := hD.sub (ws' := [(v0_6, .inl (c_v0_6, 2010, .inl f_v0_6)), (v0_7, .inl (c_v0_7, 2010, .inl f_v0_7)), (h0, .inr (15, fs0))]) [0, 1, 2] (by decide) rfl
  have hK9 := hK.sub (tys' := [(c_v0_6, .int), (c_v0_7, .int)]) [0, 1] rfl
  exact W.iret (v := 0) hx hb hr (fun t ht hW => ⟨⟨0, (), rfl, rfl, (zB_mk (by rw [ht]; exact hP9) (va_K.moved hW.alike hK9) hD9)⟩, hS.F ht⟩) hS.2.2 dX13_name_27
set_option maxHeartbeats 4000000 in
set_option maxRecDepth 100000 in
/-- X13_name, a road -/
theorem c_X13_name_r3 (l : Launch) (dC : Nat → ClassId) (dI : Nat → Nat → Nat) (sz : Nat) (h0 : Nat) (fs0 : List Value) (v0_11 : Int32) (hl0 : fs0.length = 196) (hf0_11 : fs0[11]? = some (.int v0_11)) (hc_0 : ¬ v0_11 = 0) : Met l yX13_name wsX13_name ({ frames := 0, cells := 0, slots := 0, locals := 0 }) (zPc dC dI sz [.ref h0] [(h0, .inr (15, fs0))] []) (va_Qi (fun (r : Int32) (_ : Unit) => r = 0) (zB dC dI (fun _ => []) (fun _ : Unit => [(h0, .inr (15, fs0))]) (va_A [(h0, .inr (15, fs0))] sz)) (va_A [(h0, .inr (15, fs0))] sz)) 0 0 (va_A [(h0, .inr (15, fs0))] sz) := by
  refine Met.ofW (cc := cX13_name) (maxL := 1) (ret := (some .int)) (by decide) rfl ?_
  intro p e s m args below meth c s₁ B hml hv
  obtain ⟨rfl, hsz, hP, hK, hD0⟩ := hv
  have hx := B.exec
  have hb := B.bytes
  have hr := B.returns
  have hts := atoms_spec (ws := wsX13_name) B.pre
  have hown : s.vm.findClass RX13 = some m.cls := findClass_of_methodNamed B.named
  have hlocks := B.notSynchronized
  subst hsz
  have hD := hD0.self (sz := s.heap.size)
  generalize hAe : va_A [(h0, .inr (15, fs0))] s.heap.size = A at hD ⊢
  have hA : ∀ q : Nat, s.heap.size ≤ q → A q := fun q h => by rw [← hAe]; exact Or.inr h
  have hS : va_S A s.heap s.heap [] := va_S.rf
  have hP : va_P (dC, dI) vwCl [(h0, .inr (15, fs0))] s.heap := hP
  have hl := lv_entry ([.ref h0]) (n := 1) (Nat.le_of_ble_eq_true rfl)
  rw [lg_entry_eq]
  generalize (lg_sl ([.ref h0]) ++ List.replicate (1 - (lg_sl ([.ref h0])).length) Slot.unset).toArray = ls at hl ⊢
  have hl : lv_has ls 1 [(0, .ref h0)] := hl
  refine lv_aload_n hx hb dX13_name_0 rfl (lv_at hl 0 rfl) ?_
  refine va_get (D := (dC, dI)) (ci := 15) (v := .int v0_11) (C := RX13) (T := TX13) (N := 196) hx hb hts iw_X13_name_X13 hown hK hP 0 rfl rfl 11 (by decide) (hts (.fieldLink RX13 392 "LiquidTongueModel" "bad" "I") (by decide +kernel)) (fun _ h9 => h9) hf0_11 dX13_name_1 ?_
  refine lv_if_eq (tgt := 9) hx hb dX13_name_4 (by decide) (fun c_1 => absurd c_1 hc_0) (fun c_1 => ?_)
  refine lv_iconst (v := 0) hx hb dX13_name_7 (by decide) ?_
  have hP9 := hP.sub (ws' := [(h0, .inr (15, fs0))]) [0] rfl
  have hD9 := hD.sub (ws' := [(h0, .inr (15, fs0))]) [0] (by decide) rfl
  have hK9 := hK.sub (tys' := []) [] rfl
  exact W.iret (v := 0) hx hb hr (fun t ht hW => ⟨⟨0, (), rfl, rfl, (zB_mk (by rw [ht]; exact hP9) (va_K.moved hW.alike hK9) hD9)⟩, hS.F ht⟩) hS.2.2 dX13_name_8
theorem iw_X7_fail_X7 : ∀ w ∈ wsX70, w ∈ wsX7_fail := fun w h => List.mem_cons_of_mem _ (List.mem_append_left _ (List.mem_append_right _ h))
set_option maxHeartbeats 4000000 in
set_option maxRecDepth 100000 in
/-- X7_fail, a road -/
theorem c_X7_fail_r0 (l : Launch) (dC : Nat → ClassId) (dI : Nat → Nat → Nat) (sz : Nat) (h0 : Nat) (fs0 : List Value) (v0_15 : Int32) (hl0 : fs0.length = 18) (hf0_15 : fs0[15]? = some (.int v0_15)) (hc_0 : 0 ≤ v0_15) : Met l yX7_fail wsX7_fail ({ frames := 0, cells := 0, slots := 0, locals := 0 }) (zPc dC dI sz [.ref h0] [(h0, .inr (9, fs0))] []) (va_Qv (fun _ : Unit => True) (zB dC dI (fun _ => []) (fun _ : Unit => [(h0, .inr (9, fs0))]) (va_A [(h0, .inr (9, fs0))] sz)) (va_A [(h0, .inr (9, fs0))] sz)) 0 0 (va_A [(h0, .inr (9, fs0))] sz) := by
  refine Met.ofW (cc := cX7_fail) (maxL := 1) (ret := none) (by decide) rfl ?_
  intro p e s m args below meth c s₁ B hml hv
  obtain ⟨rfl, hsz, hP, hK, hD0⟩ := hv
  have hx := B.exec
  have hb := B.bytes
  have hr := B.returns
  have hts := atoms_spec (ws := wsX7_fail) B.pre
  have hown : s.vm.findClass RX7 = some m.cls := findClass_of_methodNamed B.named
  have hlocks := B.notSynchronized
  subst hsz
  have hD := hD0.self (sz := s.heap.size)
  generalize hAe : va_A [(h0, .inr (9, fs0))] s.heap.size = A at hD ⊢
  have hA : ∀ q : Nat, s.heap.size ≤ q → A q := fun q h => by rw [← hAe]; exact Or.inr h
  have hS : va_S A s.heap s.heap [] := va_S.rf
  have hP : va_P (dC, dI) vwCl [(h0, .inr (9, fs0))] s.heap := hP
  have hl := lv_entry ([.ref h0]) (n := 1) (Nat.le_of_ble_eq_true rfl)
  rw [lg_entry_eq]
  generalize (lg_sl ([.ref h0]) ++ List.replicate (1 - (lg_sl ([.ref h0])).length) Slot.unset).toArray = ls at hl ⊢
  have hl : lv_has ls 1 [(0, .ref h0)] := hl
  refine lv_aload_n hx hb dX7_fail_0 rfl (lv_at hl 0 rfl) ?_
  refine va_get (D := (dC, dI)) (ci := 9) (v := .int v0_15) (C := RX7) (T := TX7) (N := 18) hx hb hts iw_X7_fail_X7 hown hK hP 0 rfl rfl 15 (by decide) (hts (.fieldLink RX7 40 "LiquidTongue$Parser" "fault" "I") (by decide +kernel)) (fun _ h9 => h9) hf0_15 dX7_fail_1 ?_
  refine lv_if_ge (tgt := 15) hx hb dX7_fail_4 (by decide) (fun c_1 => ?_) (fun c_1 => absurd hc_0 c_1)
  have hP9 := hP.sub (ws' := [(h0, .inr (9, fs0))]) [0] rfl
  have hD9 := hD.sub (ws' := [(h0, .inr (9, fs0))]) [0] (by decide) rfl
  have hK9 := hK.sub (tys' := []) [] rfl
  exact W.vret hx hb hr (fun t ht hW => ⟨⟨(), rfl, trivial, (zB_mk (by rw [ht]; exact hP9) (va_K.moved hW.alike hK9) hD9)⟩, hS.F ht⟩) hS.2.2 dX7_fail_15
set_option maxHeartbeats 4000000 in
set_option maxRecDepth 100000 in
/-- X7_fail, a road -/
theorem c_X7_fail_r1 (l : Launch) (dC : Nat → ClassId) (dI : Nat → Nat → Nat) (sz : Nat) (h0 : Nat) (fs0 : List Value) (v0_15 : Int32) (v0_0 : Nat) (fs1 : List Value) (v1_2 : Nat) (v0_11 : Int32) (n_v1_2 : Nat) (c_v1_2 : ClassId) (f_v1_2 : Nat → Int32) (hl0 : fs0.length = 18) (hf0_15 : fs0[15]? = some (.int v0_15)) (hf0_0 : fs0[0]? = some (.ref v0_0)) (hl1 : fs1.length = 6) (hf1_2 : fs1[2]? = some (.ref v1_2)) (hf0_11 : fs0[11]? = some (.int v0_11)) (hp_0 : vp_in v0_11 n_v1_2) (hc_0 : ¬ 0 ≤ v0_15) : Met l yX7_fail wsX7_fail ({ frames := 1, cells := 0, slots := 0, locals := 20 }) (zPc dC dI sz [.ref h0] [(h0, .inr (9, fs0)), (v0_0, .inr (13, fs1)), (v1_2, .inl (c_v1_2, n_v1_2, .inl f_v1_2))] [(c_v1_2, .int)]) (va_Qv (fun _ : Unit => True) (zB dC dI (fun _ => [(c_v1_2, .int)]) (fun _ : Unit => [(h0, .inr (9, (fs0.set 15 (.int (f_v1_2 (v0_11 : Int32).toNatClampNeg))))), (v0_0, .inr (13, fs1)), (v1_2, .inl (c_v1_2, n_v1_2, .inl f_v1_2))]) (va_A [(h0, .inr (9, fs0)), (v0_0, .inr (13, fs1)), (v1_2, .inl (c_v1_2, n_v1_2, .inl f_v1_2))] sz)) (va_A [(h0, .inr (9, fs0)), (v0_0, .inr (13, fs1)), (v1_2, .inl (c_v1_2, n_v1_2, .inl f_v1_2))] sz)) 0 0 (va_A [(h0, .inr (9, fs0)), (v0_0, .inr (13, fs1)), (v1_2, .inl (c_v1_2, n_v1_2, .inl f_v1_2))] sz) := by
  refine Met.ofW (cc := cX7_fail) (maxL := 1) (ret := none) (by decide) rfl ?_
  intro p e s m args below meth c s₁ B hml hv
  obtain ⟨rfl, hsz, hP, hK, hD0⟩ := hv
  have hx := B.exec
  have hb := B.bytes
  have hr := B.returns
  have hts := atoms_spec (ws := wsX7_fail) B.pre
  have hown : s.vm.findClass RX7 = some m.cls := findClass_of_methodNamed B.named
  have hlocks := B.notSynchronized
  subst hsz
  have hD := hD0.self (sz := s.heap.size)
  generalize hAe : va_A [(h0, .inr (9, fs0)), (v0_0, .inr (13, fs1)), (v1_2, .inl (c_v1_2, n_v1_2, .inl f_v1_2))] s.heap.size = A at hD ⊢
  have hA : ∀ q : Nat, s.heap.size ≤ q → A q := fun q h => by rw [← hAe]; exact Or.inr h
  have hS : va_S A s.heap s.heap [] := va_S.rf
  have hP : va_P (dC, dI) vwCl [(h0, .inr (9, fs0)), (v0_0, .inr (13, fs1)), (v1_2, .inl (c_v1_2, n_v1_2, .inl f_v1_2))] s.heap := hP
  have hl := lv_entry ([.ref h0]) (n := 1) (Nat.le_of_ble_eq_true rfl)
  rw [lg_entry_eq]
  generalize (lg_sl ([.ref h0]) ++ List.replicate (1 - (lg_sl ([.ref h0])).length) Slot.unset).toArray = ls at hl ⊢
  have hl : lv_has ls 1 [(0, .ref h0)] := hl
  refine lv_aload_n hx hb dX7_fail_0 rfl (lv_at hl 0 rfl) ?_
  refine va_get (D := (dC, dI)) (ci := 9) (v := .int v0_15) (C := RX7) (T := TX7) (N := 18) hx hb hts iw_X7_fail_X7 hown hK hP 0 rfl rfl 15 (by decide) (hts (.fieldLink RX7 40 "LiquidTongue$Parser" "fault" "I") (by decide +kernel)) (fun _ h9 => h9) hf0_15 dX7_fail_1 ?_
  refine lv_if_ge (tgt := 15) hx hb dX7_fail_4 (by decide) (fun c_1 => absurd c_1 hc_0) (fun c_1 => ?_)
  refine lv_aload_n hx hb dX7_fail_7 rfl (lv_at hl 0 rfl) ?_
  refine lv_aload_n hx hb dX7_fail_8 rfl (lv_at hl 0 rfl) ?_
  have hPc := hP.sub (ws' := [(h0, .inr (9, fs0)), (v0_0, .inr (13, fs1)), (v1_2, .inl (c_v1_2, n_v1_2, .inl f_v1_2))]) [0, 1, 2] rfl
  have hDc := hD.sub (ws' := [(h0, .inr (9, fs0)), (v0_0, .inr (13, fs1)), (v1_2, .inl (c_v1_2, n_v1_2, .inl f_v1_2))]) [0, 1, 2] (by decide) rfl
  have hKc := hK.sub (tys' := [(c_v1_2, .int)]) [0] rfl
  have hFc := va_free (wc := [(h0, .inr (9, fs0)), (v0_0, .inr (13, fs1)), (v1_2, .inl (c_v1_2, n_v1_2, .inl f_v1_2))]) hD hS hA [0, 1, 2] rfl
  refine va_calli (va_runV (As := []) (rest := [.ref h0]) ⟨hx, hb, hml, hown, hts⟩ (c_X7_here_r0 l dC dI s.heap.size h0 fs0 v0_0 fs1 v1_2 v0_11 n_v1_2 c_v1_2 f_v1_2 hl0 hf0_0 hl1 hf1_2 hf0_11 hp_0) (cwV 0 hts gX7_fail_X7_here rfl rfl rfl (by decide +kernel) ⟨Nat.le_of_ble_eq_true rfl, Nat.le_of_ble_eq_true rfl⟩) ⟨zPc_blind, va_recv hKc hPc (ci := 9) (q0 := 0) rfl rfl, fun U hU hW => zPc_at hPc hKc hDc hU hW⟩ rfl rfl hl.1 rfl (lv_room (Nat.le_of_ble_eq_true rfl)) dX7_fail_9 ⟨Nat.le_of_ble_eq_true rfl, Nat.le_of_ble_eq_true rfl⟩) hS (fun q _ h => hFc q h) hFc (fun r_1 u t H1 locs ht hvm hw hB hz1 hk1 hS => ?_)
  obtain ⟨hP1, hK1, hD1⟩ := hB
  subst hw
  rw [ht] at hP1
  have hK1 := va_K.moved hvm.symm hK1
  obtain ⟨hP, hD⟩ := va_join (wr := []) (w1 := [(h0, .inr (9, fs0)), (v0_0, .inr (13, fs1)), (v1_2, .inl (c_v1_2, n_v1_2, .inl f_v1_2))]) hP hD [0, 1, 2] [] rfl rfl (by decide) (by decide) hk1 hFc hP1 hD1
  generalize H1 = H at hP hS ⊢
  have hP : va_P (dC, dI) vwCl [(h0, .inr (9, fs0)), (v0_0, .inr (13, fs1)), (v1_2, .inl (c_v1_2, n_v1_2, .inl f_v1_2))] H := hP
  have hD : va_D A [(h0, .inr (9, fs0)), (v0_0, .inr (13, fs1)), (v1_2, .inl (c_v1_2, n_v1_2, .inl f_v1_2))] := hD
  refine va_put (D := (dC, dI)) (ci := 9) (v := .int (f_v1_2 (v0_11 : Int32).toNatClampNeg)) (ty := .int) (C := RX7) (T := TX7) (N := 18) hx hb hts iw_X7_fail_X7 tyX7 tyX7_ok nmX7 hown hK hP hD hS 0 rfl rfl 15 (by decide) (hts (.fieldLink RX7 40 "LiquidTongue$Parser" "fault" "I") (by decide +kernel)) (fun _ h9 => h9) rfl (by decide +kernel) rfl rfl (zs_lt hl0 (by decide)) dX7_fail_12 (fun H locs hP hD hS => ?_)
  have hP : va_P (dC, dI) vwCl [(h0, .inr (9, (fs0.set 15 (.int (f_v1_2 (v0_11 : Int32).toNatClampNeg))))), (v0_0, .inr (13, fs1)), (v1_2, .inl (c_v1_2, n_v1_2, .inl f_v1_2))] H := hP
  have hD : va_D A [(h0, .inr (9, (fs0.set 15 (.int (f_v1_2 (v0_11 : Int32).toNatClampNeg))))), (v0_0, .inr (13, fs1)), (v1_2, .inl (c_v1_2, n_v1_2, .inl f_v1_2))] := hD
  have hP9 := hP.sub (ws' := [(h0, .inr (9, (fs0.set 15 (.int (f_v1_2 (v0_11 : Int32).toNatClampNeg))))), (v0_0, .inr (13, fs1)), (v1_2, .inl (c_v1_2, n_v1_2, .inl f_v1_2))]) [0, 1, 2] rfl
  have hD9 := hD.sub (ws' := [(h0, .inr (9, (fs0.set 15 (.int (f_v1_2 (v0_11 : Int32).toNatClampNeg))))), (v0_0, .inr (13, fs1)), (v1_2, .inl (c_v1_2, n_v1_2, .inl f_v1_2))]) [0, 1, 2] (by decide) rfl
  have hK9 := hK.sub (tys' := [(c_v1_2, .int)]) [0] rfl
  exact W.vret hx hb hr (fun t ht hW => ⟨⟨(), rfl, trivial, (zB_mk (by rw [ht]; exact hP9) (va_K.moved hW.alike hK9) hD9)⟩, hS.F ht⟩) hS.2.2 dX7_fail_15
set_option maxHeartbeats 4000000 in
set_option maxRecDepth 100000 in
/-- X7_expect, a road -/
theorem c_X7_expect_r0 (l : Launch) (dC : Nat → ClassId) (dI : Nat → Nat → Nat) (sz : Nat) (h0 : Nat) (fs0 : List Value) (p0 : Int32) (v0_15 : Int32) (v0_0 : Nat) (fs1 : List Value) (v1_1 : Nat) (v0_11 : Int32) (n_v1_1 : Nat) (c_v1_1 : ClassId) (f_v1_1 : Nat → Int32) (v1_2 : Nat) (n_v1_2 : Nat) (c_v1_2 : ClassId) (f_v1_2 : Nat → Int32) (hl0 : fs0.length = 18) (hf0_15 : fs0[15]? = some (.int v0_15)) (hf0_0 : fs0[0]? = some (.ref v0_0)) (hl1 : fs1.length = 6) (hf1_1 : fs1[1]? = some (.ref v1_1)) (hf0_11 : fs0[11]? = some (.int v0_11)) (hf1_2 : fs1[2]? = some (.ref v1_2)) (hp_0 : vp_in v0_11 n_v1_1) (hp_1 : v0_15 < 0) (hp_2 : 0 ≤ v0_15) (hc_0 : ¬ (f_v1_1 (v0_11 : Int32).toNatClampNeg) = p0) : Met l yX7_expect wsX7_expect ({ frames := 1, cells := 0, slots := 0, locals := 20 }) (zPc dC dI sz [.ref h0, .int p0] [(h0, .inr (9, fs0)), (v0_0, .inr (13, fs1)), (v1_1, .inl (c_v1_1, n_v1_1, .inl f_v1_1)), (v1_2, .inl (c_v1_2, n_v1_2, .inl f_v1_2))] [(c_v1_1, .int), (c_v1_2, .int)]) (va_Qv (fun _ : Unit => True) (zB dC dI (fun _ => [(c_v1_1, .int), (c_v1_2, .int)]) (fun _ : Unit => [(v1_2, .inl (c_v1_2, n_v1_2, .inl f_v1_2)), (v0_0, .inr (13, fs1)), (v1_1, .inl (c_v1_1, n_v1_1, .inl f_v1_1)), (h0, .inr (9, fs0))]) (va_A [(h0, .inr (9, fs0)), (v0_0, .inr (13, fs1)), (v1_1, .inl (c_v1_1, n_v1_1, .inl f_v1_1)), (v1_2, .inl (c_v1_2, n_v1_2, .inl f_v1_2))] sz)) (va_A [(h0, .inr (9, fs0)), (v0_0, .inr (13, fs1)), (v1_1, .inl (c_v1_1, n_v1_1, .inl f_v1_1)), (v1_2, .inl (c_v1_2, n_v1_2, .inl f_v1_2))] sz)) 0 0 (va_A [(h0, .inr (9, fs0)), (v0_0, .inr (13, fs1)), (v1_1, .inl (c_v1_1, n_v1_1, .inl f_v1_1)), (v1_2, .inl (c_v1_2, n_v1_2, .inl f_v1_2))] sz) := by
  refine Met.ofW (cc := cX7_expect) (maxL := 2) (ret := none) (by decide) rfl ?_
  intro p e s m args below meth c s₁ B hml hv
  obtain ⟨rfl, hsz, hP, hK, hD0⟩ := hv
  have hx := B.exec
  have hb := B.bytes
  have hr := B.returns
  have hts := atoms_spec (ws := wsX7_expect) B.pre
  have hown : s.vm.findClass RX7 = some m.cls := findClass_of_methodNamed B.named
  have hlocks := B.notSynchronized
  subst hsz
  have hD := hD0.self (sz := s.heap.size)
  generalize hAe : va_A [(h0, .inr (9, fs0)), (v0_0, .inr (13, fs1)), (v1_1, .inl (c_v1_1, n_v1_1, .inl f_v1_1)), (v1_2, .inl (c_v1_2, n_v1_2, .inl f_v1_2))] s.heap.size = A at hD ⊢
  have hA : ∀ q : Nat, s.heap.size ≤ q → A q := fun q h => by rw [← hAe]; exact Or.inr h
  have hS : va_S A s.heap s.heap [] := va_S.rf
  have hP : va_P (dC, dI) vwCl [(h0, .inr (9, fs0)), (v0_0, .inr (13, fs1)), (v1_1, .inl (c_v1_1, n_v1_1, .inl f_v1_1)), (v1_2, .inl (c_v1_2, n_v1_2, .inl f_v1_2))] s.heap := hP
  have hl := lv_entry ([.ref h0, .int p0]) (n := 2) (Nat.le_of_ble_eq_true rfl)
  rw [lg_entry_eq]
  generalize (lg_sl ([.ref h0, .int p0]) ++ List.replicate (2 - (lg_sl ([.ref h0, .int p0])).length) Slot.unset).toArray = ls at hl ⊢
  have hl : lv_has ls 2 [(0, .ref h0), (1, .int p0)] := hl
  refine lv_aload_n hx hb dX7_expect_0 rfl (lv_at hl 0 rfl) ?_
  have hPc := hP.sub (ws' := [(h0, .inr (9, fs0)), (v0_0, .inr (13, fs1)), (v1_1, .inl (c_v1_1, n_v1_1, .inl f_v1_1))]) [0, 1, 2] rfl
  have hDc := hD.sub (ws' := [(h0, .inr (9, fs0)), (v0_0, .inr (13, fs1)), (v1_1, .inl (c_v1_1, n_v1_1, .inl f_v1_1))]) [0, 1, 2] (by decide) rfl
  have hKc := hK.sub (tys' := [(c_v1_1, .int)]) [0] rfl
  have hFc := va_free (wc := [(h0, .inr (9, fs0)), (v0_0, .inr (13, fs1)), (v1_1, .inl (c_v1_1, n_v1_1, .inl f_v1_1))]) hD hS hA [0, 1, 2] rfl
  refine va_calli (va_runV (As := []) (rest := []) ⟨hx, hb, hml, hown, hts⟩ (c_X7_kind_r0 l dC dI s.heap.size h0 fs0 v0_15 v0_0 fs1 v1_1 v0_11 n_v1_1 c_v1_1 f_v1_1 hl0 hf0_15 hf0_0 hl1 hf1_1 hf0_11 hp_0 hp_1) (cwV 0 hts gX7_expect_X7_kind rfl rfl rfl (by decide +kernel) ⟨Nat.le_of_ble_eq_true rfl, Nat.le_of_ble_eq_true rfl⟩) ⟨zPc_blind, va_recv hKc hPc (ci := 9) (q0 := 0) rfl rfl, fun U hU hW => zPc_at hPc hKc hDc hU hW⟩ rfl rfl hl.1 rfl (lv_room (Nat.le_of_ble_eq_true rfl)) dX7_expect_1 ⟨Nat.le_of_ble_eq_true rfl, Nat.le_of_ble_eq_true rfl⟩) hS (fun q _ h => hFc q h) hFc (fun r_1 u t H1 locs ht hvm hw hB hz1 hk1 hS => ?_)
  obtain ⟨hP1, hK1, hD1⟩ := hB
  subst hw
  rw [ht] at hP1
  have hK1 := va_K.moved hvm.symm hK1
  obtain ⟨hP, hD⟩ := va_join (wr := [(v1_2, .inl (c_v1_2, n_v1_2, .inl f_v1_2))]) (w1 := [(h0, .inr (9, fs0)), (v0_0, .inr (13, fs1)), (v1_1, .inl (c_v1_1, n_v1_1, .inl f_v1_1))]) hP hD [0, 1, 2] [3] rfl rfl (by decide) (by decide) hk1 hFc hP1 hD1
  generalize H1 = H at hP hS ⊢
  have hP : va_P (dC, dI) vwCl [(v1_2, .inl (c_v1_2, n_v1_2, .inl f_v1_2)), (h0, .inr (9, fs0)), (v0_0, .inr (13, fs1)), (v1_1, .inl (c_v1_1, n_v1_1, .inl f_v1_1))] H := hP
  have hD : va_D A [(v1_2, .inl (c_v1_2, n_v1_2, .inl f_v1_2)), (h0, .inr (9, fs0)), (v0_0, .inr (13, fs1)), (v1_1, .inl (c_v1_1, n_v1_1, .inl f_v1_1))] := hD
  refine lv_iload_n hx hb dX7_expect_4 rfl (lv_at hl 1 rfl) ?_
  refine lv_icmp_ne (tgt := 15) hx hb dX7_expect_5 (by decide) (fun c_1 => ?_) (fun c_1 => absurd c_1 hc_0)
  refine lv_aload_n hx hb dX7_expect_15 rfl (lv_at hl 0 rfl) ?_
  have hPc := hP.sub (ws' := [(h0, .inr (9, fs0))]) [1] rfl
  have hDc := hD.sub (ws' := [(h0, .inr (9, fs0))]) [1] (by decide) rfl
  have hKc := hK.sub (tys' := []) [] rfl
  have hFc := va_free (wc := [(h0, .inr (9, fs0))]) hD hS hA [1] rfl
  refine va_callv (va_runV (As := []) (rest := []) ⟨hx, hb, hml, hown, hts⟩ (c_X7_fail_r0 l dC dI H.size h0 fs0 v0_15 hl0 hf0_15 hp_2) (cwV 0 hts gX7_expect_X7_fail rfl rfl rfl (by decide +kernel) ⟨Nat.le_of_ble_eq_true rfl, Nat.le_of_ble_eq_true rfl⟩) ⟨zPc_blind, va_recv hKc hPc (ci := 9) (q0 := 0) rfl rfl, fun U hU hW => zPc_at hPc hKc hDc hU hW⟩ rfl rfl hl.1 rfl (lv_room (Nat.le_of_ble_eq_true rfl)) dX7_expect_16 ⟨Nat.le_of_ble_eq_true rfl, Nat.le_of_ble_eq_true rfl⟩) hS (fun q _ h => hFc q h) hFc (fun u t H1 locs ht hvm hw hB hz1 hk1 hS => ?_)
  obtain ⟨hP1, hK1, hD1⟩ := hB
  rw [ht] at hP1
  have hK1 := va_K.moved hvm.symm hK1
  obtain ⟨hP, hD⟩ := va_join (wr := [(v1_2, .inl (c_v1_2, n_v1_2, .inl f_v1_2)), (v0_0, .inr (13, fs1)), (v1_1, .inl (c_v1_1, n_v1_1, .inl f_v1_1))]) (w1 := [(h0, .inr (9, fs0))]) hP hD [1] [0, 2, 3] rfl rfl (by decide) (by decide) hk1 hFc hP1 hD1
  generalize H1 = H at hP hS ⊢
  have hP : va_P (dC, dI) vwCl [(v1_2, .inl (c_v1_2, n_v1_2, .inl f_v1_2)), (v0_0, .inr (13, fs1)), (v1_1, .inl (c_v1_1, n_v1_1, .inl f_v1_1)), (h0, .inr (9, fs0))] H := hP
  have hD : va_D A [(v1_2, .inl (c_v1_2, n_v1_2, .inl f_v1_2)), (v0_0, .inr (13, fs1)), (v1_1, .inl (c_v1_1, n_v1_1, .inl f_v1_1)), (h0, .inr (9, fs0))] := hD
  have hP9 := hP.sub (ws' := [(v1_2, .inl (c_v1_2, n_v1_2, .inl f_v1_2)), (v0_0, .inr (13, fs1)), (v1_1, .inl (c_v1_1, n_v1_1, .inl f_v1_1)), (h0, .inr (9, fs0))]) [0, 1, 2, 3] rfl
  have hD9 := hD.sub (ws' := [(v1_2, .inl (c_v1_2, n_v1_2, .inl f_v1_2)), (v0_0, .inr (13, fs1)), (v1_1, .inl (c_v1_1, n_v1_1, .inl f_v1_1)), (h0, .inr (9, fs0))]) [0, 1, 2, 3] (by decide) rfl
  have hK9 := hK.sub (tys' := [(c_v1_1, .int), (c_v1_2, .int)]) [0, 1] rfl
  exact W.vret hx hb hr (fun t ht hW => ⟨⟨(), rfl, trivial, (zB_mk (by rw [ht]; exact hP9) (va_K.moved hW.alike hK9) hD9)⟩, hS.F ht⟩) hS.2.2 dX7_expect_19
set_option maxHeartbeats 4000000 in
set_option maxRecDepth 100000 in
/-- X7_expect, a road -/
theorem c_X7_expect_r1 (l : Launch) (dC : Nat → ClassId) (dI : Nat → Nat → Nat) (sz : Nat) (h0 : Nat) (fs0 : List Value) (p0 : Int32) (v0_15 : Int32) (v0_0 : Nat) (fs1 : List Value) (v1_1 : Nat) (v0_11 : Int32) (n_v1_1 : Nat) (c_v1_1 : ClassId) (f_v1_1 : Nat → Int32) (v1_2 : Nat) (n_v1_2 : Nat) (c_v1_2 : ClassId) (f_v1_2 : Nat → Int32) (hl0 : fs0.length = 18) (hf0_15 : fs0[15]? = some (.int v0_15)) (hf0_0 : fs0[0]? = some (.ref v0_0)) (hl1 : fs1.length = 6) (hf1_1 : fs1[1]? = some (.ref v1_1)) (hf0_11 : fs0[11]? = some (.int v0_11)) (hf1_2 : fs1[2]? = some (.ref v1_2)) (hp_0 : vp_in v0_11 n_v1_1) (hp_1 : v0_15 < 0) (hp_2 : vp_in v0_11 n_v1_2) (hp_3 : ¬ 0 ≤ v0_15) (hc_0 : ¬ (f_v1_1 (v0_11 : Int32).toNatClampNeg) = p0) : Met l yX7_expect wsX7_expect ({ frames := 2, cells := 0, slots := 0, locals := 40 }) (zPc dC dI sz [.ref h0, .int p0] [(h0, .inr (9, fs0)), (v0_0, .inr (13, fs1)), (v1_1, .inl (c_v1_1, n_v1_1, .inl f_v1_1)), (v1_2, .inl (c_v1_2, n_v1_2, .inl f_v1_2))] [(c_v1_1, .int), (c_v1_2, .int)]) (va_Qv (fun _ : Unit => True) (zB dC dI (fun _ => [(c_v1_1, .int), (c_v1_2, .int)]) (fun _ : Unit => [(v1_1, .inl (c_v1_1, n_v1_1, .inl f_v1_1)), (h0, .inr (9, (fs0.set 15 (.int (f_v1_2 (v0_11 : Int32).toNatClampNeg))))), (v0_0, .inr (13, fs1)), (v1_2, .inl (c_v1_2, n_v1_2, .inl f_v1_2))]) (va_A [(h0, .inr (9, fs0)), (v0_0, .inr (13, fs1)), (v1_1, .inl (c_v1_1, n_v1_1, .inl f_v1_1)), (v1_2, .inl (c_v1_2, n_v1_2, .inl f_v1_2))] sz)) (va_A [(h0, .inr (9, fs0)), (v0_0, .inr (13, fs1)), (v1_1, .inl (c_v1_1, n_v1_1, .inl f_v1_1)), (v1_2, .inl (c_v1_2, n_v1_2, .inl f_v1_2))] sz)) 0 0 (va_A [(h0, .inr (9, fs0)), (v0_0, .inr (13, fs1)), (v1_1, .inl (c_v1_1, n_v1_1, .inl f_v1_1)), (v1_2, .inl (c_v1_2, n_v1_2, .inl f_v1_2))] sz) := by
  refine Met.ofW (cc := cX7_expect) (maxL := 2) (ret := none) (by decide) rfl ?_
  intro p e s m args below meth c s₁ B hml hv
  obtain ⟨rfl, hsz, hP, hK, hD0⟩ := hv
  have hx := B.exec
  have hb := B.bytes
  have hr := B.returns
  have hts := atoms_spec (ws := wsX7_expect) B.pre
  have hown : s.vm.findClass RX7 = some m.cls := findClass_of_methodNamed B.named
  have hlocks := B.notSynchronized
  subst hsz
  have hD := hD0.self (sz := s.heap.size)
  generalize hAe : va_A [(h0, .inr (9, fs0)), (v0_0, .inr (13, fs1)), (v1_1, .inl (c_v1_1, n_v1_1, .inl f_v1_1)), (v1_2, .inl (c_v1_2, n_v1_2, .inl f_v1_2))] s.heap.size = A at hD ⊢
  have hA : ∀ q : Nat, s.heap.size ≤ q → A q := fun q h => by rw [← hAe]; exact Or.inr h
  have hS : va_S A s.heap s.heap [] := va_S.rf
  have hP : va_P (dC, dI) vwCl [(h0, .inr (9, fs0)), (v0_0, .inr (13, fs1)), (v1_1, .inl (c_v1_1, n_v1_1, .inl f_v1_1)), (v1_2, .inl (c_v1_2, n_v1_2, .inl f_v1_2))] s.heap := hP
  have hl := lv_entry ([.ref h0, .int p0]) (n := 2) (Nat.le_of_ble_eq_true rfl)
  rw [lg_entry_eq]
  generalize (lg_sl ([.ref h0, .int p0]) ++ List.replicate (2 - (lg_sl ([.ref h0, .int p0])).length) Slot.unset).toArray = ls at hl ⊢
  have hl : lv_has ls 2 [(0, .ref h0), (1, .int p0)] := hl
  refine lv_aload_n hx hb dX7_expect_0 rfl (lv_at hl 0 rfl) ?_
  have hPc := hP.sub (ws' := [(h0, .inr (9, fs0)), (v0_0, .inr (13, fs1)), (v1_1, .inl (c_v1_1, n_v1_1, .inl f_v1_1))]) [0, 1, 2] rfl
  have hDc := hD.sub (ws' := [(h0, .inr (9, fs0)), (v0_0, .inr (13, fs1)), (v1_1, .inl (c_v1_1, n_v1_1, .inl f_v1_1))]) [0, 1, 2] (by decide) rfl
  have hKc := hK.sub (tys' := [(c_v1_1, .int)]) [0] rfl
  have hFc := va_free (wc := [(h0, .inr (9, fs0)), (v0_0, .inr (13, fs1)), (v1_1, .inl (c_v1_1, n_v1_1, .inl f_v1_1))]) hD hS hA [0, 1, 2] rfl
  refine va_calli (va_runV (As := []) (rest := []) ⟨hx, hb, hml, hown, hts⟩ (c_X7_kind_r0 l dC dI s.heap.size h0 fs0 v0_15 v0_0 fs1 v1_1 v0_11 n_v1_1 c_v1_1 f_v1_1 hl0 hf0_15 hf0_0 hl1 hf1_1 hf0_11 hp_0 hp_1) (cwV 0 hts gX7_expect_X7_kind rfl rfl rfl (by decide +kernel) ⟨Nat.le_of_ble_eq_true rfl, Nat.le_of_ble_eq_true rfl⟩) ⟨zPc_blind, va_recv hKc hPc (ci := 9) (q0 := 0) rfl rfl, fun U hU hW => zPc_at hPc hKc hDc hU hW⟩ rfl rfl hl.1 rfl (lv_room (Nat.le_of_ble_eq_true rfl)) dX7_expect_1 ⟨Nat.le_of_ble_eq_true rfl, Nat.le_of_ble_eq_true rfl⟩) hS (fun q _ h => hFc q h) hFc (fun r_1 u t H1 locs ht hvm hw hB hz1 hk1 hS => ?_)
  obtain ⟨hP1, hK1, hD1⟩ := hB
  subst hw
  rw [ht] at hP1
  have hK1 := va_K.moved hvm.symm hK1
  obtain ⟨hP, hD⟩ := va_join (wr := [(v1_2, .inl (c_v1_2, n_v1_2, .inl f_v1_2))]) (w1 := [(h0, .inr (9, fs0)), (v0_0, .inr (13, fs1)), (v1_1, .inl (c_v1_1, n_v1_1, .inl f_v1_1))]) hP hD [0, 1, 2] [3] rfl rfl (by decide) (by decide) hk1 hFc hP1 hD1
  generalize H1 = H at hP hS ⊢
  have hP : va_P (dC, dI) vwCl [(v1_2, .inl (c_v1_2, n_v1_2, .inl f_v1_2)), (h0, .inr (9, fs0)), (v0_0, .inr (13, fs1)), (v1_1, .inl (c_v1_1, n_v1_1, .inl f_v1_1))] H := hP
  have hD : va_D A [(v1_2, .inl (c_v1_2, n_v1_2, .inl f_v1_2)), (h0, .inr (9, fs0)), (v0_0, .inr (13, fs1)), (v1_1, .inl (c_v1_1, n_v1_1, .inl f_v1_1))] := hD
  refine lv_iload_n hx hb dX7_expect_4 rfl (lv_at hl 1 rfl) ?_
  refine lv_icmp_ne (tgt := 15) hx hb dX7_expect_5 (by decide) (fun c_1 => ?_) (fun c_1 => absurd c_1 hc_0)
  refine lv_aload_n hx hb dX7_expect_15 rfl (lv_at hl 0 rfl) ?_
  have hPc := hP.sub (ws' := [(h0, .inr (9, fs0)), (v0_0, .inr (13, fs1)), (v1_2, .inl (c_v1_2, n_v1_2, .inl f_v1_2))]) [1, 2, 0] rfl
  have hDc := hD.sub (ws' := [(h0, .inr (9, fs0)), (v0_0, .inr (13, fs1)), (v1_2, .inl (c_v1_2, n_v1_2, .inl f_v1_2))]) [1, 2, 0] (by decide) rfl
  have hKc := hK.sub (tys' := [(c_v1_2, .int)]) [1] rfl
  have hFc := va_free (wc := [(h0, .inr (9, fs0)), (v0_0, .inr (13, fs1)), (v1_2, .inl (c_v1_2, n_v1_2, .inl f_v1_2))]) hD hS hA [1, 2, 0] rfl
  refine va_callv (va_runV (As := []) (rest := []) ⟨hx, hb, hml, hown, hts⟩ (c_X7_fail_r1 l dC dI H.size h0 fs0 v0_15 v0_0 fs1 v1_2 v0_11 n_v1_2 c_v1_2 f_v1_2 hl0 hf0_15 hf0_0 hl1 hf1_2 hf0_11 hp_2 hp_3) (cwV 0 hts gX7_expect_X7_fail rfl rfl rfl (by decide +kernel) ⟨Nat.le_of_ble_eq_true rfl, Nat.le_of_ble_eq_true rfl⟩) ⟨zPc_blind, va_recv hKc hPc (ci := 9) (q0 := 0) rfl rfl, fun U hU hW => zPc_at hPc hKc hDc hU hW⟩ rfl rfl hl.1 rfl (lv_room (Nat.le_of_ble_eq_true rfl)) dX7_expect_16 ⟨Nat.le_of_ble_eq_true rfl, Nat.le_of_ble_eq_true rfl⟩) hS (fun q _ h => hFc q h) hFc (fun u t H1 locs ht hvm hw hB hz1 hk1 hS => ?_)
  obtain ⟨hP1, hK1, hD1⟩ := hB
  rw [ht] at hP1
  have hK1 := va_K.moved hvm.symm hK1
  obtain ⟨hP, hD⟩ := va_join (wr := [(v1_1, .inl (c_v1_1, n_v1_1, .inl f_v1_1))]) (w1 := [(h0, .inr (9, (fs0.set 15 (.int (f_v1_2 (v0_11 : Int32).toNatClampNeg))))), (v0_0, .inr (13, fs1)), (v1_2, .inl (c_v1_2, n_v1_2, .inl f_v1_2))]) hP hD [1, 2, 0] [3] rfl rfl (by decide) (by decide) hk1 hFc hP1 hD1
  generalize H1 = H at hP hS ⊢
  have hP : va_P (dC, dI) vwCl [(v1_1, .inl (c_v1_1, n_v1_1, .inl f_v1_1)), (h0, .inr (9, (fs0.set 15 (.int (f_v1_2 (v0_11 : Int32).toNatClampNeg))))), (v0_0, .inr (13, fs1)), (v1_2, .inl (c_v1_2, n_v1_2, .inl f_v1_2))] H := hP
  have hD : va_D A [(v1_1, .inl (c_v1_1, n_v1_1, .inl f_v1_1)), (h0, .inr (9, (fs0.set 15 (.int (f_v1_2 (v0_11 : Int32).toNatClampNeg))))), (v0_0, .inr (13, fs1)), (v1_2, .inl (c_v1_2, n_v1_2, .inl f_v1_2))] := hD
  have hP9 := hP.sub (ws' := [(v1_1, .inl (c_v1_1, n_v1_1, .inl f_v1_1)), (h0, .inr (9, (fs0.set 15 (.int (f_v1_2 (v0_11 : Int32).toNatClampNeg))))), (v0_0, .inr (13, fs1)), (v1_2, .inl (c_v1_2, n_v1_2, .inl f_v1_2))]) [0, 1, 2, 3] rfl
  have hD9 := hD.sub (ws' := [(v1_1, .inl (c_v1_1, n_v1_1, .inl f_v1_1)), (h0, .inr (9, (fs0.set 15 (.int (f_v1_2 (v0_11 : Int32).toNatClampNeg))))), (v0_0, .inr (13, fs1)), (v1_2, .inl (c_v1_2, n_v1_2, .inl f_v1_2))]) [0, 1, 2, 3] (by decide) rfl
  have hK9 := hK.sub (tys' := [(c_v1_1, .int), (c_v1_2, .int)]) [0, 1] rfl
  exact W.vret hx hb hr (fun t ht hW => ⟨⟨(), rfl, trivial, (zB_mk (by rw [ht]; exact hP9) (va_K.moved hW.alike hK9) hD9)⟩, hS.F ht⟩) hS.2.2 dX7_expect_19
set_option maxHeartbeats 4000000 in
set_option maxRecDepth 100000 in
/-- X7_expect, a road -/
theorem c_X7_expect_r2 (l : Launch) (dC : Nat → ClassId) (dI : Nat → Nat → Nat) (sz : Nat) (h0 : Nat) (fs0 : List Value) (p0 : Int32) (v0_15 : Int32) (v0_0 : Nat) (fs1 : List Value) (v1_1 : Nat) (v0_11 : Int32) (n_v1_1 : Nat) (c_v1_1 : ClassId) (f_v1_1 : Nat → Int32) (v1_4 : Int32) (hl0 : fs0.length = 18) (hf0_15 : fs0[15]? = some (.int v0_15)) (hf0_0 : fs0[0]? = some (.ref v0_0)) (hl1 : fs1.length = 6) (hf1_1 : fs1[1]? = some (.ref v1_1)) (hf0_11 : fs0[11]? = some (.int v0_11)) (hf1_4 : fs1[4]? = some (.int v1_4)) (hp_0 : vp_in v0_11 n_v1_1) (hp_1 : v0_15 < 0) (hp_2 : v1_4 ≤ v0_11) (hc_0 : (f_v1_1 (v0_11 : Int32).toNatClampNeg) = p0) : Met l yX7_expect wsX7_expect ({ frames := 1, cells := 0, slots := 0, locals := 20 }) (zPc dC dI sz [.ref h0, .int p0] [(h0, .inr (9, fs0)), (v0_0, .inr (13, fs1)), (v1_1, .inl (c_v1_1, n_v1_1, .inl f_v1_1))] [(c_v1_1, .int)]) (va_Qv (fun _ : Unit => True) (zB dC dI (fun _ => [(c_v1_1, .int)]) (fun _ : Unit => [(v1_1, .inl (c_v1_1, n_v1_1, .inl f_v1_1)), (h0, .inr (9, fs0)), (v0_0, .inr (13, fs1))]) (va_A [(h0, .inr (9, fs0)), (v0_0, .inr (13, fs1)), (v1_1, .inl (c_v1_1, n_v1_1, .inl f_v1_1))] sz)) (va_A [(h0, .inr (9, fs0)), (v0_0, .inr (13, fs1)), (v1_1, .inl (c_v1_1, n_v1_1, .inl f_v1_1))] sz)) 0 0 (va_A [(h0, .inr (9, fs0)), (v0_0, .inr (13, fs1)), (v1_1, .inl (c_v1_1, n_v1_1, .inl f_v1_1))] sz) := by
  refine Met.ofW (cc := cX7_expect) (maxL := 2) (ret := none) (by decide) rfl ?_
  intro p e s m args below meth c s₁ B hml hv
  obtain ⟨rfl, hsz, hP, hK, hD0⟩ := hv
  have hx := B.exec
  have hb := B.bytes
  have hr := B.returns
  have hts := atoms_spec (ws := wsX7_expect) B.pre
  have hown : s.vm.findClass RX7 = some m.cls := findClass_of_methodNamed B.named
  have hlocks := B.notSynchronized
  subst hsz
  have hD := hD0.self (sz := s.heap.size)
  generalize hAe : va_A [(h0, .inr (9, fs0)), (v0_0, .inr (13, fs1)), (v1_1, .inl (c_v1_1, n_v1_1, .inl f_v1_1))] s.heap.size = A at hD ⊢
  have hA : ∀ q : Nat, s.heap.size ≤ q → A q := fun q h => by rw [← hAe]; exact Or.inr h
  have hS : va_S A s.heap s.heap [] := va_S.rf
  have hP : va_P (dC, dI) vwCl [(h0, .inr (9, fs0)), (v0_0, .inr (13, fs1)), (v1_1, .inl (c_v1_1, n_v1_1, .inl f_v1_1))] s.heap := hP
  have hl := lv_entry ([.ref h0, .int p0]) (n := 2) (Nat.le_of_ble_eq_true rfl)
  rw [lg_entry_eq]
  generalize (lg_sl ([.ref h0, .int p0]) ++ List.replicate (2 - (lg_sl ([.ref h0, .int p0])).length) Slot.unset).toArray = ls at hl ⊢
  have hl : lv_has ls 2 [(0, .ref h0), (1, .int p0)] := hl
  refine lv_aload_n hx hb dX7_expect_0 rfl (lv_at hl 0 rfl) ?_
  have hPc := hP.sub (ws' := [(h0, .inr (9, fs0)), (v0_0, .inr (13, fs1)), (v1_1, .inl (c_v1_1, n_v1_1, .inl f_v1_1))]) [0, 1, 2] rfl
  have hDc := hD.sub (ws' := [(h0, .inr (9, fs0)), (v0_0, .inr (13, fs1)), (v1_1, .inl (c_v1_1, n_v1_1, .inl f_v1_1))]) [0, 1, 2] (by decide) rfl
  have hKc := hK.sub (tys' := [(c_v1_1, .int)]) [0] rfl
  have hFc := va_free (wc := [(h0, .inr (9, fs0)), (v0_0, .inr (13, fs1)), (v1_1, .inl (c_v1_1, n_v1_1, .inl f_v1_1))]) hD hS hA [0, 1, 2] rfl
  refine va_calli (va_runV (As := []) (rest := []) ⟨hx, hb, hml, hown, hts⟩ (c_X7_kind_r0 l dC dI s.heap.size h0 fs0 v0_15 v0_0 fs1 v1_1 v0_11 n_v1_1 c_v1_1 f_v1_1 hl0 hf0_15 hf0_0 hl1 hf1_1 hf0_11 hp_0 hp_1) (cwV 0 hts gX7_expect_X7_kind rfl rfl rfl (by decide +kernel) ⟨Nat.le_of_ble_eq_true rfl, Nat.le_of_ble_eq_true rfl⟩) ⟨zPc_blind, va_recv hKc hPc (ci := 9) (q0 := 0) rfl rfl, fun U hU hW => zPc_at hPc hKc hDc hU hW⟩ rfl rfl hl.1 rfl (lv_room (Nat.le_of_ble_eq_true rfl)) dX7_expect_1 ⟨Nat.le_of_ble_eq_true rfl, Nat.le_of_ble_eq_true rfl⟩) hS (fun q _ h => hFc q h) hFc (fun r_1 u t H1 locs ht hvm hw hB hz1 hk1 hS => ?_)
  obtain ⟨hP1, hK1, hD1⟩ := hB
  subst hw
  rw [ht] at hP1
  have hK1 := va_K.moved hvm.symm hK1
  obtain ⟨hP, hD⟩ := va_join (wr := []) (w1 := [(h0, .inr (9, fs0)), (v0_0, .inr (13, fs1)), (v1_1, .inl (c_v1_1, n_v1_1, .inl f_v1_1))]) hP hD [0, 1, 2] [] rfl rfl (by decide) (by decide) hk1 hFc hP1 hD1
  generalize H1 = H at hP hS ⊢
  have hP : va_P (dC, dI) vwCl [(h0, .inr (9, fs0)), (v0_0, .inr (13, fs1)), (v1_1, .inl (c_v1_1, n_v1_1, .inl f_v1_1))] H := hP
  have hD : va_D A [(h0, .inr (9, fs0)), (v0_0, .inr (13, fs1)), (v1_1, .inl (c_v1_1, n_v1_1, .inl f_v1_1))] := hD
  refine lv_iload_n hx hb dX7_expect_4 rfl (lv_at hl 1 rfl) ?_
  refine lv_icmp_ne (tgt := 15) hx hb dX7_expect_5 (by decide) (fun c_1 => absurd hc_0 c_1) (fun c_1 => ?_)
  refine lv_aload_n hx hb dX7_expect_8 rfl (lv_at hl 0 rfl) ?_
  have hPc := hP.sub (ws' := [(h0, .inr (9, fs0)), (v0_0, .inr (13, fs1))]) [0, 1] rfl
  have hDc := hD.sub (ws' := [(h0, .inr (9, fs0)), (v0_0, .inr (13, fs1))]) [0, 1] (by decide) rfl
  have hKc := hK.sub (tys' := []) [] rfl
  have hFc := va_free (wc := [(h0, .inr (9, fs0)), (v0_0, .inr (13, fs1))]) hD hS hA [0, 1] rfl
  refine va_callv (va_runV (As := []) (rest := []) ⟨hx, hb, hml, hown, hts⟩ (c_X7_next_r0 l dC dI H.size h0 fs0 v0_11 v0_0 fs1 v1_4 hl0 hf0_11 hf0_0 hl1 hf1_4 hp_2) (cwV 0 hts gX7_expect_X7_next rfl rfl rfl (by decide +kernel) ⟨Nat.le_of_ble_eq_true rfl, Nat.le_of_ble_eq_true rfl⟩) ⟨zPc_blind, va_recv hKc hPc (ci := 9) (q0 := 0) rfl rfl, fun U hU hW => zPc_at hPc hKc hDc hU hW⟩ rfl rfl hl.1 rfl (lv_room (Nat.le_of_ble_eq_true rfl)) dX7_expect_9 ⟨Nat.le_of_ble_eq_true rfl, Nat.le_of_ble_eq_true rfl⟩) hS (fun q _ h => hFc q h) hFc (fun u t H1 locs ht hvm hw hB hz1 hk1 hS => ?_)
  obtain ⟨hP1, hK1, hD1⟩ := hB
  rw [ht] at hP1
  have hK1 := va_K.moved hvm.symm hK1
  obtain ⟨hP, hD⟩ := va_join (wr := [(v1_1, .inl (c_v1_1, n_v1_1, .inl f_v1_1))]) (w1 := [(h0, .inr (9, fs0)), (v0_0, .inr (13, fs1))]) hP hD [0, 1] [2] rfl rfl (by decide) (by decide) hk1 hFc hP1 hD1
  generalize H1 = H at hP hS ⊢
  have hP : va_P (dC, dI) vwCl [(v1_1, .inl (c_v1_1, n_v1_1, .inl f_v1_1)), (h0, .inr (9, fs0)), (v0_0, .inr (13, fs1))] H := hP
  have hD : va_D A [(v1_1, .inl (c_v1_1, n_v1_1, .inl f_v1_1)), (h0, .inr (9, fs0)), (v0_0, .inr (13, fs1))] := hD
  refine lv_goto (tgt := 19) hx hb dX7_expect_12 (by decide) ?_
  have hP9 := hP.sub (ws' := [(v1_1, .inl (c_v1_1, n_v1_1, .inl f_v1_1)), (h0, .inr (9, fs0)), (v0_0, .inr (13, fs1))]) [0, 1, 2] rfl
  have hD9 := hD.sub (ws' := [(v1_1, .inl (c_v1_1, n_v1_1, .inl f_v1_1)), (h0, .inr (9, fs0)), (v0_0, .inr (13, fs1))]) [0, 1, 2] (by decide) rfl
  have hK9 := hK.sub (tys' := [(c_v1_1, .int)]) [0] rfl
  exact W.vret hx hb hr (fun t ht hW => ⟨⟨(), rfl, trivial, (zB_mk (by rw [ht]; exact hP9) (va_K.moved hW.alike hK9) hD9)⟩, hS.F ht⟩) hS.2.2 dX7_expect_19
set_option maxHeartbeats 4000000 in
set_option maxRecDepth 100000 in
/-- X7_expect, a road -/
theorem c_X7_expect_r3 (l : Launch) (dC : Nat → ClassId) (dI : Nat → Nat → Nat) (sz : Nat) (h0 : Nat) (fs0 : List Value) (p0 : Int32) (v0_15 : Int32) (v0_0 : Nat) (fs1 : List Value) (v1_1 : Nat) (v0_11 : Int32) (n_v1_1 : Nat) (c_v1_1 : ClassId) (f_v1_1 : Nat → Int32) (v1_4 : Int32) (hl0 : fs0.length = 18) (hf0_15 : fs0[15]? = some (.int v0_15)) (hf0_0 : fs0[0]? = some (.ref v0_0)) (hl1 : fs1.length = 6) (hf1_1 : fs1[1]? = some (.ref v1_1)) (hf0_11 : fs0[11]? = some (.int v0_11)) (hf1_4 : fs1[4]? = some (.int v1_4)) (hp_0 : vp_in v0_11 n_v1_1) (hp_1 : v0_15 < 0) (hp_2 : ¬ v1_4 ≤ v0_11) (hc_0 : (f_v1_1 (v0_11 : Int32).toNatClampNeg) = p0) : Met l yX7_expect wsX7_expect ({ frames := 1, cells := 0, slots := 0, locals := 20 }) (zPc dC dI sz [.ref h0, .int p0] [(h0, .inr (9, fs0)), (v0_0, .inr (13, fs1)), (v1_1, .inl (c_v1_1, n_v1_1, .inl f_v1_1))] [(c_v1_1, .int)]) (va_Qv (fun _ : Unit => True) (zB dC dI (fun _ => [(c_v1_1, .int)]) (fun _ : Unit => [(v1_1, .inl (c_v1_1, n_v1_1, .inl f_v1_1)), (h0, .inr (9, (fs0.set 11 (.int (v0_11 + 1))))), (v0_0, .inr (13, fs1))]) (va_A [(h0, .inr (9, fs0)), (v0_0, .inr (13, fs1)), (v1_1, .inl (c_v1_1, n_v1_1, .inl f_v1_1))] sz)) (va_A [(h0, .inr (9, fs0)), (v0_0, .inr (13, fs1)), (v1_1, .inl (c_v1_1, n_v1_1, .inl f_v1_1))] sz)) 0 0 (va_A [(h0, .inr (9, fs0)), (v0_0, .inr (13, fs1)), (v1_1, .inl (c_v1_1, n_v1_1, .inl f_v1_1))] sz) := by
  refine Met.ofW (cc := cX7_expect) (maxL := 2) (ret := none) (by decide) rfl ?_
  intro p e s m args below meth c s₁ B hml hv
  obtain ⟨rfl, hsz, hP, hK, hD0⟩ := hv
  have hx := B.exec
  have hb := B.bytes
  have hr := B.returns
  have hts := atoms_spec (ws := wsX7_expect) B.pre
  have hown : s.vm.findClass RX7 = some m.cls := findClass_of_methodNamed B.named
  have hlocks := B.notSynchronized
  subst hsz
  have hD := hD0.self (sz := s.heap.size)
  generalize hAe : va_A [(h0, .inr (9, fs0)), (v0_0, .inr (13, fs1)), (v1_1, .inl (c_v1_1, n_v1_1, .inl f_v1_1))] s.heap.size = A at hD ⊢
  have hA : ∀ q : Nat, s.heap.size ≤ q → A q := fun q h => by rw [← hAe]; exact Or.inr h
  have hS : va_S A s.heap s.heap [] := va_S.rf
  have hP : va_P (dC, dI) vwCl [(h0, .inr (9, fs0)), (v0_0, .inr (13, fs1)), (v1_1, .inl (c_v1_1, n_v1_1, .inl f_v1_1))] s.heap := hP
  have hl := lv_entry ([.ref h0, .int p0]) (n := 2) (Nat.le_of_ble_eq_true rfl)
  rw [lg_entry_eq]
  generalize (lg_sl ([.ref h0, .int p0]) ++ List.replicate (2 - (lg_sl ([.ref h0, .int p0])).length) Slot.unset).toArray = ls at hl ⊢
  have hl : lv_has ls 2 [(0, .ref h0), (1, .int p0)] := hl
  refine lv_aload_n hx hb dX7_expect_0 rfl (lv_at hl 0 rfl) ?_
  have hPc := hP.sub (ws' := [(h0, .inr (9, fs0)), (v0_0, .inr (13, fs1)), (v1_1, .inl (c_v1_1, n_v1_1, .inl f_v1_1))]) [0, 1, 2] rfl
  have hDc := hD.sub (ws' := [(h0, .inr (9, fs0)), (v0_0, .inr (13, fs1)), (v1_1, .inl (c_v1_1, n_v1_1, .inl f_v1_1))]) [0, 1, 2] (by decide) rfl
  have hKc := hK.sub (tys' := [(c_v1_1, .int)]) [0] rfl
  have hFc := va_free (wc := [(h0, .inr (9, fs0)), (v0_0, .inr (13, fs1)), (v1_1, .inl (c_v1_1, n_v1_1, .inl f_v1_1))]) hD hS hA [0, 1, 2] rfl
  refine va_calli (va_runV (As := []) (rest := []) ⟨hx, hb, hml, hown, hts⟩ (c_X7_kind_r0 l dC dI s.heap.size h0 fs0 v0_15 v0_0 fs1 v1_1 v0_11 n_v1_1 c_v1_1 f_v1_1 hl0 hf0_15 hf0_0 hl1 hf1_1 hf0_11 hp_0 hp_1) (cwV 0 hts gX7_expect_X7_kind rfl rfl rfl (by decide +kernel) ⟨Nat.le_of_ble_eq_true rfl, Nat.le_of_ble_eq_true rfl⟩) ⟨zPc_blind, va_recv hKc hPc (ci := 9) (q0 := 0) rfl rfl, fun U hU hW => zPc_at hPc hKc hDc hU hW⟩ rfl rfl hl.1 rfl (lv_room (Nat.le_of_ble_eq_true rfl)) dX7_expect_1 ⟨Nat.le_of_ble_eq_true rfl, Nat.le_of_ble_eq_true rfl⟩) hS (fun q _ h => hFc q h) hFc (fun r_1 u t H1 locs ht hvm hw hB hz1 hk1 hS => ?_)
  obtain ⟨hP1, hK1, hD1⟩ := hB
  subst hw
  rw [ht] at hP1
  have hK1 := va_K.moved hvm.symm hK1
  obtain ⟨hP, hD⟩ := va_join (wr := []) (w1 := [(h0, .inr (9, fs0)), (v0_0, .inr (13, fs1)), (v1_1, .inl (c_v1_1, n_v1_1, .inl f_v1_1))]) hP hD [0, 1, 2] [] rfl rfl (by decide) (by decide) hk1 hFc hP1 hD1
  generalize H1 = H at hP hS ⊢
  have hP : va_P (dC, dI) vwCl [(h0, .inr (9, fs0)), (v0_0, .inr (13, fs1)), (v1_1, .inl (c_v1_1, n_v1_1, .inl f_v1_1))] H := hP
  have hD : va_D A [(h0, .inr (9, fs0)), (v0_0, .inr (13, fs1)), (v1_1, .inl (c_v1_1, n_v1_1, .inl f_v1_1))] := hD
  refine lv_iload_n hx hb dX7_expect_4 rfl (lv_at hl 1 rfl) ?_
  refine lv_icmp_ne (tgt := 15) hx hb dX7_expect_5 (by decide) (fun c_1 => absurd hc_0 c_1) (fun c_1 => ?_)
  refine lv_aload_n hx hb dX7_expect_8 rfl (lv_at hl 0 rfl) ?_
  have hPc := hP.sub (ws' := [(h0, .inr (9, fs0)), (v0_0, .inr (13, fs1))]) [0, 1] rfl
  have hDc := hD.sub (ws' := [(h0, .inr (9, fs0)), (v0_0, .inr (13, fs1))]) [0, 1] (by decide) rfl
  have hKc := hK.sub (tys' := []) [] rfl
  have hFc := va_free (wc := [(h0, .inr (9, fs0)), (v0_0, .inr (13, fs1))]) hD hS hA [0, 1] rfl
  refine va_callv (va_runV (As := []) (rest := []) ⟨hx, hb, hml, hown, hts⟩ (c_X7_next_r1 l dC dI H.size h0 fs0 v0_11 v0_0 fs1 v1_4 hl0 hf0_11 hf0_0 hl1 hf1_4 hp_2) (cwV 0 hts gX7_expect_X7_next rfl rfl rfl (by decide +kernel) ⟨Nat.le_of_ble_eq_true rfl, Nat.le_of_ble_eq_true rfl⟩) ⟨zPc_blind, va_recv hKc hPc (ci := 9) (q0 := 0) rfl rfl, fun U hU hW => zPc_at hPc hKc hDc hU hW⟩ rfl rfl hl.1 rfl (lv_room (Nat.le_of_ble_eq_true rfl)) dX7_expect_9 ⟨Nat.le_of_ble_eq_true rfl, Nat.le_of_ble_eq_true rfl⟩) hS (fun q _ h => hFc q h) hFc (fun u t H1 locs ht hvm hw hB hz1 hk1 hS => ?_)
  obtain ⟨hP1, hK1, hD1⟩ := hB
  rw [ht] at hP1
  have hK1 := va_K.moved hvm.symm hK1
  obtain ⟨hP, hD⟩ := va_join (wr := [(v1_1, .inl (c_v1_1, n_v1_1, .inl f_v1_1))]) (w1 := [(h0, .inr (9, (fs0.set 11 (.int (v0_11 + 1))))), (v0_0, .inr (13, fs1))]) hP hD [0, 1] [2] rfl rfl (by decide) (by decide) hk1 hFc hP1 hD1
  generalize H1 = H at hP hS ⊢
  have hP : va_P (dC, dI) vwCl [(v1_1, .inl (c_v1_1, n_v1_1, .inl f_v1_1)), (h0, .inr (9, (fs0.set 11 (.int (v0_11 + 1))))), (v0_0, .inr (13, fs1))] H := hP
  have hD : va_D A [(v1_1, .inl (c_v1_1, n_v1_1, .inl f_v1_1)), (h0, .inr (9, (fs0.set 11 (.int (v0_11 + 1))))), (v0_0, .inr (13, fs1))] := hD
  refine lv_goto (tgt := 19) hx hb dX7_expect_12 (by decide) ?_
  have hP9 := hP.sub (ws' := [(v1_1, .inl (c_v1_1, n_v1_1, .inl f_v1_1)), (h0, .inr (9, (fs0.set 11 (.int (v0_11 + 1))))), (v0_0, .inr (13, fs1))]) [0, 1, 2] rfl
  have hD9 := hD.sub (ws' := [(v1_1, .inl (c_v1_1, n_v1_1, .inl f_v1_1)), (h0, .inr (9, (fs0.set 11 (.int (v0_11 + 1))))), (v0_0, .inr (13, fs1))]) [0, 1, 2] (by decide) rfl
  have hK9 := hK.sub (tys' := [(c_v1_1, .int)]) [0] rfl
  exact W.vret hx hb hr (fun t ht hW => ⟨⟨(), rfl, trivial, (zB_mk (by rw [ht]; exact hP9) (va_K.moved hW.alike hK9) hD9)⟩, hS.F ht⟩) hS.2.2 dX7_expect_19
set_option maxHeartbeats 4000000 in
set_option maxRecDepth 100000 in
/-- X7_expect, a road -/
theorem c_X7_expect_r4 (l : Launch) (dC : Nat → ClassId) (dI : Nat → Nat → Nat) (sz : Nat) (h0 : Nat) (fs0 : List Value) (p0 : Int32) (v0_15 : Int32) (v0_0 : Nat) (fs1 : List Value) (v1_1 : Nat) (v0_11 : Int32) (n_v1_1 : Nat) (c_v1_1 : ClassId) (f_v1_1 : Nat → Int32) (v1_2 : Nat) (n_v1_2 : Nat) (c_v1_2 : ClassId) (f_v1_2 : Nat → Int32) (hl0 : fs0.length = 18) (hf0_15 : fs0[15]? = some (.int v0_15)) (hf0_0 : fs0[0]? = some (.ref v0_0)) (hl1 : fs1.length = 6) (hf1_1 : fs1[1]? = some (.ref v1_1)) (hf0_11 : fs0[11]? = some (.int v0_11)) (hf1_2 : fs1[2]? = some (.ref v1_2)) (hp_0 : ¬ v0_15 < 0) (hp_1 : 0 ≤ v0_15) (hc_0 : ¬ 0 = p0) : Met l yX7_expect wsX7_expect ({ frames := 1, cells := 0, slots := 0, locals := 20 }) (zPc dC dI sz [.ref h0, .int p0] [(h0, .inr (9, fs0)), (v0_0, .inr (13, fs1)), (v1_1, .inl (c_v1_1, n_v1_1, .inl f_v1_1)), (v1_2, .inl (c_v1_2, n_v1_2, .inl f_v1_2))] [(c_v1_1, .int), (c_v1_2, .int)]) (va_Qv (fun _ : Unit => True) (zB dC dI (fun _ => [(c_v1_1, .int), (c_v1_2, .int)]) (fun _ : Unit => [(v0_0, .inr (13, fs1)), (v1_1, .inl (c_v1_1, n_v1_1, .inl f_v1_1)), (v1_2, .inl (c_v1_2, n_v1_2, .inl f_v1_2)), (h0, .inr (9, fs0))]) (va_A [(h0, .inr (9, fs0)), (v0_0, .inr (13, fs1)), (v1_1, .inl (c_v1_1, n_v1_1, .inl f_v1_1)), (v1_2, .inl (c_v1_2, n_v1_2, .inl f_v1_2))] sz)) (va_A [(h0, .inr (9, fs0)), (v0_0, .inr (13, fs1)), (v1_1, .inl (c_v1_1, n_v1_1, .inl f_v1_1)), (v1_2, .inl (c_v1_2, n_v1_2, .inl f_v1_2))] sz)) 0 0 (va_A [(h0, .inr (9, fs0)), (v0_0, .inr (13, fs1)), (v1_1, .inl (c_v1_1, n_v1_1, .inl f_v1_1)), (v1_2, .inl (c_v1_2, n_v1_2, .inl f_v1_2))] sz) := by
  refine Met.ofW (cc := cX7_expect) (maxL := 2) (ret := none) (by decide) rfl ?_
  intro p e s m args below meth c s₁ B hml hv
  obtain ⟨rfl, hsz, hP, hK, hD0⟩ := hv
  have hx := B.exec
  have hb := B.bytes
  have hr := B.returns
  have hts := atoms_spec (ws := wsX7_expect) B.pre
  have hown : s.vm.findClass RX7 = some m.cls := findClass_of_methodNamed B.named
  have hlocks := B.notSynchronized
  subst hsz
  have hD := hD0.self (sz := s.heap.size)
  generalize hAe : va_A [(h0, .inr (9, fs0)), (v0_0, .inr (13, fs1)), (v1_1, .inl (c_v1_1, n_v1_1, .inl f_v1_1)), (v1_2, .inl (c_v1_2, n_v1_2, .inl f_v1_2))] s.heap.size = A at hD ⊢
  have hA : ∀ q : Nat, s.heap.size ≤ q → A q := fun q h => by rw [← hAe]; exact Or.inr h
  have hS : va_S A s.heap s.heap [] := va_S.rf
  have hP : va_P (dC, dI) vwCl [(h0, .inr (9, fs0)), (v0_0, .inr (13, fs1)), (v1_1, .inl (c_v1_1, n_v1_1, .inl f_v1_1)), (v1_2, .inl (c_v1_2, n_v1_2, .inl f_v1_2))] s.heap := hP
  have hl := lv_entry ([.ref h0, .int p0]) (n := 2) (Nat.le_of_ble_eq_true rfl)
  rw [lg_entry_eq]
  generalize (lg_sl ([.ref h0, .int p0]) ++ List.replicate (2 - (lg_sl ([.ref h0, .int p0])).length) Slot.unset).toArray = ls at hl ⊢
  have hl : lv_has ls 2 [(0, .ref h0), (1, .int p0)] := hl
  refine lv_aload_n hx hb dX7_expect_0 rfl (lv_at hl 0 rfl) ?_
  have hPc := hP.sub (ws' := [(h0, .inr (9, fs0))]) [0] rfl
  have hDc := hD.sub (ws' := [(h0, .inr (9, fs0))]) [0] (by decide) rfl
  have hKc := hK.sub (tys' := []) [] rfl
  have hFc := va_free (wc := [(h0, .inr (9, fs0))]) hD hS hA [0] rfl
  refine va_calli (va_runV (As := []) (rest := []) ⟨hx, hb, hml, hown, hts⟩ (c_X7_kind_r1 l dC dI s.heap.size h0 fs0 v0_15 hl0 hf0_15 hp_0) (cwV 0 hts gX7_expect_X7_kind rfl rfl rfl (by decide +kernel) ⟨Nat.le_of_ble_eq_true rfl, Nat.le_of_ble_eq_true rfl⟩) ⟨zPc_blind, va_recv hKc hPc (ci := 9) (q0 := 0) rfl rfl, fun U hU hW => zPc_at hPc hKc hDc hU hW⟩ rfl rfl hl.1 rfl (lv_room (Nat.le_of_ble_eq_true rfl)) dX7_expect_1 ⟨Nat.le_of_ble_eq_true rfl, Nat.le_of_ble_eq_true rfl⟩) hS (fun q _ h => hFc q h) hFc (fun r_1 u t H1 locs ht hvm hw hB hz1 hk1 hS => ?_)
  obtain ⟨hP1, hK1, hD1⟩ := hB
  subst hw
  rw [ht] at hP1
  have hK1 := va_K.moved hvm.symm hK1
  obtain ⟨hP, hD⟩ := va_join (wr := [(v0_0, .inr (13, fs1)), (v1_1, .inl (c_v1_1, n_v1_1, .inl f_v1_1)), (v1_2, .inl (c_v1_2, n_v1_2, .inl f_v1_2))]) (w1 := [(h0, .inr (9, fs0))]) hP hD [0] [1, 2, 3] rfl rfl (by decide) (by decide) hk1 hFc hP1 hD1
  generalize H1 = H at hP hS ⊢
  have hP : va_P (dC, dI) vwCl [(v0_0, .inr (13, fs1)), (v1_1, .inl (c_v1_1, n_v1_1, .inl f_v1_1)), (v1_2, .inl (c_v1_2, n_v1_2, .inl f_v1_2)), (h0, .inr (9, fs0))] H := hP
  have hD : va_D A [(v0_0, .inr (13, fs1)), (v1_1, .inl (c_v1_1, n_v1_1, .inl f_v1_1)), (v1_2, .inl (c_v1_2, n_v1_2, .inl f_v1_2)), (h0, .inr (9, fs0))] := hD
  refine lv_iload_n hx hb dX7_expect_4 rfl (lv_at hl 1 rfl) ?_
  refine lv_icmp_ne (tgt := 15) hx hb dX7_expect_5 (by decide) (fun c_1 => ?_) (fun c_1 => absurd c_1 hc_0)
  refine lv_aload_n hx hb dX7_expect_15 rfl (lv_at hl 0 rfl) ?_
  have hPc := hP.sub (ws' := [(h0, .inr (9, fs0))]) [3] rfl
  have hDc := hD.sub (ws' := [(h0, .inr (9, fs0))]) [3] (by decide) rfl
  have hKc := hK.sub (tys' := []) [] rfl
  have hFc := va_free (wc := [(h0, .inr (9, fs0))]) hD hS hA [3] rfl
  refine va_callv (va_runV (As := []) (rest := []) ⟨hx, hb, hml, hown, hts⟩ (c_X7_fail_r0 l dC dI H.size h0 fs0 v0_15 hl0 hf0_15 hp_1) (cwV 0 hts gX7_expect_X7_fail rfl rfl rfl (by decide +kernel) ⟨Nat.le_of_ble_eq_true rfl, Nat.le_of_ble_eq_true rfl⟩) ⟨zPc_blind, va_recv hKc hPc (ci := 9) (q0 := 0) rfl rfl, fun U hU hW => zPc_at hPc hKc hDc hU hW⟩ rfl rfl hl.1 rfl (lv_room (Nat.le_of_ble_eq_true rfl)) dX7_expect_16 ⟨Nat.le_of_ble_eq_true rfl, Nat.le_of_ble_eq_true rfl⟩) hS (fun q _ h => hFc q h) hFc (fun u t H1 locs ht hvm hw hB hz1 hk1 hS => ?_)
  obtain ⟨hP1, hK1, hD1⟩ := hB
  rw [ht] at hP1
  have hK1 := va_K.moved hvm.symm hK1
  obtain ⟨hP, hD⟩ := va_join (wr := [(v0_0, .inr (13, fs1)), (v1_1, .inl (c_v1_1, n_v1_1, .inl f_v1_1)), (v1_2, .inl (c_v1_2, n_v1_2, .inl f_v1_2))]) (w1 := [(h0, .inr (9, fs0))]) hP hD [3] [0, 1, 2] rfl rfl (by decide) (by decide) hk1 hFc hP1 hD1
  generalize H1 = H at hP hS ⊢
  have hP : va_P (dC, dI) vwCl [(v0_0, .inr (13, fs1)), (v1_1, .inl (c_v1_1, n_v1_1, .inl f_v1_1)), (v1_2, .inl (c_v1_2, n_v1_2, .inl f_v1_2)), (h0, .inr (9, fs0))] H := hP
  have hD : va_D A [(v0_0, .inr (13, fs1)), (v1_1, .inl (c_v1_1, n_v1_1, .inl f_v1_1)), (v1_2, .inl (c_v1_2, n_v1_2, .inl f_v1_2)), (h0, .inr (9, fs0))] := hD
  have hP9 := hP.sub (ws' := [(v0_0, .inr (13, fs1)), (v1_1, .inl (c_v1_1, n_v1_1, .inl f_v1_1)), (v1_2, .inl (c_v1_2, n_v1_2, .inl f_v1_2)), (h0, .inr (9, fs0))]) [0, 1, 2, 3] rfl
  have hD9 := hD.sub (ws' := [(v0_0, .inr (13, fs1)), (v1_1, .inl (c_v1_1, n_v1_1, .inl f_v1_1)), (v1_2, .inl (c_v1_2, n_v1_2, .inl f_v1_2)), (h0, .inr (9, fs0))]) [0, 1, 2, 3] (by decide) rfl
  have hK9 := hK.sub (tys' := [(c_v1_1, .int), (c_v1_2, .int)]) [0, 1] rfl
  exact W.vret hx hb hr (fun t ht hW => ⟨⟨(), rfl, trivial, (zB_mk (by rw [ht]; exact hP9) (va_K.moved hW.alike hK9) hD9)⟩, hS.F ht⟩) hS.2.2 dX7_expect_19
set_option maxHeartbeats 4000000 in
set_option maxRecDepth 100000 in
/-- X7_expect, a road -/
theorem c_X7_expect_r5 (l : Launch) (dC : Nat → ClassId) (dI : Nat → Nat → Nat) (sz : Nat) (h0 : Nat) (fs0 : List Value) (p0 : Int32) (v0_15 : Int32) (v0_0 : Nat) (fs1 : List Value) (v1_1 : Nat) (v0_11 : Int32) (n_v1_1 : Nat) (c_v1_1 : ClassId) (f_v1_1 : Nat → Int32) (v1_2 : Nat) (n_v1_2 : Nat) (c_v1_2 : ClassId) (f_v1_2 : Nat → Int32) (hl0 : fs0.length = 18) (hf0_15 : fs0[15]? = some (.int v0_15)) (hf0_0 : fs0[0]? = some (.ref v0_0)) (hl1 : fs1.length = 6) (hf1_1 : fs1[1]? = some (.ref v1_1)) (hf0_11 : fs0[11]? = some (.int v0_11)) (hf1_2 : fs1[2]? = some (.ref v1_2)) (hp_0 : ¬ v0_15 < 0) (hp_1 : vp_in v0_11 n_v1_2) (hp_2 : ¬ 0 ≤ v0_15) (hc_0 : ¬ 0 = p0) : Met l yX7_expect wsX7_expect ({ frames := 2, cells := 0, slots := 0, locals := 40 }) (zPc dC dI sz [.ref h0, .int p0] [(h0, .inr (9, fs0)), (v0_0, .inr (13, fs1)), (v1_1, .inl (c_v1_1, n_v1_1, .inl f_v1_1)), (v1_2, .inl (c_v1_2, n_v1_2, .inl f_v1_2))] [(c_v1_1, .int), (c_v1_2, .int)]) (va_Qv (fun _ : Unit => True) (zB dC dI (fun _ => [(c_v1_1, .int), (c_v1_2, .int)]) (fun _ : Unit => [(v1_1, .inl (c_v1_1, n_v1_1, .inl f_v1_1)), (h0, .inr (9, (fs0.set 15 (.int (f_v1_2 (v0_11 : Int32).toNatClampNeg))))), (v0_0, .inr (13, fs1)), (v1_2, .inl (c_v1_2, n_v1_2, .inl f_v1_2))]) (va_A [(h0, .inr (9, fs0)), (v0_0, .inr (13, fs1)), (v1_1, .inl (c_v1_1, n_v1_1, .inl f_v1_1)), (v1_2, .inl (c_v1_2, n_v1_2, .inl f_v1_2))] sz)) (va_A [(h0, .inr (9, fs0)), (v0_0, .inr (13, fs1)), (v1_1, .inl (c_v1_1, n_v1_1, .inl f_v1_1)), (v1_2, .inl (c_v1_2, n_v1_2, .inl f_v1_2))] sz)) 0 0 (va_A [(h0, .inr (9, fs0)), (v0_0, .inr (13, fs1)), (v1_1, .inl (c_v1_1, n_v1_1, .inl f_v1_1)), (v1_2, .inl (c_v1_2, n_v1_2, .inl f_v1_2))] sz) := by
  refine Met.ofW (cc := cX7_expect) (maxL := 2) (ret := none) (by decide) rfl ?_
  intro p e s m args below meth c s₁ B hml hv
  obtain ⟨rfl, hsz, hP, hK, hD0⟩ := hv
  have hx := B.exec
  have hb := B.bytes
  have hr := B.returns
  have hts := atoms_spec (ws := wsX7_expect) B.pre
  have hown : s.vm.findClass RX7 = some m.cls := findClass_of_methodNamed B.named
  have hlocks := B.notSynchronized
  subst hsz
  have hD := hD0.self (sz := s.heap.size)
  generalize hAe : va_A [(h0, .inr (9, fs0)), (v0_0, .inr (13, fs1)), (v1_1, .inl (c_v1_1, n_v1_1, .inl f_v1_1)), (v1_2, .inl (c_v1_2, n_v1_2, .inl f_v1_2))] s.heap.size = A at hD ⊢
  have hA : ∀ q : Nat, s.heap.size ≤ q → A q := fun q h => by rw [← hAe]; exact Or.inr h
  have hS : va_S A s.heap s.heap [] := va_S.rf
  have hP : va_P (dC, dI) vwCl [(h0, .inr (9, fs0)), (v0_0, .inr (13, fs1)), (v1_1, .inl (c_v1_1, n_v1_1, .inl f_v1_1)), (v1_2, .inl (c_v1_2, n_v1_2, .inl f_v1_2))] s.heap := hP
  have hl := lv_entry ([.ref h0, .int p0]) (n := 2) (Nat.le_of_ble_eq_true rfl)
  rw [lg_entry_eq]
  generalize (lg_sl ([.ref h0, .int p0]) ++ List.replicate (2 - (lg_sl ([.ref h0, .int p0])).length) Slot.unset).toArray = ls at hl ⊢
  have hl : lv_has ls 2 [(0, .ref h0), (1, .int p0)] := hl
  refine lv_aload_n hx hb dX7_expect_0 rfl (lv_at hl 0 rfl) ?_
  have hPc := hP.sub (ws' := [(h0, .inr (9, fs0))]) [0] rfl
  have hDc := hD.sub (ws' := [(h0, .inr (9, fs0))]) [0] (by decide) rfl
  have hKc := hK.sub (tys' := []) [] rfl
  have hFc := va_free (wc := [(h0, .inr (9, fs0))]) hD hS hA [0] rfl
  refine va_calli (va_runV (As := []) (rest := []) ⟨hx, hb, hml, hown, hts⟩ (c_X7_kind_r1 l dC dI s.heap.size h0 fs0 v0_15 hl0 hf0_15 hp_0) (cwV 0 hts gX7_expect_X7_kind rfl rfl rfl (by decide +kernel) ⟨Nat.le_of_ble_eq_true rfl, Nat.le_of_ble_eq_true rfl⟩) ⟨zPc_blind, va_recv hKc hPc (ci := 9) (q0 := 0) rfl rfl, fun U hU hW => zPc_at hPc hKc hDc hU hW⟩ rfl rfl hl.1 rfl (lv_room (Nat.le_of_ble_eq_true rfl)) dX7_expect_1 ⟨Nat.le_of_ble_eq_true rfl, Nat.le_of_ble_eq_true rfl⟩) hS (fun q _ h => hFc q h) hFc (fun r_1 u t H1 locs ht hvm hw hB hz1 hk1 hS => ?_)
  obtain ⟨hP1, hK1, hD1⟩ := hB
  subst hw
  rw [ht] at hP1
  have hK1 := va_K.moved hvm.symm hK1
  obtain ⟨hP, hD⟩ := va_join (wr := [(v0_0, .inr (13, fs1)), (v1_1, .inl (c_v1_1, n_v1_1, .inl f_v1_1)), (v1_2, .inl (c_v1_2, n_v1_2, .inl f_v1_2))]) (w1 := [(h0, .inr (9, fs0))]) hP hD [0] [1, 2, 3] rfl rfl (by decide) (by decide) hk1 hFc hP1 hD1
  generalize H1 = H at hP hS ⊢
  have hP : va_P (dC, dI) vwCl [(v0_0, .inr (13, fs1)), (v1_1, .inl (c_v1_1, n_v1_1, .inl f_v1_1)), (v1_2, .inl (c_v1_2, n_v1_2, .inl f_v1_2)), (h0, .inr (9, fs0))] H := hP
  have hD : va_D A [(v0_0, .inr (13, fs1)), (v1_1, .inl (c_v1_1, n_v1_1, .inl f_v1_1)), (v1_2, .inl (c_v1_2, n_v1_2, .inl f_v1_2)), (h0, .inr (9, fs0))] := hD
  refine lv_iload_n hx hb dX7_expect_4 rfl (lv_at hl 1 rfl) ?_
  refine lv_icmp_ne (tgt := 15) hx hb dX7_expect_5 (by decide) (fun c_1 => ?_) (fun c_1 => absurd c_1 hc_0)
  refine lv_aload_n hx hb dX7_expect_15 rfl (lv_at hl 0 rfl) ?_
  have hPc := hP.sub (ws' := [(h0, .inr (9, fs0)), (v0_0, .inr (13, fs1)), (v1_2, .inl (c_v1_2, n_v1_2, .inl f_v1_2))]) [3, 0, 2] rfl
  have hDc := hD.sub (ws' := [(h0, .inr (9, fs0)), (v0_0, .inr (13, fs1)), (v1_2, .inl (c_v1_2, n_v1_2, .inl f_v1_2))]) [3, 0, 2] (by decide) rfl
  have hKc := hK.sub (tys' := [(c_v1_2, .int)]) [1] rfl
  have hFc := va_free (wc := [(h0, .inr (9, fs0)), (v0_0, .inr (13, fs1)), (v1_2, .inl (c_v1_2, n_v1_2, .inl f_v1_2))]) hD hS hA [3, 0, 2] rfl
  refine va_callv (va_runV (As := []) (rest := []) ⟨hx, hb, hml, hown, hts⟩ (c_X7_fail_r1 l dC dI H.size h0 fs0 v0_15 v0_0 fs1 v1_2 v0_11 n_v1_2 c_v1_2 f_v1_2 hl0 hf0_15 hf0_0 hl1 hf1_2 hf0_11 hp_1 hp_2) (cwV 0 hts gX7_expect_X7_fail rfl rfl rfl (by decide +kernel) ⟨Nat.le_of_ble_eq_true rfl, Nat.le_of_ble_eq_true rfl⟩) ⟨zPc_blind, va_recv hKc hPc (ci := 9) (q0 := 0) rfl rfl, fun U hU hW => zPc_at hPc hKc hDc hU hW⟩ rfl rfl hl.1 rfl (lv_room (Nat.le_of_ble_eq_true rfl)) dX7_expect_16 ⟨Nat.le_of_ble_eq_true rfl, Nat.le_of_ble_eq_true rfl⟩) hS (fun q _ h => hFc q h) hFc (fun u t H1 locs ht hvm hw hB hz1 hk1 hS => ?_)
  obtain ⟨hP1, hK1, hD1⟩ := hB
  rw [ht] at hP1
  have hK1 := va_K.moved hvm.symm hK1
  obtain ⟨hP, hD⟩ := va_join (wr := [(v1_1, .inl (c_v1_1, n_v1_1, .inl f_v1_1))]) (w1 := [(h0, .inr (9, (fs0.set 15 (.int (f_v1_2 (v0_11 : Int32).toNatClampNeg))))), (v0_0, .inr (13, fs1)), (v1_2, .inl (c_v1_2, n_v1_2, .inl f_v1_2))]) hP hD [3, 0, 2] [1] rfl rfl (by decide) (by decide) hk1 hFc hP1 hD1
  generalize H1 = H at hP hS ⊢
  have hP : va_P (dC, dI) vwCl [(v1_1, .inl (c_v1_1, n_v1_1, .inl f_v1_1)), (h0, .inr (9, (fs0.set 15 (.int (f_v1_2 (v0_11 : Int32).toNatClampNeg))))), (v0_0, .inr (13, fs1)), (v1_2, .inl (c_v1_2, n_v1_2, .inl f_v1_2))] H := hP
  have hD : va_D A [(v1_1, .inl (c_v1_1, n_v1_1, .inl f_v1_1)), (h0, .inr (9, (fs0.set 15 (.int (f_v1_2 (v0_11 : Int32).toNatClampNeg))))), (v0_0, .inr (13, fs1)), (v1_2, .inl (c_v1_2, n_v1_2, .inl f_v1_2))] := hD
  have hP9 := hP.sub (ws' := [(v1_1, .inl (c_v1_1, n_v1_1, .inl f_v1_1)), (h0, .inr (9, (fs0.set 15 (.int (f_v1_2 (v0_11 : Int32).toNatClampNeg))))), (v0_0, .inr (13, fs1)), (v1_2, .inl (c_v1_2, n_v1_2, .inl f_v1_2))]) [0, 1, 2, 3] rfl
  have hD9 := hD.sub (ws' := [(v1_1, .inl (c_v1_1, n_v1_1, .inl f_v1_1)), (h0, .inr (9, (fs0.set 15 (.int (f_v1_2 (v0_11 : Int32).toNatClampNeg))))), (v0_0, .inr (13, fs1)), (v1_2, .inl (c_v1_2, n_v1_2, .inl f_v1_2))]) [0, 1, 2, 3] (by decide) rfl
  have hK9 := hK.sub (tys' := [(c_v1_1, .int), (c_v1_2, .int)]) [0, 1] rfl
  exact W.vret hx hb hr (fun t ht hW => ⟨⟨(), rfl, trivial, (zB_mk (by rw [ht]; exact hP9) (va_K.moved hW.alike hK9) hD9)⟩, hS.F ht⟩) hS.2.2 dX7_expect_19
set_option maxHeartbeats 4000000 in
set_option maxRecDepth 100000 in
/-- X7_expect, a road -/
theorem c_X7_expect_r6 (l : Launch) (dC : Nat → ClassId) (dI : Nat → Nat → Nat) (sz : Nat) (h0 : Nat) (fs0 : List Value) (p0 : Int32) (v0_15 : Int32) (v0_0 : Nat) (fs1 : List Value) (v1_1 : Nat) (v0_11 : Int32) (n_v1_1 : Nat) (c_v1_1 : ClassId) (f_v1_1 : Nat → Int32) (v1_4 : Int32) (hl0 : fs0.length = 18) (hf0_15 : fs0[15]? = some (.int v0_15)) (hf0_0 : fs0[0]? = some (.ref v0_0)) (hl1 : fs1.length = 6) (hf1_1 : fs1[1]? = some (.ref v1_1)) (hf0_11 : fs0[11]? = some (.int v0_11)) (hf1_4 : fs1[4]? = some (.int v1_4)) (hp_0 : ¬ v0_15 < 0) (hp_1 : v1_4 ≤ v0_11) (hc_0 : 0 = p0) : Met l yX7_expect wsX7_expect ({ frames := 1, cells := 0, slots := 0, locals := 20 }) (zPc dC dI sz [.ref h0, .int p0] [(h0, .inr (9, fs0)), (v0_0, .inr (13, fs1)), (v1_1, .inl (c_v1_1, n_v1_1, .inl f_v1_1))] [(c_v1_1, .int)]) (va_Qv (fun _ : Unit => True) (zB dC dI (fun _ => [(c_v1_1, .int)]) (fun _ : Unit => [(v1_1, .inl (c_v1_1, n_v1_1, .inl f_v1_1)), (h0, .inr (9, fs0)), (v0_0, .inr (13, fs1))]) (va_A [(h0, .inr (9, fs0)), (v0_0, .inr (13, fs1)), (v1_1, .inl (c_v1_1, n_v1_1, .inl f_v1_1))] sz)) (va_A [(h0, .inr (9, fs0)), (v0_0, .inr (13, fs1)), (v1_1, .inl (c_v1_1, n_v1_1, .inl f_v1_1))] sz)) 0 0 (va_A [(h0, .inr (9, fs0)), (v0_0, .inr (13, fs1)), (v1_1, .inl (c_v1_1, n_v1_1, .inl f_v1_1))] sz) := by
  refine Met.ofW (cc := cX7_expect) (maxL := 2) (ret := none) (by decide) rfl ?_
  intro p e s m args below meth c s₁ B hml hv
  obtain ⟨rfl, hsz, hP, hK, hD0⟩ := hv
  have hx := B.exec
  have hb := B.bytes
  have hr := B.returns
  have hts := atoms_spec (ws := wsX7_expect) B.pre
  have hown : s.vm.findClass RX7 = some m.cls := findClass_of_methodNamed B.named
  have hlocks := B.notSynchronized
  subst hsz
  have hD := hD0.self (sz := s.heap.size)
  generalize hAe : va_A [(h0, .inr (9, fs0)), (v0_0, .inr (13, fs1)), (v1_1, .inl (c_v1_1, n_v1_1, .inl f_v1_1))] s.heap.size = A at hD ⊢
  have hA : ∀ q : Nat, s.heap.size ≤ q → A q := fun q h => by rw [← hAe]; exact Or.inr h
  have hS : va_S A s.heap s.heap [] := va_S.rf
  have hP : va_P (dC, dI) vwCl [(h0, .inr (9, fs0)), (v0_0, .inr (13, fs1)), (v1_1, .inl (c_v1_1, n_v1_1, .inl f_v1_1))] s.heap := hP
  have hl := lv_entry ([.ref h0, .int p0]) (n := 2) (Nat.le_of_ble_eq_true rfl)
  rw [lg_entry_eq]
  generalize (lg_sl ([.ref h0, .int p0]) ++ List.replicate (2 - (lg_sl ([.ref h0, .int p0])).length) Slot.unset).toArray = ls at hl ⊢
  have hl : lv_has ls 2 [(0, .ref h0), (1, .int p0)] := hl
  refine lv_aload_n hx hb dX7_expect_0 rfl (lv_at hl 0 rfl) ?_
  have hPc := hP.sub (ws' := [(h0, .inr (9, fs0))]) [0] rfl
  have hDc := hD.sub (ws' := [(h0, .inr (9, fs0))]) [0] (by decide) rfl
  have hKc := hK.sub (tys' := []) [] rfl
  have hFc := va_free (wc := [(h0, .inr (9, fs0))]) hD hS hA [0] rfl
  refine va_calli (va_runV (As := []) (rest := []) ⟨hx, hb, hml, hown, hts⟩ (c_X7_kind_r1 l dC dI s.heap.size h0 fs0 v0_15 hl0 hf0_15 hp_0) (cwV 0 hts gX7_expect_X7_kind rfl rfl rfl (by decide +kernel) ⟨Nat.le_of_ble_eq_true rfl, Nat.le_of_ble_eq_true rfl⟩) ⟨zPc_blind, va_recv hKc hPc (ci := 9) (q0 := 0) rfl rfl, fun U hU hW => zPc_at hPc hKc hDc hU hW⟩ rfl rfl hl.1 rfl (lv_room (Nat.le_of_ble_eq_true rfl)) dX7_expect_1 ⟨Nat.le_of_ble_eq_true rfl, Nat.le_of_ble_eq_true rfl⟩) hS (fun q _ h => hFc q h) hFc (fun r_1 u t H1 locs ht hvm hw hB hz1 hk1 hS => ?_)
  obtain ⟨hP1, hK1, hD1⟩ := hB
  subst hw
  rw [ht] at hP1
  have hK1 := va_K.moved hvm.symm hK1
  obtain ⟨hP, hD⟩ := va_join (wr := [(v0_0, .inr (13, fs1)), (v1_1, .inl (c_v1_1, n_v1_1, .inl f_v1_1))]) (w1 := [(h0, .inr (9, fs0))]) hP hD [0] [1, 2] rfl rfl (by decide) (by decide) hk1 hFc hP1 hD1
  generalize H1 = H at hP hS ⊢
  have hP : va_P (dC, dI) vwCl [(v0_0, .inr (13, fs1)), (v1_1, .inl (c_v1_1, n_v1_1, .inl f_v1_1)), (h0, .inr (9, fs0))] H := hP
  have hD : va_D A [(v0_0, .inr (13, fs1)), (v1_1, .inl (c_v1_1, n_v1_1, .inl f_v1_1)), (h0, .inr (9, fs0))] := hD
  refine lv_iload_n hx hb dX7_expect_4 rfl (lv_at hl 1 rfl) ?_
  refine lv_icmp_ne (tgt := 15) hx hb dX7_expect_5 (by decide) (fun c_1 => absurd hc_0 c_1) (fun c_1 => ?_)
  refine lv_aload_n hx hb dX7_expect_8 rfl (lv_at hl 0 rfl) ?_
  have hPc := hP.sub (ws' := [(h0, .inr (9, fs0)), (v0_0, .inr (13, fs1))]) [2, 0] rfl
  have hDc := hD.sub (ws' := [(h0, .inr (9, fs0)), (v0_0, .inr (13, fs1))]) [2, 0] (by decide) rfl
  have hKc := hK.sub (tys' := []) [] rfl
  have hFc := va_free (wc := [(h0, .inr (9, fs0)), (v0_0, .inr (13, fs1))]) hD hS hA [2, 0] rfl
  refine va_callv (va_runV (As := []) (rest := []) ⟨hx, hb, hml, hown, hts⟩ (c_X7_next_r0 l dC dI H.size h0 fs0 v0_11 v0_0 fs1 v1_4 hl0 hf0_11 hf0_0 hl1 hf1_4 hp_1) (cwV 0 hts gX7_expect_X7_next rfl rfl rfl (by decide +kernel) ⟨Nat.le_of_ble_eq_true rfl, Nat.le_of_ble_eq_true rfl⟩) ⟨zPc_blind, va_recv hKc hPc (ci := 9) (q0 := 0) rfl rfl, fun U hU hW => zPc_at hPc hKc hDc hU hW⟩ rfl rfl hl.1 rfl (lv_room (Nat.le_of_ble_eq_true rfl)) dX7_expect_9 ⟨Nat.le_of_ble_eq_true rfl, Nat.le_of_ble_eq_true rfl⟩) hS (fun q _ h => hFc q h) hFc (fun u t H1 locs ht hvm hw hB hz1 hk1 hS => ?_)
  obtain ⟨hP1, hK1, hD1⟩ := hB
  rw [ht] at hP1
  have hK1 := va_K.moved hvm.symm hK1
  obtain ⟨hP, hD⟩ := va_join (wr := [(v1_1, .inl (c_v1_1, n_v1_1, .inl f_v1_1))]) (w1 := [(h0, .inr (9, fs0)), (v0_0, .inr (13, fs1))]) hP hD [2, 0] [1] rfl rfl (by decide) (by decide) hk1 hFc hP1 hD1
  generalize H1 = H at hP hS ⊢
  have hP : va_P (dC, dI) vwCl [(v1_1, .inl (c_v1_1, n_v1_1, .inl f_v1_1)), (h0, .inr (9, fs0)), (v0_0, .inr (13, fs1))] H := hP
  have hD : va_D A [(v1_1, .inl (c_v1_1, n_v1_1, .inl f_v1_1)), (h0, .inr (9, fs0)), (v0_0, .inr (13, fs1))] := hD
  refine lv_goto (tgt := 19) hx hb dX7_expect_12 (by decide) ?_
  have hP9 := hP.sub (ws' := [(v1_1, .inl (c_v1_1, n_v1_1, .inl f_v1_1)), (h0, .inr (9, fs0)), (v0_0, .inr (13, fs1))]) [0, 1, 2] rfl
  have hD9 := hD.sub (ws' := [(v1_1, .inl (c_v1_1, n_v1_1, .inl f_v1_1)), (h0, .inr (9, fs0)), (v0_0, .inr (13, fs1))]) [0, 1, 2] (by decide) rfl
  have hK9 := hK.sub (tys' := [(c_v1_1, .int)]) [0] rfl
  exact W.vret hx hb hr (fun t ht hW => ⟨⟨(), rfl, trivial, (zB_mk (by rw [ht]; exact hP9) (va_K.moved hW.alike hK9) hD9)⟩, hS.F ht⟩) hS.2.2 dX7_expect_19
set_option maxHeartbeats 4000000 in
set_option maxRecDepth 100000 in
/-- X7_expect, a road -/
theorem c_X7_expect_r7 (l : Launch) (dC : Nat → ClassId) (dI : Nat → Nat → Nat) (sz : Nat) (h0 : Nat) (fs0 : List Value) (p0 : Int32) (v0_15 : Int32) (v0_0 : Nat) (fs1 : List Value) (v1_1 : Nat) (v0_11 : Int32) (n_v1_1 : Nat) (c_v1_1 : ClassId) (f_v1_1 : Nat → Int32) (v1_4 : Int32) (hl0 : fs0.length = 18) (hf0_15 : fs0[15]? = some (.int v0_15)) (hf0_0 : fs0[0]? = some (.ref v0_0)) (hl1 : fs1.length = 6) (hf1_1 : fs1[1]? = some (.ref v1_1)) (hf0_11 : fs0[11]? = some (.int v0_11)) (hf1_4 : fs1[4]? = some (.int v1_4)) (hp_0 : ¬ v0_15 < 0) (hp_1 : ¬ v1_4 ≤ v0_11) (hc_0 : 0 = p0) : Met l yX7_expect wsX7_expect ({ frames := 1, cells := 0, slots := 0, locals := 20 }) (zPc dC dI sz [.ref h0, .int p0] [(h0, .inr (9, fs0)), (v0_0, .inr (13, fs1)), (v1_1, .inl (c_v1_1, n_v1_1, .inl f_v1_1))] [(c_v1_1, .int)]) (va_Qv (fun _ : Unit => True) (zB dC dI (fun _ => [(c_v1_1, .int)]) (fun _ : Unit => [(v1_1, .inl (c_v1_1, n_v1_1, .inl f_v1_1)), (h0, .inr (9, (fs0.set 11 (.int (v0_11 + 1))))), (v0_0, .inr (13, fs1))]) (va_A [(h0, .inr (9, fs0)), (v0_0, .inr (13, fs1)), (v1_1, .inl (c_v1_1, n_v1_1, .inl f_v1_1))] sz)) (va_A [(h0, .inr (9, fs0)), (v0_0, .inr (13, fs1)), (v1_1, .inl (c_v1_1, n_v1_1, .inl f_v1_1))] sz)) 0 0 (va_A [(h0, .inr (9, fs0)), (v0_0, .inr (13, fs1)), (v1_1, .inl (c_v1_1, n_v1_1, .inl f_v1_1))] sz) := by
  refine Met.ofW (cc := cX7_expect) (maxL := 2) (ret := none) (by decide) rfl ?_
  intro p e s m args below meth c s₁ B hml hv
  obtain ⟨rfl, hsz, hP, hK, hD0⟩ := hv
  have hx := B.exec
  have hb := B.bytes
  have hr := B.returns
  have hts := atoms_spec (ws := wsX7_expect) B.pre
  have hown : s.vm.findClass RX7 = some m.cls := findClass_of_methodNamed B.named
  have hlocks := B.notSynchronized
  subst hsz
  have hD := hD0.self (sz := s.heap.size)
  generalize hAe : va_A [(h0, .inr (9, fs0)), (v0_0, .inr (13, fs1)), (v1_1, .inl (c_v1_1, n_v1_1, .inl f_v1_1))] s.heap.size = A at hD ⊢
  have hA : ∀ q : Nat, s.heap.size ≤ q → A q := fun q h => by rw [← hAe]; exact Or.inr h
  have hS : va_S A s.heap s.heap [] := va_S.rf
  have hP : va_P (dC, dI) vwCl [(h0, .inr (9, fs0)), (v0_0, .inr (13, fs1)), (v1_1, .inl (c_v1_1, n_v1_1, .inl f_v1_1))] s.heap := hP
  have hl := lv_entry ([.ref h0, .int p0]) (n := 2) (Nat.le_of_ble_eq_true rfl)
  rw [lg_entry_eq]
  generalize (lg_sl ([.ref h0, .int p0]) ++ List.replicate (2 - (lg_sl ([.ref h0, .int p0])).length) Slot.unset).toArray = ls at hl ⊢
  have hl : lv_has ls 2 [(0, .ref h0), (1, .int p0)] := hl
  refine lv_aload_n hx hb dX7_expect_0 rfl (lv_at hl 0 rfl) ?_
  have hPc := hP.sub (ws' := [(h0, .inr (9, fs0))]) [0] rfl
  have hDc := hD.sub (ws' := [(h0, .inr (9, fs0))]) [0] (by decide) rfl
  have hKc := hK.sub (tys' := []) [] rfl
  have hFc := va_free (wc := [(h0, .inr (9, fs0))]) hD hS hA [0] rfl
  refine va_calli (va_runV (As := []) (rest := []) ⟨hx, hb, hml, hown, hts⟩ (c_X7_kind_r1 l dC dI s.heap.size h0 fs0 v0_15 hl0 hf0_15 hp_0) (cwV 0 hts gX7_expect_X7_kind rfl rfl rfl (by decide +kernel) ⟨Nat.le_of_ble_eq_true rfl, Nat.le_of_ble_eq_true rfl⟩) ⟨zPc_blind, va_recv hKc hPc (ci := 9) (q0 := 0) rfl rfl, fun U hU hW => zPc_at hPc hKc hDc hU hW⟩ rfl rfl hl.1 rfl (lv_room (Nat.le_of_ble_eq_true rfl)) dX7_expect_1 ⟨Nat.le_of_ble_eq_true rfl, Nat.le_of_ble_eq_true rfl⟩) hS (fun q _ h => hFc q h) hFc (fun r_1 u t H1 locs ht hvm hw hB hz1 hk1 hS => ?_)
  obtain ⟨hP1, hK1, hD1⟩ := hB
  subst hw
  rw [ht] at hP1
  have hK1 := va_K.moved hvm.symm hK1
  obtain ⟨hP, hD⟩ := va_join (wr := [(v0_0, .inr (13, fs1)), (v1_1, .inl (c_v1_1, n_v1_1, .inl f_v1_1))]) (w1 := [(h0, .inr (9, fs0))]) hP hD [0] [1, 2] rfl rfl (by decide) (by decide) hk1 hFc hP1 hD1
  generalize H1 = H at hP hS ⊢
  have hP : va_P (dC, dI) vwCl [(v0_0, .inr (13, fs1)), (v1_1, .inl (c_v1_1, n_v1_1, .inl f_v1_1)), (h0, .inr (9, fs0))] H := hP
  have hD : va_D A [(v0_0, .inr (13, fs1)), (v1_1, .inl (c_v1_1, n_v1_1, .inl f_v1_1)), (h0, .inr (9, fs0))] := hD
  refine lv_iload_n hx hb dX7_expect_4 rfl (lv_at hl 1 rfl) ?_
  refine lv_icmp_ne (tgt := 15) hx hb dX7_expect_5 (by decide) (fun c_1 => absurd hc_0 c_1) (fun c_1 => ?_)
  refine lv_aload_n hx hb dX7_expect_8 rfl (lv_at hl 0 rfl) ?_
  have hPc := hP.sub (ws' := [(h0, .inr (9, fs0)), (v0_0, .inr (13, fs1))]) [2, 0] rfl
  have hDc := hD.sub (ws' := [(h0, .inr (9, fs0)), (v0_0, .inr (13, fs1))]) [2, 0] (by decide) rfl
  have hKc := hK.sub (tys' := []) [] rfl
  have hFc := va_free (wc := [(h0, .inr (9, fs0)), (v0_0, .inr (13, fs1))]) hD hS hA [2, 0] rfl
  refine va_callv (va_runV (As := []) (rest := []) ⟨hx, hb, hml, hown, hts⟩ (c_X7_next_r1 l dC dI H.size h0 fs0 v0_11 v0_0 fs1 v1_4 hl0 hf0_11 hf0_0 hl1 hf1_4 hp_1) (cwV 0 hts gX7_expect_X7_next rfl rfl rfl (by decide +kernel) ⟨Nat.le_of_ble_eq_true rfl, Nat.le_of_ble_eq_true rfl⟩) ⟨zPc_blind, va_recv hKc hPc (ci := 9) (q0 := 0) rfl rfl, fun U hU hW => zPc_at hPc hKc hDc hU hW⟩ rfl rfl hl.1 rfl (lv_room (Nat.le_of_ble_eq_true rfl)) dX7_expect_9 ⟨Nat.le_of_ble_eq_true rfl, Nat.le_of_ble_eq_true rfl⟩) hS (fun q _ h => hFc q h) hFc (fun u t H1 locs ht hvm hw hB hz1 hk1 hS => ?_)
  obtain ⟨hP1, hK1, hD1⟩ := hB
  rw [ht] at hP1
  have hK1 := va_K.moved hvm.symm hK1
  obtain ⟨hP, hD⟩ := va_join (wr := [(v1_1, .inl (c_v1_1, n_v1_1, .inl f_v1_1))]) (w1 := [(h0, .inr (9, (fs0.set 11 (.int (v0_11 + 1))))), (v0_0, .inr (13, fs1))]) hP hD [2, 0] [1] rfl rfl (by decide) (by decide) hk1 hFc hP1 hD1
  generalize H1 = H at hP hS ⊢
  have hP : va_P (dC, dI) vwCl [(v1_1, .inl (c_v1_1, n_v1_1, .inl f_v1_1)), (h0, .inr (9, (fs0.set 11 (.int (v0_11 + 1))))), (v0_0, .inr (13, fs1))] H := hP
  have hD : va_D A [(v1_1, .inl (c_v1_1, n_v1_1, .inl f_v1_1)), (h0, .inr (9, (fs0.set 11 (.int (v0_11 + 1))))), (v0_0, .inr (13, fs1))] := hD
  refine lv_goto (tgt := 19) hx hb dX7_expect_12 (by decide) ?_
  have hP9 := hP.sub (ws' := [(v1_1, .inl (c_v1_1, n_v1_1, .inl f_v1_1)), (h0, .inr (9, (fs0.set 11 (.int (v0_11 + 1))))), (v0_0, .inr (13, fs1))]) [0, 1, 2] rfl
  have hD9 := hD.sub (ws' := [(v1_1, .inl (c_v1_1, n_v1_1, .inl f_v1_1)), (h0, .inr (9, (fs0.set 11 (.int (v0_11 + 1))))), (v0_0, .inr (13, fs1))]) [0, 1, 2] (by decide) rfl
  have hK9 := hK.sub (tys' := [(c_v1_1, .int)]) [0] rfl
  exact W.vret hx hb hr (fun t ht hW => ⟨⟨(), rfl, trivial, (zB_mk (by rw [ht]; exact hP9) (va_K.moved hW.alike hK9) hD9)⟩, hS.F ht⟩) hS.2.2 dX7_expect_19
theorem iw_X10_function_X10 : ∀ w ∈ wsX100, w ∈ wsX10_function := fun w h => List.mem_cons_of_mem _ (List.mem_append_right _ h)
set_option maxHeartbeats 4000000 in
set_option maxRecDepth 100000 in
/-- X10_function, a road -/
theorem c_X10_function_r0 (l : Launch) (dC : Nat → ClassId) (dI : Nat → Nat → Nat) (sz : Nat) (h0 : Nat) (fs0 : List Value) (p0 : Int32) (p1 : Int32) (v0_6 : Int32) (v0_0 : Nat) (n_v0_0 : Nat) (c_v0_0 : ClassId) (f_v0_0 : Nat → Int32) (v0_3 : Nat) (n_v0_3 : Nat) (c_v0_3 : ClassId) (f_v0_3 : Nat → Int32) (v0_1 : Nat) (n_v0_1 : Nat) (c_v0_1 : ClassId) (f_v0_1 : Nat → Int32) (v0_2 : Nat) (n_v0_2 : Nat) (c_v0_2 : ClassId) (f_v0_2 : Nat → Int32) (hl0 : fs0.length = 10) (hf0_6 : fs0[6]? = some (.int v0_6)) (hf0_0 : fs0[0]? = some (.ref v0_0)) (hf0_3 : fs0[3]? = some (.ref v0_3)) (hf0_1 : fs0[1]? = some (.ref v0_1)) (hf0_2 : fs0[2]? = some (.ref v0_2)) (hp_0 : vp_in v0_6 n_v0_0) (hp_1 : vp_in v0_6 n_v0_3) (hp_2 : ¬ v0_6 = (Int32.ofNat n_v0_0)) (hi_3 : vp_in ((v0_6 + 1) - 1) n_v0_1) (hi_4 : vp_in ((v0_6 + 1) - 1) n_v0_2) : Met l yX10_function wsX10_function ({ frames := 1, cells := 0, slots := 0, locals := 21 }) (zPc dC dI sz [.ref h0, .int p0, .int p1] [(h0, .inr (12, fs0)), (v0_0, .inl (c_v0_0, n_v0_0, .inl f_v0_0)), (v0_3, .inl (c_v0_3, n_v0_3, .inl f_v0_3)), (v0_1, .inl (c_v0_1, n_v0_1, .inl f_v0_1)), (v0_2, .inl (c_v0_2, n_v0_2, .inl f_v0_2))] [(c_v0_0, .int), (c_v0_3, .int), (c_v0_1, .int), (c_v0_2, .int)]) (va_Qi (fun (r : Int32) (_ : Unit) => r = ((v0_6 + 1) - 1)) (zB dC dI (fun _ => [(c_v0_0, .int), (c_v0_3, .int), (c_v0_1, .int), (c_v0_2, .int)]) (fun _ : Unit => [(v0_1, .inl (c_v0_1, n_v0_1, .inl (upd f_v0_1 (((v0_6 + 1) - 1) : Int32).toNatClampNeg p0))), (v0_2, .inl (c_v0_2, n_v0_2, .inl (upd f_v0_2 (((v0_6 + 1) - 1) : Int32).toNatClampNeg p1))), (h0, .inr (12, (fs0.set 6 (.int (v0_6 + 1))))), (v0_0, .inl (c_v0_0, n_v0_0, .inl (upd f_v0_0 (v0_6 : Int32).toNatClampNeg 206))), (v0_3, .inl (c_v0_3, n_v0_3, .inl (upd f_v0_3 (v0_6 : Int32).toNatClampNeg v0_6)))]) (va_A [(h0, .inr (12, fs0)), (v0_0, .inl (c_v0_0, n_v0_0, .inl f_v0_0)), (v0_3, .inl (c_v0_3, n_v0_3, .inl f_v0_3)), (v0_1, .inl (c_v0_1, n_v0_1, .inl f_v0_1)), (v0_2, .inl (c_v0_2, n_v0_2, .inl f_v0_2))] sz)) (va_A [(h0, .inr (12, fs0)), (v0_0, .inl (c_v0_0, n_v0_0, .inl f_v0_0)), (v0_3, .inl (c_v0_3, n_v0_3, .inl f_v0_3)), (v0_1, .inl (c_v0_1, n_v0_1, .inl f_v0_1)), (v0_2, .inl (c_v0_2, n_v0_2, .inl f_v0_2))] sz)) 0 0 (va_A [(h0, .inr (12, fs0)), (v0_0, .inl (c_v0_0, n_v0_0, .inl f_v0_0)), (v0_3, .inl (c_v0_3, n_v0_3, .inl f_v0_3)), (v0_1, .inl (c_v0_1, n_v0_1, .inl f_v0_1)), (v0_2, .inl (c_v0_2, n_v0_2, .inl f_v0_2))] sz) := by
  refine Met.ofW (cc := cX10_function) (maxL := 4) (ret := (some .int)) (by decide) rfl ?_
  intro p e s m args below meth c s₁ B hml hv
  obtain ⟨rfl, hsz, hP, hK, hD0⟩ := hv
  have hx := B.exec
  have hb := B.bytes
  have hr := B.returns
  have hts := atoms_spec (ws := wsX10_function) B.pre
  have hown : s.vm.findClass RX10 = some m.cls := findClass_of_methodNamed B.named
  have hlocks := B.notSynchronized
  subst hsz
  have hD := hD0.self (sz := s.heap.size)
  generalize hAe : va_A [(h0, .inr (12, fs0)), (v0_0, .inl (c_v0_0, n_v0_0, .inl f_v0_0)), (v0_3, .inl (c_v0_3, n_v0_3, .inl f_v0_3)), (v0_1, .inl (c_v0_1, n_v0_1, .inl f_v0_1)), (v0_2, .inl (c_v0_2, n_v0_2, .inl f_v0_2))] s.heap.size = A at hD ⊢
  have hA : ∀ q : Nat, s.heap.size ≤ q → A q := fun q h => by rw [← hAe]; exact Or.inr h
  have hS : va_S A s.heap s.heap [] := va_S.rf
  have hP : va_P (dC, dI) vwCl [(h0, .inr (12, fs0)), (v0_0, .inl (c_v0_0, n_v0_0, .inl f_v0_0)), (v0_3, .inl (c_v0_3, n_v0_3, .inl f_v0_3)), (v0_1, .inl (c_v0_1, n_v0_1, .inl f_v0_1)), (v0_2, .inl (c_v0_2, n_v0_2, .inl f_v0_2))] s.heap := hP
  have hl := lv_entry ([.ref h0, .int p0, .int p1]) (n := 4) (Nat.le_of_ble_eq_true rfl)
  rw [lg_entry_eq]
  generalize (lg_sl ([.ref h0, .int p0, .int p1]) ++ List.replicate (4 - (lg_sl ([.ref h0, .int p0, .int p1])).length) Slot.unset).toArray = ls at hl ⊢
  have hl : lv_has ls 4 [(0, .ref h0), (1, .int p0), (2, .int p1)] := hl
  refine lv_aload_n hx hb dX10_function_0 rfl (lv_at hl 0 rfl) ?_
  refine lv_sipush (v := 206) hx hb dX10_function_1 (by decide) ?_
  have hPc := hP.sub (ws' := [(h0, .inr (12, fs0)), (v0_0, .inl (c_v0_0, n_v0_0, .inl f_v0_0)), (v0_3, .inl (c_v0_3, n_v0_3, .inl f_v0_3))]) [0, 1, 2] rfl
  have hDc := hD.sub (ws' := [(h0, .inr (12, fs0)), (v0_0, .inl (c_v0_0, n_v0_0, .inl f_v0_0)), (v0_3, .inl (c_v0_3, n_v0_3, .inl f_v0_3))]) [0, 1, 2] (by decide) rfl
  have hKc := hK.sub (tys' := [(c_v0_0, .int), (c_v0_3, .int)]) [0, 1] rfl
  have hFc := va_free (wc := [(h0, .inr (12, fs0)), (v0_0, .inl (c_v0_0, n_v0_0, .inl f_v0_0)), (v0_3, .inl (c_v0_3, n_v0_3, .inl f_v0_3))]) hD hS hA [0, 1, 2] rfl
  refine va_calli (va_runV (As := [.int 206]) (rest := []) ⟨hx, hb, hml, hown, hts⟩ (c_X10_make_r0 l dC dI s.heap.size h0 fs0 206 v0_6 v0_0 n_v0_0 c_v0_0 f_v0_0 v0_3 n_v0_3 c_v0_3 f_v0_3 hl0 hf0_6 hf0_0 hf0_3 hp_0 hp_1 hp_2) (cwV 1 hts gX10_function_X10_make rfl rfl rfl (by decide +kernel) ⟨Nat.le_of_ble_eq_true rfl, Nat.le_of_ble_eq_true rfl⟩) ⟨zPc_blind, va_recv hKc hPc (ci := 12) (q0 := 0) rfl rfl, fun U hU hW => zPc_at hPc hKc hDc hU hW⟩ rfl rfl hl.1 rfl (lv_room (Nat.le_of_ble_eq_true rfl)) dX10_function_4 ⟨Nat.le_of_ble_eq_true rfl, Nat.le_of_ble_eq_true rfl⟩) hS (fun q _ h => hFc q h) hFc (fun r_1 u t H1 locs ht hvm hw hB hz1 hk1 hS => ?_)
  obtain ⟨hP1, hK1, hD1⟩ := hB
  subst hw
  rw [ht] at hP1
  have hK1 := va_K.moved hvm.symm hK1
  obtain ⟨hP, hD⟩ := va_join (wr := [(v0_1, .inl (c_v0_1, n_v0_1, .inl f_v0_1)), (v0_2, .inl (c_v0_2, n_v0_2, .inl f_v0_2))]) (w1 := [(h0, .inr (12, (fs0.set 6 (.int (v0_6 + 1))))), (v0_0, .inl (c_v0_0, n_v0_0, .inl (upd f_v0_0 (v0_6 : Int32).toNatClampNeg 206))), (v0_3, .inl (c_v0_3, n_v0_3, .inl (upd f_v0_3 (v0_6 : Int32).toNatClampNeg v0_6)))]) hP hD [0, 1, 2] [3, 4] rfl rfl (by decide) (by decide) hk1 hFc hP1 hD1
  generalize H1 = H at hP hS ⊢
  have hP : va_P (dC, dI) vwCl [(v0_1, .inl (c_v0_1, n_v0_1, .inl f_v0_1)), (v0_2, .inl (c_v0_2, n_v0_2, .inl f_v0_2)), (h0, .inr (12, (fs0.set 6 (.int (v0_6 + 1))))), (v0_0, .inl (c_v0_0, n_v0_0, .inl (upd f_v0_0 (v0_6 : Int32).toNatClampNeg 206))), (v0_3, .inl (c_v0_3, n_v0_3, .inl (upd f_v0_3 (v0_6 : Int32).toNatClampNeg v0_6)))] H := hP
  have hD : va_D A [(v0_1, .inl (c_v0_1, n_v0_1, .inl f_v0_1)), (v0_2, .inl (c_v0_2, n_v0_2, .inl f_v0_2)), (h0, .inr (12, (fs0.set 6 (.int (v0_6 + 1))))), (v0_0, .inl (c_v0_0, n_v0_0, .inl (upd f_v0_0 (v0_6 : Int32).toNatClampNeg 206))), (v0_3, .inl (c_v0_3, n_v0_3, .inl (upd f_v0_3 (v0_6 : Int32).toNatClampNeg v0_6)))] := hD
  refine lv_istore_n (lv' := [(3, .int ((v0_6 + 1) - 1)), (0, .ref h0), (1, .int p0), (2, .int p1)]) hx hb dX10_function_7 rfl hl (by decide) rfl (fun ls hl => ?_)
  refine lv_aload_n hx hb dX10_function_8 rfl (lv_at hl 1 rfl) ?_
  refine va_get (D := (dC, dI)) (ci := 12) (v := .ref v0_1) (C := RX10) (T := TX10) (N := 10) hx hb hts iw_X10_function_X10 hown hK hP 2 rfl rfl 1 (by decide) (hts (.fieldLink RX10 22 "LiquidTongue$Typer" "takes" "[I") (by decide +kernel)) (fun _ h9 => h9) (zs_ne (by decide) hf0_1) dX10_function_9 ?_
  refine lv_iload_n hx hb dX10_function_12 rfl (lv_at hl 0 rfl) ?_
  refine lv_iload_n hx hb dX10_function_13 rfl (lv_at hl 2 rfl) ?_
  refine va_iast hx hb hK hP hD hS 0 2 rfl rfl hi_3 dX10_function_14 (fun H locs hP hD hS => ?_)
  have hP : va_P (dC, dI) vwCl [(v0_1, .inl (c_v0_1, n_v0_1, .inl (upd f_v0_1 (((v0_6 + 1) - 1) : Int32).toNatClampNeg p0))), (v0_2, .inl (c_v0_2, n_v0_2, .inl f_v0_2)), (h0, .inr (12, (fs0.set 6 (.int (v0_6 + 1))))), (v0_0, .inl (c_v0_0, n_v0_0, .inl (upd f_v0_0 (v0_6 : Int32).toNatClampNeg 206))), (v0_3, .inl (c_v0_3, n_v0_3, .inl (upd f_v0_3 (v0_6 : Int32).toNatClampNeg v0_6)))] H := hP
  have hD : va_D A [(v0_1, .inl (c_v0_1, n_v0_1, .inl (upd f_v0_1 (((v0_6 + 1) - 1) : Int32).toNatClampNeg p0))), (v0_2, .inl (c_v0_2, n_v0_2, .inl f_v0_2)), (h0, .inr (12, (fs0.set 6 (.int (v0_6 + 1))))), (v0_0, .inl (c_v0_0, n_v0_0, .inl (upd f_v0_0 (v0_6 : Int32).toNatClampNeg 206))), (v0_3, .inl (c_v0_3, n_v0_3, .inl (upd f_v0_3 (v0_6 : Int32).toNatClampNeg v0_6)))] := hD
  refine lv_aload_n hx hb dX10_function_15 rfl (lv_at hl 1 rfl) ?_
  refine va_get (D := (dC, dI)) (ci := 12) (v := .ref v0_2) (C := RX10) (T := TX10) (N := 10) hx hb hts iw_X10_function_X10 hown hK hP 2 rfl rfl 2 (by decide) (hts (.fieldLink RX10 25 "LiquidTongue$Typer" "answers" "[I") (by decide +kernel)) (fun _ h9 => h9) (zs_ne (by decide) hf0_2) dX10_function_16 ?_
  refine lv_iload_n hx hb dX10_function_19 rfl (lv_at hl 0 rfl) ?_
  refine lv_iload_n hx hb dX10_function_20 rfl (lv_at hl 3 rfl) ?_
  refine va_iast hx hb hK hP hD hS 1 3 rfl rfl hi_4 dX10_function_21 (fun H locs hP hD hS => ?_)
  have hP : va_P (dC, dI) vwCl [(v0_1, .inl (c_v0_1, n_v0_1, .inl (upd f_v0_1 (((v0_6 + 1) - 1) : Int32).toNatClampNeg p0))), (v0_2, .inl (c_v0_2, n_v0_2, .inl (upd f_v0_2 (((v0_6 + 1) - 1) : Int32).toNatClampNeg p1))), (h0, .inr (12, (fs0.set 6 (.int (v0_6 + 1))))), (v0_0, .inl (c_v0_0, n_v0_0, .inl (upd f_v0_0 (v0_6 : Int32).toNatClampNeg 206))), (v0_3, .inl (c_v0_3, n_v0_3, .inl (upd f_v0_3 (v0_6 : Int32).toNatClampNeg v0_6)))] H := hP
  have hD : va_D A [(v0_1, .inl (c_v0_1, n_v0_1, .inl (upd f_v0_1 (((v0_6 + 1) - 1) : Int32).toNatClampNeg p0))), (v0_2, .inl (c_v0_2, n_v0_2, .inl (upd f_v0_2 (((v0_6 + 1) - 1) : Int32).toNatClampNeg p1))), (h0, .inr (12, (fs0.set 6 (.int (v0_6 + 1))))), (v0_0, .inl (c_v0_0, n_v0_0, .inl (upd f_v0_0 (v0_6 : Int32).toNatClampNeg 206))), (v0_3, .inl (c_v0_3, n_v0_3, .inl (upd f_v0_3 (v0_6 : Int32).toNatClampNeg v0_6)))] := hD
  refine lv_iload_n hx hb dX10_function_22 rfl (lv_at hl 0 rfl) ?_
  have hP9 := hP.sub (ws' := [(v0_1, .inl (c_v0_1, n_v0_1, .inl (upd f_v0_1 (((v0_6 + 1) - 1) : Int32).toNatClampNeg p0))), (v0_2, .inl (c_v0_2, n_v0_2, .inl (upd f_v0_2 (((v0_6 + 1) - 1) : Int32).toNatClampNeg p1))), (h0, .inr (12, (fs0.set 6 (.int (v0_6 + 1))))), (v0_0, .inl (c_v0_0, n_v0_0, .inl (upd f_v0_0 (v0_6 : Int32).toNatClampNeg 206))), (v0_3, .inl (c_v0_3, n_v0_3, .inl (upd f_v0_3 (v0_6 : Int32).toNatClampNeg v0_6)))]) [0, 1, 2, 3, 4] rfl
  have hD9 := hD.sub (ws' := [(v0_1, .inl (c_v0_1, n_v0_1, .inl (upd f_v0_1 (((v0_6 + 1) - 1) : Int32).toNatClampNeg p0))), (v0_2, .inl (c_v0_2, n_v0_2, .inl (upd f_v0_2 (((v0_6 + 1) - 1) : Int32).toNatClampNeg p1))), (h0, .inr (12, (fs0.set 6 (.int (v0_6 + 1))))), (v0_0, .inl (c_v0_0, n_v0_0, .inl (upd f_v0_0 (v0_6 : Int32).toNatClampNeg 206))), (v0_3, .inl (c_v0_3, n_v0_3, .inl (upd f_v0_3 (v0_6 : Int32).toNatClampNeg v0_6)))]) [0, 1, 2, 3, 4] (by decide) rfl
  have hK9 := hK.sub (tys' := [(c_v0_0, .int), (c_v0_3, .int), (c_v0_1, .int), (c_v0_2, .int)]) [0, 1, 2, 3] rfl
  exact W.iret (v := ((v0_6 + 1) - 1)) hx hb hr (fun t ht hW => ⟨⟨((v0_6 + 1) - 1), (), rfl, rfl, (zB_mk (by rw [ht]; exact hP9) (va_K.moved hW.alike hK9) hD9)⟩, hS.F ht⟩) hS.2.2 dX10_function_23
set_option maxHeartbeats 4000000 in
set_option maxRecDepth 100000 in
/-- X10_function, a road -/
theorem c_X10_function_r1 (l : Launch) (dC : Nat → ClassId) (dI : Nat → Nat → Nat) (sz : Nat) (h0 : Nat) (fs0 : List Value) (p0 : Int32) (p1 : Int32) (v0_6 : Int32) (v0_0 : Nat) (n_v0_0 : Nat) (c_v0_0 : ClassId) (f_v0_0 : Nat → Int32) (v0_3 : Nat) (n_v0_3 : Nat) (c_v0_3 : ClassId) (f_v0_3 : Nat → Int32) (v0_1 : Nat) (n_v0_1 : Nat) (c_v0_1 : ClassId) (f_v0_1 : Nat → Int32) (v0_2 : Nat) (n_v0_2 : Nat) (c_v0_2 : ClassId) (f_v0_2 : Nat → Int32) (hl0 : fs0.length = 10) (hf0_6 : fs0[6]? = some (.int v0_6)) (hf0_0 : fs0[0]? = some (.ref v0_0)) (hf0_3 : fs0[3]? = some (.ref v0_3)) (hf0_1 : fs0[1]? = some (.ref v0_1)) (hf0_2 : fs0[2]? = some (.ref v0_2)) (hp_0 : v0_6 = (Int32.ofNat n_v0_0)) (hi_1 : vp_in 0 n_v0_1) (hi_2 : vp_in 0 n_v0_2) : Met l yX10_function wsX10_function ({ frames := 1, cells := 0, slots := 0, locals := 21 }) (zPc dC dI sz [.ref h0, .int p0, .int p1] [(h0, .inr (12, fs0)), (v0_0, .inl (c_v0_0, n_v0_0, .inl f_v0_0)), (v0_3, .inl (c_v0_3, n_v0_3, .inl f_v0_3)), (v0_1, .inl (c_v0_1, n_v0_1, .inl f_v0_1)), (v0_2, .inl (c_v0_2, n_v0_2, .inl f_v0_2))] [(c_v0_0, .int), (c_v0_3, .int), (c_v0_1, .int), (c_v0_2, .int)]) (va_Qi (fun (r : Int32) (_ : Unit) => r = 0) (zB dC dI (fun _ => [(c_v0_0, .int), (c_v0_3, .int), (c_v0_1, .int), (c_v0_2, .int)]) (fun _ : Unit => [(v0_3, .inl (c_v0_3, n_v0_3, .inl f_v0_3)), (v0_1, .inl (c_v0_1, n_v0_1, .inl (upd f_v0_1 (0 : Int32).toNatClampNeg p0))), (v0_2, .inl (c_v0_2, n_v0_2, .inl (upd f_v0_2 (0 : Int32).toNatClampNeg p1))), (h0, .inr (12, fs0)), (v0_0, .inl (c_v0_0, n_v0_0, .inl f_v0_0))]) (va_A [(h0, .inr (12, fs0)), (v0_0, .inl (c_v0_0, n_v0_0, .inl f_v0_0)), (v0_3, .inl (c_v0_3, n_v0_3, .inl f_v0_3)), (v0_1, .inl (c_v0_1, n_v0_1, .inl f_v0_1)), (v0_2, .inl (c_v0_2, n_v0_2, .inl f_v0_2))] sz)) (va_A [(h0, .inr (12, fs0)), (v0_0, .inl (c_v0_0, n_v0_0, .inl f_v0_0)), (v0_3, .inl (c_v0_3, n_v0_3, .inl f_v0_3)), (v0_1, .inl (c_v0_1, n_v0_1, .inl f_v0_1)), (v0_2, .inl (c_v0_2, n_v0_2, .inl f_v0_2))] sz)) 0 0 (va_A [(h0, .inr (12, fs0)), (v0_0, .inl (c_v0_0, n_v0_0, .inl f_v0_0)), (v0_3, .inl (c_v0_3, n_v0_3, .inl f_v0_3)), (v0_1, .inl (c_v0_1, n_v0_1, .inl f_v0_1)), (v0_2, .inl (c_v0_2, n_v0_2, .inl f_v0_2))] sz) := by
  refine Met.ofW (cc := cX10_function) (maxL := 4) (ret := (some .int)) (by decide) rfl ?_
  intro p e s m args below meth c s₁ B hml hv
  obtain ⟨rfl, hsz, hP, hK, hD0⟩ := hv
  have hx := B.exec
  have hb := B.bytes
  have hr := B.returns
  have hts := atoms_spec (ws := wsX10_function) B.pre
  have hown : s.vm.findClass RX10 = some m.cls := findClass_of_methodNamed B.named
  have hlocks := B.notSynchronized
  subst hsz
  have hD := hD0.self (sz := s.heap.size)
  generalize hAe : va_A [(h0, .inr (12, fs0)), (v0_0, .inl (c_v0_0, n_v0_0, .inl f_v0_0)), (v0_3, .inl (c_v0_3, n_v0_3, .inl f_v0_3)), (v0_1, .inl (c_v0_1, n_v0_1, .inl f_v0_1)), (v0_2, .inl (c_v0_2, n_v0_2, .inl f_v0_2))] s.heap.size = A at hD ⊢
  have hA : ∀ q : Nat, s.heap.size ≤ q → A q := fun q h => by rw [← hAe]; exact Or.inr h
  have hS : va_S A s.heap s.heap [] := va_S.rf
  have hP : va_P (dC, dI) vwCl [(h0, .inr (12, fs0)), (v0_0, .inl (c_v0_0, n_v0_0, .inl f_v0_0)), (v0_3, .inl (c_v0_3, n_v0_3, .inl f_v0_3)), (v0_1, .inl (c_v0_1, n_v0_1, .inl f_v0_1)), (v0_2, .inl (c_v0_2, n_v0_2, .inl f_v0_2))] s.heap := hP
  have hl := lv_entry ([.ref h0, .int p0, .int p1]) (n := 4) (Nat.le_of_ble_eq_true rfl)
  rw [lg_entry_eq]
  generalize (lg_sl ([.ref h0, .int p0, .int p1]) ++ List.replicate (4 - (lg_sl ([.ref h0, .int p0, .int p1])).length) Slot.unset).toArray = ls at hl ⊢
  have hl : lv_has ls 4 [(0, .ref h0), (1, .int p0), (2, .int p1)] := hl
  refine lv_aload_n hx hb dX10_function_0 rfl (lv_at hl 0 rfl) ?_
  refine lv_sipush (v := 206) hx hb dX10_function_1 (by decide) ?_
  have hPc := hP.sub (ws' := [(h0, .inr (12, fs0)), (v0_0, .inl (c_v0_0, n_v0_0, .inl f_v0_0))]) [0, 1] rfl
  have hDc := hD.sub (ws' := [(h0, .inr (12, fs0)), (v0_0, .inl (c_v0_0, n_v0_0, .inl f_v0_0))]) [0, 1] (by decide) rfl
  have hKc := hK.sub (tys' := [(c_v0_0, .int)]) [0] rfl
  have hFc := va_free (wc := [(h0, .inr (12, fs0)), (v0_0, .inl (c_v0_0, n_v0_0, .inl f_v0_0))]) hD hS hA [0, 1] rfl
  refine va_calli (va_runV (As := [.int 206]) (rest := []) ⟨hx, hb, hml, hown, hts⟩ (c_X10_make_r1 l dC dI s.heap.size h0 fs0 206 v0_6 v0_0 n_v0_0 c_v0_0 f_v0_0 hl0 hf0_6 hf0_0 hp_0) (cwV 1 hts gX10_function_X10_make rfl rfl rfl (by decide +kernel) ⟨Nat.le_of_ble_eq_true rfl, Nat.le_of_ble_eq_true rfl⟩) ⟨zPc_blind, va_recv hKc hPc (ci := 12) (q0 := 0) rfl rfl, fun U hU hW => zPc_at hPc hKc hDc hU hW⟩ rfl rfl hl.1 rfl (lv_room (Nat.le_of_ble_eq_true rfl)) dX10_function_4 ⟨Nat.le_of_ble_eq_true rfl, Nat.le_of_ble_eq_true rfl⟩) hS (fun q _ h => hFc q h) hFc (fun r_1 u t H1 locs ht hvm hw hB hz1 hk1 hS => ?_)
  obtain ⟨hP1, hK1, hD1⟩ := hB
  subst hw
  rw [ht] at hP1
  have hK1 := va_K.moved hvm.symm hK1
  obtain ⟨hP, hD⟩ := va_join (wr := [(v0_3, .inl (c_v0_3, n_v0_3, .inl f_v0_3)), (v0_1, .inl (c_v0_1, n_v0_1, .inl f_v0_1)), (v0_2, .inl (c_v0_2, n_v0_2, .inl f_v0_2))]) (w1 := [(h0, .inr (12, fs0)), (v0_0, .inl (c_v0_0, n_v0_0, .inl f_v0_0))]) hP hD [0, 1] [2, 3, 4] rfl rfl (by decide) (by decide) hk1 hFc hP1 hD1
  generalize H1 = H at hP hS ⊢
  have hP : va_P (dC, dI) vwCl [(v0_3, .inl (c_v0_3, n_v0_3, .inl f_v0_3)), (v0_1, .inl (c_v0_1, n_v0_1, .inl f_v0_1)), (v0_2, .inl (c_v0_2, n_v0_2, .inl f_v0_2)), (h0, .inr (12, fs0)), (v0_0, .inl (c_v0_0, n_v0_0, .inl f_v0_0))] H := hP
  have hD : va_D A [(v0_3, .inl (c_v0_3, n_v0_3, .inl f_v0_3)), (v0_1, .inl (c_v0_1, n_v0_1, .inl f_v0_1)), (v0_2, .inl (c_v0_2, n_v0_2, .inl f_v0_2)), (h0, .inr (12, fs0)), (v0_0, .inl (c_v0_0, n_v0_0, .inl f_v0_0))] := hD
  refine lv_istore_n (lv' := [(3, .int 0), (0, .ref h0), (1, .int p0), (2, .int p1)]) hx hb dX10_function_7 rfl hl (by decide) rfl (fun ls hl => ?_)
  refine lv_aload_n hx hb dX10_function_8 rfl (lv_at hl 1 rfl) ?_
  refine va_get (D := (dC, dI)) (ci := 12) (v := .ref v0_1) (C := RX10) (T := TX10) (N := 10) hx hb hts iw_X10_function_X10 hown hK hP 3 rfl rfl 1 (by decide) (hts (.fieldLink RX10 22 "LiquidTongue$Typer" "takes" "[I") (by decide +kernel)) (fun _ h9 => h9) hf0_1 dX10_function_9 ?_
  refine lv_iload_n hx hb dX10_function_12 rfl (lv_at hl 0 rfl) ?_
  refine lv_iload_n hx hb dX10_function_13 rfl (lv_at hl 2 rfl) ?_
  refine va_iast hx hb hK hP hD hS 1 2 rfl rfl hi_1 dX10_function_14 (fun H locs hP hD hS => ?_)
  have hP : va_P (dC, dI) vwCl [(v0_3, .inl (c_v0_3, n_v0_3, .inl f_v0_3)), (v0_1, .inl (c_v0_1, n_v0_1, .inl (upd f_v0_1 (0 : Int32).toNatClampNeg p0))), (v0_2, .inl (c_v0_2, n_v0_2, .inl f_v0_2)), (h0, .inr (12, fs0)), (v0_0, .inl (c_v0_0, n_v0_0, .inl f_v0_0))] H := hP
  have hD : va_D A [(v0_3, .inl (c_v0_3, n_v0_3, .inl f_v0_3)), (v0_1, .inl (c_v0_1, n_v0_1, .inl (upd f_v0_1 (0 : Int32).toNatClampNeg p0))), (v0_2, .inl (c_v0_2, n_v0_2, .inl f_v0_2)), (h0, .inr (12, fs0)), (v0_0, .inl (c_v0_0, n_v0_0, .inl f_v0_0))] := hD
  refine lv_aload_n hx hb dX10_function_15 rfl (lv_at hl 1 rfl) ?_
  refine va_get (D := (dC, dI)) (ci := 12) (v := .ref v0_2) (C := RX10) (T := TX10) (N := 10) hx hb hts iw_X10_function_X10 hown hK hP 3 rfl rfl 2 (by decide) (hts (.fieldLink RX10 25 "LiquidTongue$Typer" "answers" "[I") (by decide +kernel)) (fun _ h9 => h9) hf0_2 dX10_function_16 ?_
  refine lv_iload_n hx hb dX10_function_19 rfl (lv_at hl 0 rfl) ?_
  refine lv_iload_n hx hb dX10_function_20 rfl (lv_at hl 3 rfl) ?_
  refine va_iast hx hb hK hP hD hS 2 3 rfl rfl hi_2 dX10_function_21 (fun H locs hP hD hS => ?_)
  have hP : va_P (dC, dI) vwCl [(v0_3, .inl (c_v0_3, n_v0_3, .inl f_v0_3)), (v0_1, .inl (c_v0_1, n_v0_1, .inl (upd f_v0_1 (0 : Int32).toNatClampNeg p0))), (v0_2, .inl (c_v0_2, n_v0_2, .inl (upd f_v0_2 (0 : Int32).toNatClampNeg p1))), (h0, .inr (12, fs0)), (v0_0, .inl (c_v0_0, n_v0_0, .inl f_v0_0))] H := hP
  have hD : va_D A [(v0_3, .inl (c_v0_3, n_v0_3, .inl f_v0_3)), (v0_1, .inl (c_v0_1, n_v0_1, .inl (upd f_v0_1 (0 : Int32).toNatClampNeg p0))), (v0_2, .inl (c_v0_2, n_v0_2, .inl (upd f_v0_2 (0 : Int32).toNatClampNeg p1))), (h0, .inr (12, fs0)), (v0_0, .inl (c_v0_0, n_v0_0, .inl f_v0_0))] := hD
  refine lv_iload_n hx hb dX10_function_22 rfl (lv_at hl 0 rfl) ?_
  have hP9 := hP.sub (ws' := [(v0_3, .inl (c_v0_3, n_v0_3, .inl f_v0_3)), (v0_1, .inl (c_v0_1, n_v0_1, .inl (upd f_v0_1 (0 : Int32).toNatClampNeg p0))), (v0_2, .inl (c_v0_2, n_v0_2, .inl (upd f_v0_2 (0 : Int32).toNatClampNeg p1))), (h0, .inr (12, fs0)), (v0_0, .inl (c_v0_0, n_v0_0, .inl f_v0_0))]) [0, 1, 2, 3, 4] rfl
  have hD9 := hD.sub (ws' := [(v0_3, .inl (c_v0_3, n_v0_3, .inl f_v0_3)), (v0_1, .inl (c_v0_1, n_v0_1, .inl (upd f_v0_1 (0 : Int32).toNatClampNeg p0))), (v0_2, .inl (c_v0_2, n_v0_2, .inl (upd f_v0_2 (0 : Int32).toNatClampNeg p1))), (h0, .inr (12, fs0)), (v0_0, .inl (c_v0_0, n_v0_0, .inl f_v0_0))]) [0, 1, 2, 3, 4] (by decide) rfl
  have hK9 := hK.sub (tys' := [(c_v0_0, .int), (c_v0_3, .int), (c_v0_1, .int), (c_v0_2, .int)]) [0, 1, 2, 3] rfl
  exact W.iret (v := 0) hx hb hr (fun t ht hW => ⟨⟨0, (), rfl, rfl, (zB_mk (by rw [ht]; exact hP9) (va_K.moved hW.alike hK9) hD9)⟩, hS.F ht⟩) hS.2.2 dX10_function_23
set_option maxHeartbeats 4000000 in
set_option maxRecDepth 100000 in
/-- X11_continues, a road -/
theorem c_X11_continues_r0 (l : Launch) (dC : Nat → ClassId) (dI : Nat → Nat → Nat) (sz : Nat) (p0 : Int32) (p1 : Int32) (hp_0 : p0 < 48) (hc_0 : p1 = 0) : Met l yX11_continues wsX11_continues ({ frames := 1, cells := 0, slots := 0, locals := 20 }) (zPc dC dI sz [.int p0, .int p1] [] []) (va_Qi (fun (r : Int32) (_ : Unit) => r = 0) (zB dC dI (fun _ => []) (fun _ : Unit => []) (va_A [] sz)) (va_A [] sz)) 0 0 (va_A [] sz) := by
  refine Met.ofW (cc := cX11_continues) (maxL := 2) (ret := (some .boolean)) (by decide) rfl ?_
  intro p e s m args below meth c s₁ B hml hv
  obtain ⟨rfl, hsz, hP, hK, hD0⟩ := hv
  have hx := B.exec
  have hb := B.bytes
  have hr := B.returns
  have hts := atoms_spec (ws := wsX11_continues) B.pre
  have hown : s.vm.findClass RX11 = some m.cls := findClass_of_methodNamed B.named
  have hlocks := B.notSynchronized
  subst hsz
  have hD := hD0.self (sz := s.heap.size)
  generalize hAe : va_A [] s.heap.size = A at hD ⊢
  have hA : ∀ q : Nat, s.heap.size ≤ q → A q := fun q h => by rw [← hAe]; exact Or.inr h
  have hS : va_S A s.heap s.heap [] := va_S.rf
  have hP : va_P (dC, dI) vwCl [] s.heap := hP
  have hl := lv_entry ([.int p0, .int p1]) (n := 2) (Nat.le_of_ble_eq_true rfl)
  rw [lg_entry_eq]
  generalize (lg_sl ([.int p0, .int p1]) ++ List.replicate (2 - (lg_sl ([.int p0, .int p1])).length) Slot.unset).toArray = ls at hl ⊢
  have hl : lv_has ls 2 [(0, .int p0), (1, .int p1)] := hl
  refine lv_iload_n hx hb dX11_continues_0 rfl (lv_at hl 0 rfl) ?_
  have hPc := hP.sub (ws' := []) [] rfl
  have hDc := hD.sub (ws' := []) [] (by decide) rfl
  have hKc := hK.sub (tys' := []) [] rfl
  have hFc := va_free (wc := []) hD hS hA [] rfl
  refine va_calli (va_runS (As := [.int p0]) (rest := []) ⟨hx, hb, hml, hown, hts⟩ (c_X11_isDigit_r0 l dC dI s.heap.size p0 hp_0) (va_cwS 1 hts gX11_continues_X11_isDigit rfl rfl rfl (by decide +kernel) ⟨Nat.le_of_ble_eq_true rfl, Nat.le_of_ble_eq_true rfl⟩) ⟨zPc_blind, fun U hU hW => zPc_at hPc hKc hDc hU hW⟩ rfl rfl hl.1 rfl (lv_room (Nat.le_of_ble_eq_true rfl)) dX11_continues_1 ⟨Nat.le_of_ble_eq_true rfl, Nat.le_of_ble_eq_true rfl⟩) hS (fun q _ h => hFc q h) hFc (fun r_1 u t H1 locs ht hvm hw hB hz1 hk1 hS => ?_)
  obtain ⟨hP1, hK1, hD1⟩ := hB
  subst hw
  rw [ht] at hP1
  have hK1 := va_K.moved hvm.symm hK1
  obtain ⟨hP, hD⟩ := va_join (wr := []) (w1 := []) hP hD [] [] rfl rfl (by decide) (by decide) hk1 hFc hP1 hD1
  generalize H1 = H at hP hS ⊢
  have hP : va_P (dC, dI) vwCl [] H := hP
  have hD : va_D A [] := hD
  refine lv_if_ne (tgt := 24) hx hb dX11_continues_4 (by decide) (fun c_1 => absurd (by decide) c_1) (fun c_1 => ?_)
  refine lv_iload_n hx hb dX11_continues_7 rfl (lv_at hl 1 rfl) ?_
  refine lv_if_eq (tgt := 28) hx hb dX11_continues_8 (by decide) (fun c_2 => ?_) (fun c_2 => absurd hc_0 c_2)
  refine lv_iconst (v := 0) hx hb dX11_continues_28 (by decide) ?_
  have hP9 := hP.sub (ws' := []) [] rfl
  have hD9 := hD.sub (ws' := []) [] (by decide) rfl
  have hK9 := hK.sub (tys' := []) [] rfl
  exact W.zret (v := 0) hx hb hr (by first | rfl | decide) (fun t ht hW => ⟨⟨0, (), rfl, rfl, (zB_mk (by rw [ht]; exact hP9) (va_K.moved hW.alike hK9) hD9)⟩, hS.F ht⟩) hS.2.2 dX11_continues_29
set_option maxHeartbeats 4000000 in
set_option maxRecDepth 100000 in
/-- X11_continues, a road -/
theorem c_X11_continues_r1 (l : Launch) (dC : Nat → ClassId) (dI : Nat → Nat → Nat) (sz : Nat) (p0 : Int32) (p1 : Int32) (hp_0 : p0 < 48) (hp_1 : p0 < 97) (hc_0 : ¬ p1 = 0) (hc_1 : ¬ p0 = 95) : Met l yX11_continues wsX11_continues ({ frames := 1, cells := 0, slots := 0, locals := 20 }) (zPc dC dI sz [.int p0, .int p1] [] []) (va_Qi (fun (r : Int32) (_ : Unit) => r = 0) (zB dC dI (fun _ => []) (fun _ : Unit => []) (va_A [] sz)) (va_A [] sz)) 0 0 (va_A [] sz) := by
  refine Met.ofW (cc := cX11_continues) (maxL := 2) (ret := (some .boolean)) (by decide) rfl ?_
  intro p e s m args below meth c s₁ B hml hv
  obtain ⟨rfl, hsz, hP, hK, hD0⟩ := hv
  have hx := B.exec
  have hb := B.bytes
  have hr := B.returns
  have hts := atoms_spec (ws := wsX11_continues) B.pre
  have hown : s.vm.findClass RX11 = some m.cls := findClass_of_methodNamed B.named
  have hlocks := B.notSynchronized
  subst hsz
  have hD := hD0.self (sz := s.heap.size)
  generalize hAe : va_A [] s.heap.size = A at hD ⊢
  have hA : ∀ q : Nat, s.heap.size ≤ q → A q := fun q h => by rw [← hAe]; exact Or.inr h
  have hS : va_S A s.heap s.heap [] := va_S.rf
  have hP : va_P (dC, dI) vwCl [] s.heap := hP
  have hl := lv_entry ([.int p0, .int p1]) (n := 2) (Nat.le_of_ble_eq_true rfl)
  rw [lg_entry_eq]
  generalize (lg_sl ([.int p0, .int p1]) ++ List.replicate (2 - (lg_sl ([.int p0, .int p1])).length) Slot.unset).toArray = ls at hl ⊢
  have hl : lv_has ls 2 [(0, .int p0), (1, .int p1)] := hl
  refine lv_iload_n hx hb dX11_continues_0 rfl (lv_at hl 0 rfl) ?_
  have hPc := hP.sub (ws' := []) [] rfl
  have hDc := hD.sub (ws' := []) [] (by decide) rfl
  have hKc := hK.sub (tys' := []) [] rfl
  have hFc := va_free (wc := []) hD hS hA [] rfl
  refine va_calli (va_runS (As := [.int p0]) (rest := []) ⟨hx, hb, hml, hown, hts⟩ (c_X11_isDigit_r0 l dC dI s.heap.size p0 hp_0) (va_cwS 1 hts gX11_continues_X11_isDigit rfl rfl rfl (by decide +kernel) ⟨Nat.le_of_ble_eq_true rfl, Nat.le_of_ble_eq_true rfl⟩) ⟨zPc_blind, fun U hU hW => zPc_at hPc hKc hDc hU hW⟩ rfl rfl hl.1 rfl (lv_room (Nat.le_of_ble_eq_true rfl)) dX11_continues_1 ⟨Nat.le_of_ble_eq_true rfl, Nat.le_of_ble_eq_true rfl⟩) hS (fun q _ h => hFc q h) hFc (fun r_1 u t H1 locs ht hvm hw hB hz1 hk1 hS => ?_)
  obtain ⟨hP1, hK1, hD1⟩ := hB
  subst hw
  rw [ht] at hP1
  have hK1 := va_K.moved hvm.symm hK1
  obtain ⟨hP, hD⟩ := va_join (wr := []) (w1 := []) hP hD [] [] rfl rfl (by decide) (by decide) hk1 hFc hP1 hD1
  generalize H1 = H at hP hS ⊢
  have hP : va_P (dC, dI) vwCl [] H := hP
  have hD : va_D A [] := hD
  refine lv_if_ne (tgt := 24) hx hb dX11_continues_4 (by decide) (fun c_1 => absurd (by decide) c_1) (fun c_1 => ?_)
  refine lv_iload_n hx hb dX11_continues_7 rfl (lv_at hl 1 rfl) ?_
  refine lv_if_eq (tgt := 28) hx hb dX11_continues_8 (by decide) (fun c_2 => absurd c_2 hc_0) (fun c_2 => ?_)
  refine lv_iload_n hx hb dX11_continues_11 rfl (lv_at hl 0 rfl) ?_
  have hPc := hP.sub (ws' := []) [] rfl
  have hDc := hD.sub (ws' := []) [] (by decide) rfl
  have hKc := hK.sub (tys' := []) [] rfl
  have hFc := va_free (wc := []) hD hS hA [] rfl
  refine va_calli (va_runS (As := [.int p0]) (rest := []) ⟨hx, hb, hml, hown, hts⟩ (c_X11_isLetter_r0 l dC dI H.size p0 hp_1) (va_cwS 1 hts gX11_continues_X11_isLetter rfl rfl rfl (by decide +kernel) ⟨Nat.le_of_ble_eq_true rfl, Nat.le_of_ble_eq_true rfl⟩) ⟨zPc_blind, fun U hU hW => zPc_at hPc hKc hDc hU hW⟩ rfl rfl hl.1 rfl (lv_room (Nat.le_of_ble_eq_true rfl)) dX11_continues_12 ⟨Nat.le_of_ble_eq_true rfl, Nat.le_of_ble_eq_true rfl⟩) hS (fun q _ h => hFc q h) hFc (fun r_2 u t H1 locs ht hvm hw hB hz1 hk1 hS => ?_)
  obtain ⟨hP1, hK1, hD1⟩ := hB
  subst hw
  rw [ht] at hP1
  have hK1 := va_K.moved hvm.symm hK1
  obtain ⟨hP, hD⟩ := va_join (wr := []) (w1 := []) hP hD [] [] rfl rfl (by decide) (by decide) hk1 hFc hP1 hD1
  generalize H1 = H at hP hS ⊢
  have hP : va_P (dC, dI) vwCl [] H := hP
  have hD : va_D A [] := hD
  refine lv_if_ne (tgt := 24) hx hb dX11_continues_15 (by decide) (fun c_3 => absurd (by decide) c_3) (fun c_3 => ?_)
  refine lv_iload_n hx hb dX11_continues_18 rfl (lv_at hl 0 rfl) ?_
  refine lv_bipush (v := 95) hx hb dX11_continues_19 (by decide) ?_
  refine lv_icmp_ne (tgt := 28) hx hb dX11_continues_21 (by decide) (fun c_4 => ?_) (fun c_4 => absurd c_4 hc_1)
  refine lv_iconst (v := 0) hx hb dX11_continues_28 (by decide) ?_
  have hP9 := hP.sub (ws' := []) [] rfl
  have hD9 := hD.sub (ws' := []) [] (by decide) rfl
  have hK9 := hK.sub (tys' := []) [] rfl
  exact W.zret (v := 0) hx hb hr (by first | rfl | decide) (fun t ht hW => ⟨⟨0, (), rfl, rfl, (zB_mk (by rw [ht]; exact hP9) (va_K.moved hW.alike hK9) hD9)⟩, hS.F ht⟩) hS.2.2 dX11_continues_29
set_option maxHeartbeats 4000000 in
set_option maxRecDepth 100000 in
/-- X11_continues, a road -/
theorem c_X11_continues_r2 (l : Launch) (dC : Nat → ClassId) (dI : Nat → Nat → Nat) (sz : Nat) (p0 : Int32) (p1 : Int32) (hp_0 : p0 < 48) (hp_1 : p0 < 97) (hc_0 : ¬ p1 = 0) (hc_1 : p0 = 95) : Met l yX11_continues wsX11_continues ({ frames := 1, cells := 0, slots := 0, locals := 20 }) (zPc dC dI sz [.int p0, .int p1] [] []) (va_Qi (fun (r : Int32) (_ : Unit) => r = 1) (zB dC dI (fun _ => []) (fun _ : Unit => []) (va_A [] sz)) (va_A [] sz)) 0 0 (va_A [] sz) := by
  refine Met.ofW (cc := cX11_continues) (maxL := 2) (ret := (some .boolean)) (by decide) rfl ?_
  intro p e s m args below meth c s₁ B hml hv
  obtain ⟨rfl, hsz, hP, hK, hD0⟩ := hv
  have hx := B.exec
  have hb := B.bytes
  have hr := B.returns
  have hts := atoms_spec (ws := wsX11_continues) B.pre
  have hown : s.vm.findClass RX11 = some m.cls := findClass_of_methodNamed B.named
  have hlocks := B.notSynchronized
  subst hsz
  have hD := hD0.self (sz := s.heap.size)
  generalize hAe : va_A [] s.heap.size = A at hD ⊢
  have hA : ∀ q : Nat, s.heap.size ≤ q → A q := fun q h => by rw [← hAe]; exact Or.inr h
  have hS : va_S A s.heap s.heap [] := va_S.rf
  have hP : va_P (dC, dI) vwCl [] s.heap := hP
  have hl := lv_entry ([.int p0, .int p1]) (n := 2) (Nat.le_of_ble_eq_true rfl)
  rw [lg_entry_eq]
  generalize (lg_sl ([.int p0, .int p1]) ++ List.replicate (2 - (lg_sl ([.int p0, .int p1])).length) Slot.unset).toArray = ls at hl ⊢
  have hl : lv_has ls 2 [(0, .int p0), (1, .int p1)] := hl
  refine lv_iload_n hx hb dX11_continues_0 rfl (lv_at hl 0 rfl) ?_
  have hPc := hP.sub (ws' := []) [] rfl
  have hDc := hD.sub (ws' := []) [] (by decide) rfl
  have hKc := hK.sub (tys' := []) [] rfl
  have hFc := va_free (wc := []) hD hS hA [] rfl
  refine va_calli (va_runS (As := [.int p0]) (rest := []) ⟨hx, hb, hml, hown, hts⟩ (c_X11_isDigit_r0 l dC dI s.heap.size p0 hp_0) (va_cwS 1 hts gX11_continues_X11_isDigit rfl rfl rfl (by decide +kernel) ⟨Nat.le_of_ble_eq_true rfl, Nat.le_of_ble_eq_true rfl⟩) ⟨zPc_blind, fun U hU hW => zPc_at hPc hKc hDc hU hW⟩ rfl rfl hl.1 rfl (lv_room (Nat.le_of_ble_eq_true rfl)) dX11_continues_1 ⟨Nat.le_of_ble_eq_true rfl, Nat.le_of_ble_eq_true rfl⟩) hS (fun q _ h => hFc q h) hFc (fun r_1 u t H1 locs ht hvm hw hB hz1 hk1 hS => ?_)
  obtain ⟨hP1, hK1, hD1⟩ := hB
  subst hw
  rw [ht] at hP1
  have hK1 := va_K.moved hvm.symm hK1
  obtain ⟨hP, hD⟩ := va_join (wr := []) (w1 := []) hP hD [] [] rfl rfl (by decide) (by decide) hk1 hFc hP1 hD1
  generalize H1 = H at hP hS ⊢
  have hP : va_P (dC, dI) vwCl [] H := hP
  have hD : va_D A [] := hD
  refine lv_if_ne (tgt := 24) hx hb dX11_continues_4 (by decide) (fun c_1 => absurd (by decide) c_1) (fun c_1 => ?_)
  refine lv_iload_n hx hb dX11_continues_7 rfl (lv_at hl 1 rfl) ?_
  refine lv_if_eq (tgt := 28) hx hb dX11_continues_8 (by decide) (fun c_2 => absurd c_2 hc_0) (fun c_2 => ?_)
  refine lv_iload_n hx hb dX11_continues_11 rfl (lv_at hl 0 rfl) ?_
  have hPc := hP.sub (ws' := []) [] rfl
  have hDc := hD.sub (ws' := []) [] (by decide) rfl
  have hKc := hK.sub (tys' := []) [] rfl
  have hFc := va_free (wc := []) hD hS hA [] rfl
  refine va_calli (va_runS (As := [.int p0]) (rest := []) ⟨hx, hb, hml, hown, hts⟩ (c_X11_isLetter_r0 l dC dI H.size p0 hp_1) (va_cwS 1 hts gX11_continues_X11_isLetter rfl rfl rfl (by decide +kernel) ⟨Nat.le_of_ble_eq_true rfl, Nat.le_of_ble_eq_true rfl⟩) ⟨zPc_blind, fun U hU hW => zPc_at hPc hKc hDc hU hW⟩ rfl rfl hl.1 rfl (lv_room (Nat.le_of_ble_eq_true rfl)) dX11_continues_12 ⟨Nat.le_of_ble_eq_true rfl, Nat.le_of_ble_eq_true rfl⟩) hS (fun q _ h => hFc q h) hFc (fun r_2 u t H1 locs ht hvm hw hB hz1 hk1 hS => ?_)
  obtain ⟨hP1, hK1, hD1⟩ := hB
  subst hw
  rw [ht] at hP1
  have hK1 := va_K.moved hvm.symm hK1
  obtain ⟨hP, hD⟩ := va_join (wr := []) (w1 := []) hP hD [] [] rfl rfl (by decide) (by decide) hk1 hFc hP1 hD1
  generalize H1 = H at hP hS ⊢
  have hP : va_P (dC, dI) vwCl [] H := hP
  have hD : va_D A [] := hD
  refine lv_if_ne (tgt := 24) hx hb dX11_continues_15 (by decide) (fun c_3 => absurd (by decide) c_3) (fun c_3 => ?_)
  refine lv_iload_n hx hb dX11_continues_18 rfl (lv_at hl 0 rfl) ?_
  refine lv_bipush (v := 95) hx hb dX11_continues_19 (by decide) ?_
  refine lv_icmp_ne (tgt := 28) hx hb dX11_continues_21 (by decide) (fun c_4 => absurd hc_1 c_4) (fun c_4 => ?_)
  refine lv_iconst (v := 1) hx hb dX11_continues_24 (by decide) ?_
  refine lv_goto (tgt := 29) hx hb dX11_continues_25 (by decide) ?_
  have hP9 := hP.sub (ws' := []) [] rfl
  have hD9 := hD.sub (ws' := []) [] (by decide) rfl
  have hK9 := hK.sub (tys' := []) [] rfl
  exact W.zret (v := 1) hx hb hr (by first | rfl | decide) (fun t ht hW => ⟨⟨1, (), rfl, rfl, (zB_mk (by rw [ht]; exact hP9) (va_K.moved hW.alike hK9) hD9)⟩, hS.F ht⟩) hS.2.2 dX11_continues_29
set_option maxHeartbeats 4000000 in
set_option maxRecDepth 100000 in
/-- X11_continues, a road -/
theorem c_X11_continues_r3 (l : Launch) (dC : Nat → ClassId) (dI : Nat → Nat → Nat) (sz : Nat) (p0 : Int32) (p1 : Int32) (hp_0 : p0 < 48) (hp_1 : ¬ p0 < 97) (hp_2 : ¬ 122 < p0) (hc_0 : ¬ p1 = 0) : Met l yX11_continues wsX11_continues ({ frames := 1, cells := 0, slots := 0, locals := 20 }) (zPc dC dI sz [.int p0, .int p1] [] []) (va_Qi (fun (r : Int32) (_ : Unit) => r = 1) (zB dC dI (fun _ => []) (fun _ : Unit => []) (va_A [] sz)) (va_A [] sz)) 0 0 (va_A [] sz) := by
  refine Met.ofW (cc := cX11_continues) (maxL := 2) (ret := (some .boolean)) (by decide) rfl ?_
  intro p e s m args below meth c s₁ B hml hv
  obtain ⟨rfl, hsz, hP, hK, hD0⟩ := hv
  have hx := B.exec
  have hb := B.bytes
  have hr := B.returns
  have hts := atoms_spec (ws := wsX11_continues) B.pre
  have hown : s.vm.findClass RX11 = some m.cls := findClass_of_methodNamed B.named
  have hlocks := B.notSynchronized
  subst hsz
  have hD := hD0.self (sz := s.heap.size)
  generalize hAe : va_A [] s.heap.size = A at hD ⊢
  have hA : ∀ q : Nat, s.heap.size ≤ q → A q := fun q h => by rw [← hAe]; exact Or.inr h
  have hS : va_S A s.heap s.heap [] := va_S.rf
  have hP : va_P (dC, dI) vwCl [] s.heap := hP
  have hl := lv_entry ([.int p0, .int p1]) (n := 2) (Nat.le_of_ble_eq_true rfl)
  rw [lg_entry_eq]
  generalize (lg_sl ([.int p0, .int p1]) ++ List.replicate (2 - (lg_sl ([.int p0, .int p1])).length) Slot.unset).toArray = ls at hl ⊢
  have hl : lv_has ls 2 [(0, .int p0), (1, .int p1)] := hl
  refine lv_iload_n hx hb dX11_continues_0 rfl (lv_at hl 0 rfl) ?_
  have hPc := hP.sub (ws' := []) [] rfl
  have hDc := hD.sub (ws' := []) [] (by decide) rfl
  have hKc := hK.sub (tys' := []) [] rfl
  have hFc := va_free (wc := []) hD hS hA [] rfl
  refine va_calli (va_runS (As := [.int p0]) (rest := []) ⟨hx, hb, hml, hown, hts⟩ (c_X11_isDigit_r0 l dC dI s.heap.size p0 hp_0) (va_cwS 1 hts gX11_continues_X11_isDigit rfl rfl rfl (by decide +kernel) ⟨Nat.le_of_ble_eq_true rfl, Nat.le_of_ble_eq_true rfl⟩) ⟨zPc_blind, fun U hU hW => zPc_at hPc hKc hDc hU hW⟩ rfl rfl hl.1 rfl (lv_room (Nat.le_of_ble_eq_true rfl)) dX11_continues_1 ⟨Nat.le_of_ble_eq_true rfl, Nat.le_of_ble_eq_true rfl⟩) hS (fun q _ h => hFc q h) hFc (fun r_1 u t H1 locs ht hvm hw hB hz1 hk1 hS => ?_)
  obtain ⟨hP1, hK1, hD1⟩ := hB
  subst hw
  rw [ht] at hP1
  have hK1 := va_K.moved hvm.symm hK1
  obtain ⟨hP, hD⟩ := va_join (wr := []) (w1 := []) hP hD [] [] rfl rfl (by decide) (by decide) hk1 hFc hP1 hD1
  generalize H1 = H at hP hS ⊢
  have hP : va_P (dC, dI) vwCl [] H := hP
  have hD : va_D A [] := hD
  refine lv_if_ne (tgt := 24) hx hb dX11_continues_4 (by decide) (fun c_1 => absurd (by decide) c_1) (fun c_1 => ?_)
  refine lv_iload_n hx hb dX11_continues_7 rfl (lv_at hl 1 rfl) ?_
  refine lv_if_eq (tgt := 28) hx hb dX11_continues_8 (by decide) (fun c_2 => absurd c_2 hc_0) (fun c_2 => ?_)
  refine lv_iload_n hx hb dX11_continues_11 rfl (lv_at hl 0 rfl) ?_
  have hPc := hP.sub (ws' := []) [] rfl
  have hDc := hD.sub (ws' := []) [] (by decide) rfl
  have hKc := hK.sub (tys' := []) [] rfl
  have hFc := va_free (wc := []) hD hS hA [] rfl
  refine va_calli (va_runS (As := [.int p0]) (rest := []) ⟨hx, hb, hml, hown, hts⟩ (c_X11_isLetter_r2 l dC dI H.size p0 hp_1 hp_2) (va_cwS 1 hts gX11_continues_X11_isLetter rfl rfl rfl (by decide +kernel) ⟨Nat.le_of_ble_eq_true rfl, Nat.le_of_ble_eq_true rfl⟩) ⟨zPc_blind, fun U hU hW => zPc_at hPc hKc hDc hU hW⟩ rfl rfl hl.1 rfl (lv_room (Nat.le_of_ble_eq_true rfl)) dX11_continues_12 ⟨Nat.le_of_ble_eq_true rfl, Nat.le_of_ble_eq_true rfl⟩) hS (fun q _ h => hFc q h) hFc (fun r_2 u t H1 locs ht hvm hw hB hz1 hk1 hS => ?_)
  obtain ⟨hP1, hK1, hD1⟩ := hB
  subst hw
  rw [ht] at hP1
  have hK1 := va_K.moved hvm.symm hK1
  obtain ⟨hP, hD⟩ := va_join (wr := []) (w1 := []) hP hD [] [] rfl rfl (by decide) (by decide) hk1 hFc hP1 hD1
  generalize H1 = H at hP hS ⊢
  have hP : va_P (dC, dI) vwCl [] H := hP
  have hD : va_D A [] := hD
  refine lv_if_ne (tgt := 24) hx hb dX11_continues_15 (by decide) (fun c_3 => ?_) (fun c_3 => absurd c_3 (by decide))
  refine lv_iconst (v := 1) hx hb dX11_continues_24 (by decide) ?_
  refine lv_goto (tgt := 29) hx hb dX11_continues_25 (by decide) ?_
  have hP9 := hP.sub (ws' := []) [] rfl
  have hD9 := hD.sub (ws' := []) [] (by decide) rfl
  have hK9 := hK.sub (tys' := []) [] rfl
  exact W.zret (v := 1) hx hb hr (by first | rfl | decide) (fun t ht hW => ⟨⟨1, (), rfl, rfl, (zB_mk (by rw [ht]; exact hP9) (va_K.moved hW.alike hK9) hD9)⟩, hS.F ht⟩) hS.2.2 dX11_continues_29
set_option maxHeartbeats 4000000 in
set_option maxRecDepth 100000 in
/-- X11_continues, a road -/
theorem c_X11_continues_r4 (l : Launch) (dC : Nat → ClassId) (dI : Nat → Nat → Nat) (sz : Nat) (p0 : Int32) (p1 : Int32) (hp_0 : p0 < 48) (hp_1 : ¬ p0 < 97) (hp_2 : 122 < p0) (hc_0 : ¬ p1 = 0) (hc_1 : ¬ p0 = 95) : Met l yX11_continues wsX11_continues ({ frames := 1, cells := 0, slots := 0, locals := 20 }) (zPc dC dI sz [.int p0, .int p1] [] []) (va_Qi (fun (r : Int32) (_ : Unit) => r = 0) (zB dC dI (fun _ => []) (fun _ : Unit => []) (va_A [] sz)) (va_A [] sz)) 0 0 (va_A [] sz) := by
  refine Met.ofW (cc := cX11_continues) (maxL := 2) (ret := (some .boolean)) (by decide) rfl ?_
  intro p e s m args below meth c s₁ B hml hv
  obtain ⟨rfl, hsz, hP, hK, hD0⟩ := hv
  have hx := B.exec
  have hb := B.bytes
  have hr := B.returns
  have hts := atoms_spec (ws := wsX11_continues) B.pre
  have hown : s.vm.findClass RX11 = some m.cls := findClass_of_methodNamed B.named
  have hlocks := B.notSynchronized
  subst hsz
  have hD := hD0.self (sz := s.heap.size)
  generalize hAe : va_A [] s.heap.size = A at hD ⊢
  have hA : ∀ q : Nat, s.heap.size ≤ q → A q := fun q h => by rw [← hAe]; exact Or.inr h
  have hS : va_S A s.heap s.heap [] := va_S.rf
  have hP : va_P (dC, dI) vwCl [] s.heap := hP
  have hl := lv_entry ([.int p0, .int p1]) (n := 2) (Nat.le_of_ble_eq_true rfl)
  rw [lg_entry_eq]
  generalize (lg_sl ([.int p0, .int p1]) ++ List.replicate (2 - (lg_sl ([.int p0, .int p1])).length) Slot.unset).toArray = ls at hl ⊢
  have hl : lv_has ls 2 [(0, .int p0), (1, .int p1)] := hl
  refine lv_iload_n hx hb dX11_continues_0 rfl (lv_at hl 0 rfl) ?_
  have hPc := hP.sub (ws' := []) [] rfl
  have hDc := hD.sub (ws' := []) [] (by decide) rfl
  have hKc := hK.sub (tys' := []) [] rfl
  have hFc := va_free (wc := []) hD hS hA [] rfl
  refine va_calli (va_runS (As := [.int p0]) (rest := []) ⟨hx, hb, hml, hown, hts⟩ (c_X11_isDigit_r0 l dC dI s.heap.size p0 hp_0) (va_cwS 1 hts gX11_continues_X11_isDigit rfl rfl rfl (by decide +kernel) ⟨Nat.le_of_ble_eq_true rfl, Nat.le_of_ble_eq_true rfl⟩) ⟨zPc_blind, fun U hU hW => zPc_at hPc hKc hDc hU hW⟩ rfl rfl hl.1 rfl (lv_room (Nat.le_of_ble_eq_true rfl)) dX11_continues_1 ⟨Nat.le_of_ble_eq_true rfl, Nat.le_of_ble_eq_true rfl⟩) hS (fun q _ h => hFc q h) hFc (fun r_1 u t H1 locs ht hvm hw hB hz1 hk1 hS => ?_)
  obtain ⟨hP1, hK1, hD1⟩ := hB
  subst hw
  rw [ht] at hP1
  have hK1 := va_K.moved hvm.symm hK1
  obtain ⟨hP, hD⟩ := va_join (wr := []) (w1 := []) hP hD [] [] rfl rfl (by decide) (by decide) hk1 hFc hP1 hD1
  generalize H1 = H at hP hS ⊢
  have hP : va_P (dC, dI) vwCl [] H := hP
  have hD : va_D A [] := hD
  refine lv_if_ne (tgt := 24) hx hb dX11_continues_4 (by decide) (fun c_1 => absurd (by decide) c_1) (fun c_1 => ?_)
  refine lv_iload_n hx hb dX11_continues_7 rfl (lv_at hl 1 rfl) ?_
  refine lv_if_eq (tgt := 28) hx hb dX11_continues_8 (by decide) (fun c_2 => absurd c_2 hc_0) (fun c_2 => ?_)
  refine lv_iload_n hx hb dX11_continues_11 rfl (lv_at hl 0 rfl) ?_
  have hPc := hP.sub (ws' := []) [] rfl
  have hDc := hD.sub (ws' := []) [] (by decide) rfl
  have hKc := hK.sub (tys' := []) [] rfl
  have hFc := va_free (wc := []) hD hS hA [] rfl
  refine va_calli (va_runS (As := [.int p0]) (rest := []) ⟨hx, hb, hml, hown, hts⟩ (c_X11_isLetter_r1 l dC dI H.size p0 hp_1 hp_2) (va_cwS 1 hts gX11_continues_X11_isLetter rfl rfl rfl (by decide +kernel) ⟨Nat.le_of_ble_eq_true rfl, Nat.le_of_ble_eq_true rfl⟩) ⟨zPc_blind, fun U hU hW => zPc_at hPc hKc hDc hU hW⟩ rfl rfl hl.1 rfl (lv_room (Nat.le_of_ble_eq_true rfl)) dX11_continues_12 ⟨Nat.le_of_ble_eq_true rfl, Nat.le_of_ble_eq_true rfl⟩) hS (fun q _ h => hFc q h) hFc (fun r_2 u t H1 locs ht hvm hw hB hz1 hk1 hS => ?_)
  obtain ⟨hP1, hK1, hD1⟩ := hB
  subst hw
  rw [ht] at hP1
  have hK1 := va_K.moved hvm.symm hK1
  obtain ⟨hP, hD⟩ := va_join (wr := []) (w1 := []) hP hD [] [] rfl rfl (by decide) (by decide) hk1 hFc hP1 hD1
  generalize H1 = H at hP hS ⊢
  have hP : va_P (dC, dI) vwCl [] H := hP
  have hD : va_D A [] := hD
  refine lv_if_ne (tgt := 24) hx hb dX11_continues_15 (by decide) (fun c_3 => absurd (by decide) c_3) (fun c_3 => ?_)
  refine lv_iload_n hx hb dX11_continues_18 rfl (lv_at hl 0 rfl) ?_
  refine lv_bipush (v := 95) hx hb dX11_continues_19 (by decide) ?_
  refine lv_icmp_ne (tgt := 28) hx hb dX11_continues_21 (by decide) (fun c_4 => ?_) (fun c_4 => absurd c_4 hc_1)
  refine lv_iconst (v := 0) hx hb dX11_continues_28 (by decide) ?_
  have hP9 := hP.sub (ws' := []) [] rfl
  have hD9 := hD.sub (ws' := []) [] (by decide) rfl
  have hK9 := hK.sub (tys' := []) [] rfl
  exact W.zret (v := 0) hx hb hr (by first | rfl | decide) (fun t ht hW => ⟨⟨0, (), rfl, rfl, (zB_mk (by rw [ht]; exact hP9) (va_K.moved hW.alike hK9) hD9)⟩, hS.F ht⟩) hS.2.2 dX11_continues_29
set_option maxHeartbeats 4000000 in
set_option maxRecDepth 100000 in
/-- X11_continues, a road -/
theorem c_X11_continues_r5 (l : Launch) (dC : Nat → ClassId) (dI : Nat → Nat → Nat) (sz : Nat) (p0 : Int32) (p1 : Int32) (hp_0 : p0 < 48) (hp_1 : ¬ p0 < 97) (hp_2 : 122 < p0) (hc_0 : ¬ p1 = 0) (hc_1 : p0 = 95) : Met l yX11_continues wsX11_continues ({ frames := 1, cells := 0, slots := 0, locals := 20 }) (zPc dC dI sz [.int p0, .int p1] [] []) (va_Qi (fun (r : Int32) (_ : Unit) => r = 1) (zB dC dI (fun _ => []) (fun _ : Unit => []) (va_A [] sz)) (va_A [] sz)) 0 0 (va_A [] sz) := by
  refine Met.ofW (cc := cX11_continues) (maxL := 2) (ret := (some .boolean)) (by decide) rfl ?_
  intro p e s m args below meth c s₁ B hml hv
  obtain ⟨rfl, hsz, hP, hK, hD0⟩ := hv
  have hx := B.exec
  have hb := B.bytes
  have hr := B.returns
  have hts := atoms_spec (ws := wsX11_continues) B.pre
  have hown : s.vm.findClass RX11 = some m.cls := findClass_of_methodNamed B.named
  have hlocks := B.notSynchronized
  subst hsz
  have hD := hD0.self (sz := s.heap.size)
  generalize hAe : va_A [] s.heap.size = A at hD ⊢
  have hA : ∀ q : Nat, s.heap.size ≤ q → A q := fun q h => by rw [← hAe]; exact Or.inr h
  have hS : va_S A s.heap s.heap [] := va_S.rf
  have hP : va_P (dC, dI) vwCl [] s.heap := hP
  have hl := lv_entry ([.int p0, .int p1]) (n := 2) (Nat.le_of_ble_eq_true rfl)
  rw [lg_entry_eq]
  generalize (lg_sl ([.int p0, .int p1]) ++ List.replicate (2 - (lg_sl ([.int p0, .int p1])).length) Slot.unset).toArray = ls at hl ⊢
  have hl : lv_has ls 2 [(0, .int p0), (1, .int p1)] := hl
  refine lv_iload_n hx hb dX11_continues_0 rfl (lv_at hl 0 rfl) ?_
  have hPc := hP.sub (ws' := []) [] rfl
  have hDc := hD.sub (ws' := []) [] (by decide) rfl
  have hKc := hK.sub (tys' := []) [] rfl
  have hFc := va_free (wc := []) hD hS hA [] rfl
  refine va_calli (va_runS (As := [.int p0]) (rest := []) ⟨hx, hb, hml, hown, hts⟩ (c_X11_isDigit_r0 l dC dI s.heap.size p0 hp_0) (va_cwS 1 hts gX11_continues_X11_isDigit rfl rfl rfl (by decide +kernel) ⟨Nat.le_of_ble_eq_true rfl, Nat.le_of_ble_eq_true rfl⟩) ⟨zPc_blind, fun U hU hW => zPc_at hPc hKc hDc hU hW⟩ rfl rfl hl.1 rfl (lv_room (Nat.le_of_ble_eq_true rfl)) dX11_continues_1 ⟨Nat.le_of_ble_eq_true rfl, Nat.le_of_ble_eq_true rfl⟩) hS (fun q _ h => hFc q h) hFc (fun r_1 u t H1 locs ht hvm hw hB hz1 hk1 hS => ?_)
  obtain ⟨hP1, hK1, hD1⟩ := hB
  subst hw
  rw [ht] at hP1
  have hK1 := va_K.moved hvm.symm hK1
  obtain ⟨hP, hD⟩ := va_join (wr := []) (w1 := []) hP hD [] [] rfl rfl (by decide) (by decide) hk1 hFc hP1 hD1
  generalize H1 = H at hP hS ⊢
  have hP : va_P (dC, dI) vwCl [] H := hP
  have hD : va_D A [] := hD
  refine lv_if_ne (tgt := 24) hx hb dX11_continues_4 (by decide) (fun c_1 => absurd (by decide) c_1) (fun c_1 => ?_)
  refine lv_iload_n hx hb dX11_continues_7 rfl (lv_at hl 1 rfl) ?_
  refine lv_if_eq (tgt := 28) hx hb dX11_continues_8 (by decide) (fun c_2 => absurd c_2 hc_0) (fun c_2 => ?_)
  refine lv_iload_n hx hb dX11_continues_11 rfl (lv_at hl 0 rfl) ?_
  have hPc := hP.sub (ws' := []) [] rfl
  have hDc := hD.sub (ws' := []) [] (by decide) rfl
  have hKc := hK.sub (tys' := []) [] rfl
  have hFc := va_free (wc := []) hD hS hA [] rfl
  refine va_calli (va_runS (As := [.int p0]) (rest := []) ⟨hx, hb, hml, hown, hts⟩ (c_X11_isLetter_r1 l dC dI H.size p0 hp_1 hp_2) (va_cwS 1 hts gX11_continues_X11_isLetter rfl rfl rfl (by decide +kernel) ⟨Nat.le_of_ble_eq_true rfl, Nat.le_of_ble_eq_true rfl⟩) ⟨zPc_blind, fun U hU hW => zPc_at hPc hKc hDc hU hW⟩ rfl rfl hl.1 rfl (lv_room (Nat.le_of_ble_eq_true rfl)) dX11_continues_12 ⟨Nat.le_of_ble_eq_true rfl, Nat.le_of_ble_eq_true rfl⟩) hS (fun q _ h => hFc q h) hFc (fun r_2 u t H1 locs ht hvm hw hB hz1 hk1 hS => ?_)
  obtain ⟨hP1, hK1, hD1⟩ := hB
  subst hw
  rw [ht] at hP1
  have hK1 := va_K.moved hvm.symm hK1
  obtain ⟨hP, hD⟩ := va_join (wr := []) (w1 := []) hP hD [] [] rfl rfl (by decide) (by decide) hk1 hFc hP1 hD1
  generalize H1 = H at hP hS ⊢
  have hP : va_P (dC, dI) vwCl [] H := hP
  have hD : va_D A [] := hD
  refine lv_if_ne (tgt := 24) hx hb dX11_continues_15 (by decide) (fun c_3 => absurd (by decide) c_3) (fun c_3 => ?_)
  refine lv_iload_n hx hb dX11_continues_18 rfl (lv_at hl 0 rfl) ?_
  refine lv_bipush (v := 95) hx hb dX11_continues_19 (by decide) ?_
  refine lv_icmp_ne (tgt := 28) hx hb dX11_continues_21 (by decide) (fun c_4 => absurd hc_1 c_4) (fun c_4 => ?_)
  refine lv_iconst (v := 1) hx hb dX11_continues_24 (by decide) ?_
  refine lv_goto (tgt := 29) hx hb dX11_continues_25 (by decide) ?_
  have hP9 := hP.sub (ws' := []) [] rfl
  have hD9 := hD.sub (ws' := []) [] (by decide) rfl
  have hK9 := hK.sub (tys' := []) [] rfl
  exact W.zret (v := 1) hx hb hr (by first | rfl | decide) (fun t ht hW => ⟨⟨1, (), rfl, rfl, (zB_mk (by rw [ht]; exact hP9) (va_K.moved hW.alike hK9) hD9)⟩, hS.F ht⟩) hS.2.2 dX11_continues_29
set_option maxHeartbeats 4000000 in
set_option maxRecDepth 100000 in
/-- X11_continues, a road -/
theorem c_X11_continues_r6 (l : Launch) (dC : Nat → ClassId) (dI : Nat → Nat → Nat) (sz : Nat) (p0 : Int32) (p1 : Int32) (hp_0 : ¬ p0 < 48) (hp_1 : ¬ 57 < p0) : Met l yX11_continues wsX11_continues ({ frames := 1, cells := 0, slots := 0, locals := 20 }) (zPc dC dI sz [.int p0, .int p1] [] []) (va_Qi (fun (r : Int32) (_ : Unit) => r = 1) (zB dC dI (fun _ => []) (fun _ : Unit => []) (va_A [] sz)) (va_A [] sz)) 0 0 (va_A [] sz) := by
  refine Met.ofW (cc := cX11_continues) (maxL := 2) (ret := (some .boolean)) (by decide) rfl ?_
  intro p e s m args below meth c s₁ B hml hv
  obtain ⟨rfl, hsz, hP, hK, hD0⟩ := hv
  have hx := B.exec
  have hb := B.bytes
  have hr := B.returns
  have hts := atoms_spec (ws := wsX11_continues) B.pre
  have hown : s.vm.findClass RX11 = some m.cls := findClass_of_methodNamed B.named
  have hlocks := B.notSynchronized
  subst hsz
  have hD := hD0.self (sz := s.heap.size)
  generalize hAe : va_A [] s.heap.size = A at hD ⊢
  have hA : ∀ q : Nat, s.heap.size ≤ q → A q := fun q h => by rw [← hAe]; exact Or.inr h
  have hS : va_S A s.heap s.heap [] := va_S.rf
  have hP : va_P (dC, dI) vwCl [] s.heap := hP
  have hl := lv_entry ([.int p0, .int p1]) (n := 2) (Nat.le_of_ble_eq_true rfl)
  rw [lg_entry_eq]
  generalize (lg_sl ([.int p0, .int p1]) ++ List.replicate (2 - (lg_sl ([.int p0, .int p1])).length) Slot.unset).toArray = ls at hl ⊢
  have hl : lv_has ls 2 [(0, .int p0), (1, .int p1)] := hl
  refine lv_iload_n hx hb dX11_continues_0 rfl (lv_at hl 0 rfl) ?_
  have hPc := hP.sub (ws' := []) [] rfl
  have hDc := hD.sub (ws' := []) [] (by decide) rfl
  have hKc := hK.sub (tys' := []) [] rfl
  have hFc := va_free (wc := []) hD hS hA [] rfl
  refine va_calli (va_runS (As := [.int p0]) (rest := []) ⟨hx, hb, hml, hown, hts⟩ (c_X11_isDigit_r2 l dC dI s.heap.size p0 hp_0 hp_1) (va_cwS 1 hts gX11_continues_X11_isDigit rfl rfl rfl (by decide +kernel) ⟨Nat.le_of_ble_eq_true rfl, Nat.le_of_ble_eq_true rfl⟩) ⟨zPc_blind, fun U hU hW => zPc_at hPc hKc hDc hU hW⟩ rfl rfl hl.1 rfl (lv_room (Nat.le_of_ble_eq_true rfl)) dX11_continues_1 ⟨Nat.le_of_ble_eq_true rfl, Nat.le_of_ble_eq_true rfl⟩) hS (fun q _ h => hFc q h) hFc (fun r_1 u t H1 locs ht hvm hw hB hz1 hk1 hS => ?_)
  obtain ⟨hP1, hK1, hD1⟩ := hB
  subst hw
  rw [ht] at hP1
  have hK1 := va_K.moved hvm.symm hK1
  obtain ⟨hP, hD⟩ := va_join (wr := []) (w1 := []) hP hD [] [] rfl rfl (by decide) (by decide) hk1 hFc hP1 hD1
  generalize H1 = H at hP hS ⊢
  have hP : va_P (dC, dI) vwCl [] H := hP
  have hD : va_D A [] := hD
  refine lv_if_ne (tgt := 24) hx hb dX11_continues_4 (by decide) (fun c_1 => ?_) (fun c_1 => absurd c_1 (by decide))
  refine lv_iconst (v := 1) hx hb dX11_continues_24 (by decide) ?_
  refine lv_goto (tgt := 29) hx hb dX11_continues_25 (by decide) ?_
  have hP9 := hP.sub (ws' := []) [] rfl
  have hD9 := hD.sub (ws' := []) [] (by decide) rfl
  have hK9 := hK.sub (tys' := []) [] rfl
  exact W.zret (v := 1) hx hb hr (by first | rfl | decide) (fun t ht hW => ⟨⟨1, (), rfl, rfl, (zB_mk (by rw [ht]; exact hP9) (va_K.moved hW.alike hK9) hD9)⟩, hS.F ht⟩) hS.2.2 dX11_continues_29
set_option maxHeartbeats 4000000 in
set_option maxRecDepth 100000 in
/-- X11_continues, a road -/
theorem c_X11_continues_r7 (l : Launch) (dC : Nat → ClassId) (dI : Nat → Nat → Nat) (sz : Nat) (p0 : Int32) (p1 : Int32) (hp_0 : ¬ p0 < 48) (hp_1 : 57 < p0) (hc_0 : p1 = 0) : Met l yX11_continues wsX11_continues ({ frames := 1, cells := 0, slots := 0, locals := 20 }) (zPc dC dI sz [.int p0, .int p1] [] []) (va_Qi (fun (r : Int32) (_ : Unit) => r = 0) (zB dC dI (fun _ => []) (fun _ : Unit => []) (va_A [] sz)) (va_A [] sz)) 0 0 (va_A [] sz) := by
  refine Met.ofW (cc := cX11_continues) (maxL := 2) (ret := (some .boolean)) (by decide) rfl ?_
  intro p e s m args below meth c s₁ B hml hv
  obtain ⟨rfl, hsz, hP, hK, hD0⟩ := hv
  have hx := B.exec
  have hb := B.bytes
  have hr := B.returns
  have hts := atoms_spec (ws := wsX11_continues) B.pre
  have hown : s.vm.findClass RX11 = some m.cls := findClass_of_methodNamed B.named
  have hlocks := B.notSynchronized
  subst hsz
  have hD := hD0.self (sz := s.heap.size)
  generalize hAe : va_A [] s.heap.size = A at hD ⊢
  have hA : ∀ q : Nat, s.heap.size ≤ q → A q := fun q h => by rw [← hAe]; exact Or.inr h
  have hS : va_S A s.heap s.heap [] := va_S.rf
  have hP : va_P (dC, dI) vwCl [] s.heap := hP
  have hl := lv_entry ([.int p0, .int p1]) (n := 2) (Nat.le_of_ble_eq_true rfl)
  rw [lg_entry_eq]
  generalize (lg_sl ([.int p0, .int p1]) ++ List.replicate (2 - (lg_sl ([.int p0, .int p1])).length) Slot.unset).toArray = ls at hl ⊢
  have hl : lv_has ls 2 [(0, .int p0), (1, .int p1)] := hl
  refine lv_iload_n hx hb dX11_continues_0 rfl (lv_at hl 0 rfl) ?_
  have hPc := hP.sub (ws' := []) [] rfl
  have hDc := hD.sub (ws' := []) [] (by decide) rfl
  have hKc := hK.sub (tys' := []) [] rfl
  have hFc := va_free (wc := []) hD hS hA [] rfl
  refine va_calli (va_runS (As := [.int p0]) (rest := []) ⟨hx, hb, hml, hown, hts⟩ (c_X11_isDigit_r1 l dC dI s.heap.size p0 hp_0 hp_1) (va_cwS 1 hts gX11_continues_X11_isDigit rfl rfl rfl (by decide +kernel) ⟨Nat.le_of_ble_eq_true rfl, Nat.le_of_ble_eq_true rfl⟩) ⟨zPc_blind, fun U hU hW => zPc_at hPc hKc hDc hU hW⟩ rfl rfl hl.1 rfl (lv_room (Nat.le_of_ble_eq_true rfl)) dX11_continues_1 ⟨Nat.le_of_ble_eq_true rfl, Nat.le_of_ble_eq_true rfl⟩) hS (fun q _ h => hFc q h) hFc (fun r_1 u t H1 locs ht hvm hw hB hz1 hk1 hS => ?_)
  obtain ⟨hP1, hK1, hD1⟩ := hB
  subst hw
  rw [ht] at hP1
  have hK1 := va_K.moved hvm.symm hK1
  obtain ⟨hP, hD⟩ := va_join (wr := []) (w1 := []) hP hD [] [] rfl rfl (by decide) (by decide) hk1 hFc hP1 hD1
  generalize H1 = H at hP hS ⊢
  have hP : va_P (dC, dI) vwCl [] H := hP
  have hD : va_D A [] := hD
  refine lv_if_ne (tgt := 24) hx hb dX11_continues_4 (by decide) (fun c_1 => absurd (by decide) c_1) (fun c_1 => ?_)
  refine lv_iload_n hx hb dX11_continues_7 rfl (lv_at hl 1 rfl) ?_
  refine lv_if_eq (tgt := 28) hx hb dX11_continues_8 (by decide) (fun c_2 => ?_) (fun c_2 => absurd hc_0 c_2)
  refine lv_iconst (v := 0) hx hb dX11_continues_28 (by decide) ?_
  have hP9 := hP.sub (ws' := []) [] rfl
  have hD9 := hD.sub (ws' := []) [] (by decide) rfl
  have hK9 := hK.sub (tys' := []) [] rfl
  exact W.zret (v := 0) hx hb hr (by first | rfl | decide) (fun t ht hW => ⟨⟨0, (), rfl, rfl, (zB_mk (by rw [ht]; exact hP9) (va_K.moved hW.alike hK9) hD9)⟩, hS.F ht⟩) hS.2.2 dX11_continues_29
set_option maxHeartbeats 4000000 in
set_option maxRecDepth 100000 in
/-- X11_continues, a road -/
theorem c_X11_continues_r8 (l : Launch) (dC : Nat → ClassId) (dI : Nat → Nat → Nat) (sz : Nat) (p0 : Int32) (p1 : Int32) (hp_0 : ¬ p0 < 48) (hp_1 : 57 < p0) (hp_2 : p0 < 97) (hc_0 : ¬ p1 = 0) (hc_1 : ¬ p0 = 95) : Met l yX11_continues wsX11_continues ({ frames := 1, cells := 0, slots := 0, locals := 20 }) (zPc dC dI sz [.int p0, .int p1] [] []) (va_Qi (fun (r : Int32) (_ : Unit) => r = 0) (zB dC dI (fun _ => []) (fun _ : Unit => []) (va_A [] sz)) (va_A [] sz)) 0 0 (va_A [] sz) := by
  refine Met.ofW (cc := cX11_continues) (maxL := 2) (ret := (some .boolean)) (by decide) rfl ?_
  intro p e s m args below meth c s₁ B hml hv
  obtain ⟨rfl, hsz, hP, hK, hD0⟩ := hv
  have hx := B.exec
  have hb := B.bytes
  have hr := B.returns
  have hts := atoms_spec (ws := wsX11_continues) B.pre
  have hown : s.vm.findClass RX11 = some m.cls := findClass_of_methodNamed B.named
  have hlocks := B.notSynchronized
  subst hsz
  have hD := hD0.self (sz := s.heap.size)
  generalize hAe : va_A [] s.heap.size = A at hD ⊢
  have hA : ∀ q : Nat, s.heap.size ≤ q → A q := fun q h => by rw [← hAe]; exact Or.inr h
  have hS : va_S A s.heap s.heap [] := va_S.rf
  have hP : va_P (dC, dI) vwCl [] s.heap := hP
  have hl := lv_entry ([.int p0, .int p1]) (n := 2) (Nat.le_of_ble_eq_true rfl)
  rw [lg_entry_eq]
  generalize (lg_sl ([.int p0, .int p1]) ++ List.replicate (2 - (lg_sl ([.int p0, .int p1])).length) Slot.unset).toArray = ls at hl ⊢
  have hl : lv_has ls 2 [(0, .int p0), (1, .int p1)] := hl
  refine lv_iload_n hx hb dX11_continues_0 rfl (lv_at hl 0 rfl) ?_
  have hPc := hP.sub (ws' := []) [] rfl
  have hDc := hD.sub (ws' := []) [] (by decide) rfl
  have hKc := hK.sub (tys' := []) [] rfl
  have hFc := va_free (wc := []) hD hS hA [] rfl
  refine va_calli (va_runS (As := [.int p0]) (rest := []) ⟨hx, hb, hml, hown, hts⟩ (c_X11_isDigit_r1 l dC dI s.heap.size p0 hp_0 hp_1) (va_cwS 1 hts gX11_continues_X11_isDigit rfl rfl rfl (by decide +kernel) ⟨Nat.le_of_ble_eq_true rfl, Nat.le_of_ble_eq_true rfl⟩) ⟨zPc_blind, fun U hU hW => zPc_at hPc hKc hDc hU hW⟩ rfl rfl hl.1 rfl (lv_room (Nat.le_of_ble_eq_true rfl)) dX11_continues_1 ⟨Nat.le_of_ble_eq_true rfl, Nat.le_of_ble_eq_true rfl⟩) hS (fun q _ h => hFc q h) hFc (fun r_1 u t H1 locs ht hvm hw hB hz1 hk1 hS => ?_)
  obtain ⟨hP1, hK1, hD1⟩ := hB
  subst hw
  rw [ht] at hP1
  have hK1 := va_K.moved hvm.symm hK1
  obtain ⟨hP, hD⟩ := va_join (wr := []) (w1 := []) hP hD [] [] rfl rfl (by decide) (by decide) hk1 hFc hP1 hD1
  generalize H1 = H at hP hS ⊢
  have hP : va_P (dC, dI) vwCl [] H := hP
  have hD : va_D A [] := hD
  refine lv_if_ne (tgt := 24) hx hb dX11_continues_4 (by decide) (fun c_1 => absurd (by decide) c_1) (fun c_1 => ?_)
  refine lv_iload_n hx hb dX11_continues_7 rfl (lv_at hl 1 rfl) ?_
  refine lv_if_eq (tgt := 28) hx hb dX11_continues_8 (by decide) (fun c_2 => absurd c_2 hc_0) (fun c_2 => ?_)
  refine lv_iload_n hx hb dX11_continues_11 rfl (lv_at hl 0 rfl) ?_
  have hPc := hP.sub (ws' := []) [] rfl
  have hDc := hD.sub (ws' := []) [] (by decide) rfl
  have hKc := hK.sub (tys' := []) [] rfl
  have hFc := va_free (wc := []) hD hS hA [] rfl
  refine va_calli (va_runS (As := [.int p0]) (rest := []) ⟨hx, hb, hml, hown, hts⟩ (c_X11_isLetter_r0 l dC dI H.size p0 hp_2) (va_cwS 1 hts gX11_continues_X11_isLetter rfl rfl rfl (by decide +kernel) ⟨Nat.le_of_ble_eq_true rfl, Nat.le_of_ble_eq_true rfl⟩) ⟨zPc_blind, fun U hU hW => zPc_at hPc hKc hDc hU hW⟩ rfl rfl hl.1 rfl (lv_room (Nat.le_of_ble_eq_true rfl)) dX11_continues_12 ⟨Nat.le_of_ble_eq_true rfl, Nat.le_of_ble_eq_true rfl⟩) hS (fun q _ h => hFc q h) hFc (fun r_2 u t H1 locs ht hvm hw hB hz1 hk1 hS => ?_)
  obtain ⟨hP1, hK1, hD1⟩ := hB
  subst hw
  rw [ht] at hP1
  have hK1 := va_K.moved hvm.symm hK1
  obtain ⟨hP, hD⟩ := va_join (wr := []) (w1 := []) hP hD [] [] rfl rfl (by decide) (by decide) hk1 hFc hP1 hD1
  generalize H1 = H at hP hS ⊢
  have hP : va_P (dC, dI) vwCl [] H := hP
  have hD : va_D A [] := hD
  refine lv_if_ne (tgt := 24) hx hb dX11_continues_15 (by decide) (fun c_3 => absurd (by decide) c_3) (fun c_3 => ?_)
  refine lv_iload_n hx hb dX11_continues_18 rfl (lv_at hl 0 rfl) ?_
  refine lv_bipush (v := 95) hx hb dX11_continues_19 (by decide) ?_
  refine lv_icmp_ne (tgt := 28) hx hb dX11_continues_21 (by decide) (fun c_4 => ?_) (fun c_4 => absurd c_4 hc_1)
  refine lv_iconst (v := 0) hx hb dX11_continues_28 (by decide) ?_
  have hP9 := hP.sub (ws' := []) [] rfl
  have hD9 := hD.sub (ws' := []) [] (by decide) rfl
  have hK9 := hK.sub (tys' := []) [] rfl
  exact W.zret (v := 0) hx hb hr (by first | rfl | decide) (fun t ht hW => ⟨⟨0, (), rfl, rfl, (zB_mk (by rw [ht]; exact hP9) (va_K.moved hW.alike hK9) hD9)⟩, hS.F ht⟩) hS.2.2 dX11_continues_29
set_option maxHeartbeats 4000000 in
set_option maxRecDepth 100000 in
/-- X11_continues, a road -/
theorem c_X11_continues_r9 (l : Launch) (dC : Nat → ClassId) (dI : Nat → Nat → Nat) (sz : Nat) (p0 : Int32) (p1 : Int32) (hp_0 : ¬ p0 < 48) (hp_1 : 57 < p0) (hp_2 : p0 < 97) (hc_0 : ¬ p1 = 0) (hc_1 : p0 = 95) : Met l yX11_continues wsX11_continues ({ frames := 1, cells := 0, slots := 0, locals := 20 }) (zPc dC dI sz [.int p0, .int p1] [] []) (va_Qi (fun (r : Int32) (_ : Unit) => r = 1) (zB dC dI (fun _ => []) (fun _ : Unit => []) (va_A [] sz)) (va_A [] sz)) 0 0 (va_A [] sz) := by
  refine Met.ofW (cc := cX11_continues) (maxL := 2) (ret := (some .boolean)) (by decide) rfl ?_
  intro p e s m args below meth c s₁ B hml hv
  obtain ⟨rfl, hsz, hP, hK, hD0⟩ := hv
  have hx := B.exec
  have hb := B.bytes
  have hr := B.returns
  have hts := atoms_spec (ws := wsX11_continues) B.pre
  have hown : s.vm.findClass RX11 = some m.cls := findClass_of_methodNamed B.named
  have hlocks := B.notSynchronized
  subst hsz
  have hD := hD0.self (sz := s.heap.size)
  generalize hAe : va_A [] s.heap.size = A at hD ⊢
  have hA : ∀ q : Nat, s.heap.size ≤ q → A q := fun q h => by rw [← hAe]; exact Or.inr h
  have hS : va_S A s.heap s.heap [] := va_S.rf
  have hP : va_P (dC, dI) vwCl [] s.heap := hP
  have hl := lv_entry ([.int p0, .int p1]) (n := 2) (Nat.le_of_ble_eq_true rfl)
  rw [lg_entry_eq]
  generalize (lg_sl ([.int p0, .int p1]) ++ List.replicate (2 - (lg_sl ([.int p0, .int p1])).length) Slot.unset).toArray = ls at hl ⊢
  have hl : lv_has ls 2 [(0, .int p0), (1, .int p1)] := hl
  refine lv_iload_n hx hb dX11_continues_0 rfl (lv_at hl 0 rfl) ?_
  have hPc := hP.sub (ws' := []) [] rfl
  have hDc := hD.sub (ws' := []) [] (by decide) rfl
  have hKc := hK.sub (tys' := []) [] rfl
  have hFc := va_free (wc := []) hD hS hA [] rfl
  refine va_calli (va_runS (As := [.int p0]) (rest := []) ⟨hx, hb, hml, hown, hts⟩ (c_X11_isDigit_r1 l dC dI s.heap.size p0 hp_0 hp_1) (va_cwS 1 hts gX11_continues_X11_isDigit rfl rfl rfl (by decide +kernel) ⟨Nat.le_of_ble_eq_true rfl, Nat.le_of_ble_eq_true rfl⟩) ⟨zPc_blind, fun U hU hW => zPc_at hPc hKc hDc hU hW⟩ rfl rfl hl.1 rfl (lv_room (Nat.le_of_ble_eq_true rfl)) dX11_continues_1 ⟨Nat.le_of_ble_eq_true rfl, Nat.le_of_ble_eq_true rfl⟩) hS (fun q _ h => hFc q h) hFc (fun r_1 u t H1 locs ht hvm hw hB hz1 hk1 hS => ?_)
  obtain ⟨hP1, hK1, hD1⟩ := hB
  subst hw
  rw [ht] at hP1
  have hK1 := va_K.moved hvm.symm hK1
  obtain ⟨hP, hD⟩ := va_join (wr := []) (w1 := []) hP hD [] [] rfl rfl (by decide) (by decide) hk1 hFc hP1 hD1
  generalize H1 = H at hP hS ⊢
  have hP : va_P (dC, dI) vwCl [] H := hP
  have hD : va_D A [] := hD
  refine lv_if_ne (tgt := 24) hx hb dX11_continues_4 (by decide) (fun c_1 => absurd (by decide) c_1) (fun c_1 => ?_)
  refine lv_iload_n hx hb dX11_continues_7 rfl (lv_at hl 1 rfl) ?_
  refine lv_if_eq (tgt := 28) hx hb dX11_continues_8 (by decide) (fun c_2 => absurd c_2 hc_0) (fun c_2 => ?_)
  refine lv_iload_n hx hb dX11_continues_11 rfl (lv_at hl 0 rfl) ?_
  have hPc := hP.sub (ws' := []) [] rfl
  have hDc := hD.sub (ws' := []) [] (by decide) rfl
  have hKc := hK.sub (tys' := []) [] rfl
  have hFc := va_free (wc := []) hD hS hA [] rfl
  refine va_calli (va_runS (As := [.int p0]) (rest := []) ⟨hx, hb, hml, hown, hts⟩ (c_X11_isLetter_r0 l dC dI H.size p0 hp_2) (va_cwS 1 hts gX11_continues_X11_isLetter rfl rfl rfl (by decide +kernel) ⟨Nat.le_of_ble_eq_true rfl, Nat.le_of_ble_eq_true rfl⟩) ⟨zPc_blind, fun U hU hW => zPc_at hPc hKc hDc hU hW⟩ rfl rfl hl.1 rfl (lv_room (Nat.le_of_ble_eq_true rfl)) dX11_continues_12 ⟨Nat.le_of_ble_eq_true rfl, Nat.le_of_ble_eq_true rfl⟩) hS (fun q _ h => hFc q h) hFc (fun r_2 u t H1 locs ht hvm hw hB hz1 hk1 hS => ?_)
  obtain ⟨hP1, hK1, hD1⟩ := hB
  subst hw
  rw [ht] at hP1
  have hK1 := va_K.moved hvm.symm hK1
  obtain ⟨hP, hD⟩ := va_join (wr := []) (w1 := []) hP hD [] [] rfl rfl (by decide) (by decide) hk1 hFc hP1 hD1
  generalize H1 = H at hP hS ⊢
  have hP : va_P (dC, dI) vwCl [] H := hP
  have hD : va_D A [] := hD
  refine lv_if_ne (tgt := 24) hx hb dX11_continues_15 (by decide) (fun c_3 => absurd (by decide) c_3) (fun c_3 => ?_)
  refine lv_iload_n hx hb dX11_continues_18 rfl (lv_at hl 0 rfl) ?_
  refine lv_bipush (v := 95) hx hb dX11_continues_19 (by decide) ?_
  refine lv_icmp_ne (tgt := 28) hx hb dX11_continues_21 (by decide) (fun c_4 => absurd hc_1 c_4) (fun c_4 => ?_)
  refine lv_iconst (v := 1) hx hb dX11_continues_24 (by decide) ?_
  refine lv_goto (tgt := 29) hx hb dX11_continues_25 (by decide) ?_
  have hP9 := hP.sub (ws' := []) [] rfl
  have hD9 := hD.sub (ws' := []) [] (by decide) rfl
  have hK9 := hK.sub (tys' := []) [] rfl
  exact W.zret (v := 1) hx hb hr (by first | rfl | decide) (fun t ht hW => ⟨⟨1, (), rfl, rfl, (zB_mk (by rw [ht]; exact hP9) (va_K.moved hW.alike hK9) hD9)⟩, hS.F ht⟩) hS.2.2 dX11_continues_29
set_option maxHeartbeats 4000000 in
set_option maxRecDepth 100000 in
/-- X11_continues, a road -/
theorem c_X11_continues_r10 (l : Launch) (dC : Nat → ClassId) (dI : Nat → Nat → Nat) (sz : Nat) (p0 : Int32) (p1 : Int32) (hp_0 : ¬ p0 < 48) (hp_1 : 57 < p0) (hp_2 : ¬ p0 < 97) (hp_3 : ¬ 122 < p0) (hc_0 : ¬ p1 = 0) : Met l yX11_continues wsX11_continues ({ frames := 1, cells := 0, slots := 0, locals := 20 }) (zPc dC dI sz [.int p0, .int p1] [] []) (va_Qi (fun (r : Int32) (_ : Unit) => r = 1) (zB dC dI (fun _ => []) (fun _ : Unit => []) (va_A [] sz)) (va_A [] sz)) 0 0 (va_A [] sz) := by
  refine Met.ofW (cc := cX11_continues) (maxL := 2) (ret := (some .boolean)) (by decide) rfl ?_
  intro p e s m args below meth c s₁ B hml hv
  obtain ⟨rfl, hsz, hP, hK, hD0⟩ := hv
  have hx := B.exec
  have hb := B.bytes
  have hr := B.returns
  have hts := atoms_spec (ws := wsX11_continues) B.pre
  have hown : s.vm.findClass RX11 = some m.cls := findClass_of_methodNamed B.named
  have hlocks := B.notSynchronized
  subst hsz
  have hD := hD0.self (sz := s.heap.size)
  generalize hAe : va_A [] s.heap.size = A at hD ⊢
  have hA : ∀ q : Nat, s.heap.size ≤ q → A q := fun q h => by rw [← hAe]; exact Or.inr h
  have hS : va_S A s.heap s.heap [] := va_S.rf
  have hP : va_P (dC, dI) vwCl [] s.heap := hP
  have hl := lv_entry ([.int p0, .int p1]) (n := 2) (Nat.le_of_ble_eq_true rfl)
  rw [lg_entry_eq]
  generalize (lg_sl ([.int p0, .int p1]) ++ List.replicate (2 - (lg_sl ([.int p0, .int p1])).length) Slot.unset).toArray = ls at hl ⊢
  have hl : lv_has ls 2 [(0, .int p0), (1, .int p1)] := hl
  refine lv_iload_n hx hb dX11_continues_0 rfl (lv_at hl 0 rfl) ?_
  have hPc := hP.sub (ws' := []) [] rfl
  have hDc := hD.sub (ws' := []) [] (by decide) rfl
  have hKc := hK.sub (tys' := []) [] rfl
  have hFc := va_free (wc := []) hD hS hA [] rfl
  refine va_calli (va_runS (As := [.int p0]) (rest := []) ⟨hx, hb, hml, hown, hts⟩ (c_X11_isDigit_r1 l dC dI s.heap.size p0 hp_0 hp_1) (va_cwS 1 hts gX11_continues_X11_isDigit rfl rfl rfl (by decide +kernel) ⟨Nat.le_of_ble_eq_true rfl, Nat.le_of_ble_eq_true rfl⟩) ⟨zPc_blind, fun U hU hW => zPc_at hPc hKc hDc hU hW⟩ rfl rfl hl.1 rfl (lv_room (Nat.le_of_ble_eq_true rfl)) dX11_continues_1 ⟨Nat.le_of_ble_eq_true rfl, Nat.le_of_ble_eq_true rfl⟩) hS (fun q _ h => hFc q h) hFc (fun r_1 u t H1 locs ht hvm hw hB hz1 hk1 hS => ?_)
  obtain ⟨hP1, hK1, hD1⟩ := hB
  subst hw
  rw [ht] at hP1
  have hK1 := va_K.moved hvm.symm hK1
  obtain ⟨hP, hD⟩ := va_join (wr := []) (w1 := []) hP hD [] [] rfl rfl (by decide) (by decide) hk1 hFc hP1 hD1
  generalize H1 = H at hP hS ⊢
  have hP : va_P (dC, dI) vwCl [] H := hP
  have hD : va_D A [] := hD
  refine lv_if_ne (tgt := 24) hx hb dX11_continues_4 (by decide) (fun c_1 => absurd (by decide) c_1) (fun c_1 => ?_)
  refine lv_iload_n hx hb dX11_continues_7 rfl (lv_at hl 1 rfl) ?_
  refine lv_if_eq (tgt := 28) hx hb dX11_continues_8 (by decide) (fun c_2 => absurd c_2 hc_0) (fun c_2 => ?_)
  refine lv_iload_n hx hb dX11_continues_11 rfl (lv_at hl 0 rfl) ?_
  have hPc := hP.sub (ws' := []) [] rfl
  have hDc := hD.sub (ws' := []) [] (by decide) rfl
  have hKc := hK.sub (tys' := []) [] rfl
  have hFc := va_free (wc := []) hD hS hA [] rfl
  refine va_calli (va_runS (As := [.int p0]) (rest := []) ⟨hx, hb, hml, hown, hts⟩ (c_X11_isLetter_r2 l dC dI H.size p0 hp_2 hp_3) (va_cwS 1 hts gX11_continues_X11_isLetter rfl rfl rfl (by decide +kernel) ⟨Nat.le_of_ble_eq_true rfl, Nat.le_of_ble_eq_true rfl⟩) ⟨zPc_blind, fun U hU hW => zPc_at hPc hKc hDc hU hW⟩ rfl rfl hl.1 rfl (lv_room (Nat.le_of_ble_eq_true rfl)) dX11_continues_12 ⟨Nat.le_of_ble_eq_true rfl, Nat.le_of_ble_eq_true rfl⟩) hS (fun q _ h => hFc q h) hFc (fun r_2 u t H1 locs ht hvm hw hB hz1 hk1 hS => ?_)
  obtain ⟨hP1, hK1, hD1⟩ := hB
  subst hw
  rw [ht] at hP1
  have hK1 := va_K.moved hvm.symm hK1
  obtain ⟨hP, hD⟩ := va_join (wr := []) (w1 := []) hP hD [] [] rfl rfl (by decide) (by decide) hk1 hFc hP1 hD1
  generalize H1 = H at hP hS ⊢
  have hP : va_P (dC, dI) vwCl [] H := hP
  have hD : va_D A [] := hD
  refine lv_if_ne (tgt := 24) hx hb dX11_continues_15 (by decide) (fun c_3 => ?_) (fun c_3 => absurd c_3 (by decide))
  refine lv_iconst (v := 1) hx hb dX11_continues_24 (by decide) ?_
  refine lv_goto (tgt := 29) hx hb dX11_continues_25 (by decide) ?_
  have hP9 := hP.sub (ws' := []) [] rfl
  have hD9 := hD.sub (ws' := []) [] (by decide) rfl
  have hK9 := hK.sub (tys' := []) [] rfl
  exact W.zret (v := 1) hx hb hr (by first | rfl | decide) (fun t ht hW => ⟨⟨1, (), rfl, rfl, (zB_mk (by rw [ht]; exact hP9) (va_K.moved hW.alike hK9) hD9)⟩, hS.F ht⟩) hS.2.2 dX11_continues_29
set_option maxHeartbeats 4000000 in
set_option maxRecDepth 100000 in
/-- X11_continues, a road -/
theorem c_X11_continues_r11 (l : Launch) (dC : Nat → ClassId) (dI : Nat → Nat → Nat) (sz : Nat) (p0 : Int32) (p1 : Int32) (hp_0 : ¬ p0 < 48) (hp_1 : 57 < p0) (hp_2 : ¬ p0 < 97) (hp_3 : 122 < p0) (hc_0 : ¬ p1 = 0) (hc_1 : ¬ p0 = 95) : Met l yX11_continues wsX11_continues ({ frames := 1, cells := 0, slots := 0, locals := 20 }) (zPc dC dI sz [.int p0, .int p1] [] []) (va_Qi (fun (r : Int32) (_ : Unit) => r = 0) (zB dC dI (fun _ => []) (fun _ : Unit => []) (va_A [] sz)) (va_A [] sz)) 0 0 (va_A [] sz) := by
  refine Met.ofW (cc := cX11_continues) (maxL := 2) (ret := (some .boolean)) (by decide) rfl ?_
  intro p e s m args below meth c s₁ B hml hv
  obtain ⟨rfl, hsz, hP, hK, hD0⟩ := hv
  have hx := B.exec
  have hb := B.bytes
  have hr := B.returns
  have hts := atoms_spec (ws := wsX11_continues) B.pre
  have hown : s.vm.findClass RX11 = some m.cls := findClass_of_methodNamed B.named
  have hlocks := B.notSynchronized
  subst hsz
  have hD := hD0.self (sz := s.heap.size)
  generalize hAe : va_A [] s.heap.size = A at hD ⊢
  have hA : ∀ q : Nat, s.heap.size ≤ q → A q := fun q h => by rw [← hAe]; exact Or.inr h
  have hS : va_S A s.heap s.heap [] := va_S.rf
  have hP : va_P (dC, dI) vwCl [] s.heap := hP
  have hl := lv_entry ([.int p0, .int p1]) (n := 2) (Nat.le_of_ble_eq_true rfl)
  rw [lg_entry_eq]
  generalize (lg_sl ([.int p0, .int p1]) ++ List.replicate (2 - (lg_sl ([.int p0, .int p1])).length) Slot.unset).toArray = ls at hl ⊢
  have hl : lv_has ls 2 [(0, .int p0), (1, .int p1)] := hl
  refine lv_iload_n hx hb dX11_continues_0 rfl (lv_at hl 0 rfl) ?_
  have hPc := hP.sub (ws' := []) [] rfl
  have hDc := hD.sub (ws' := []) [] (by decide) rfl
  have hKc := hK.sub (tys' := []) [] rfl
  have hFc := va_free (wc := []) hD hS hA [] rfl
  refine va_calli (va_runS (As := [.int p0]) (rest := []) ⟨hx, hb, hml, hown, hts⟩ (c_X11_isDigit_r1 l dC dI s.heap.size p0 hp_0 hp_1) (va_cwS 1 hts gX11_continues_X11_isDigit rfl rfl rfl (by decide +kernel) ⟨Nat.le_of_ble_eq_true rfl, Nat.le_of_ble_eq_true rfl⟩) ⟨zPc_blind, fun U hU hW => zPc_at hPc hKc hDc hU hW⟩ rfl rfl hl.1 rfl (lv_room (Nat.le_of_ble_eq_true rfl)) dX11_continues_1 ⟨Nat.le_of_ble_eq_true rfl, Nat.le_of_ble_eq_true rfl⟩) hS (fun q _ h => hFc q h) hFc (fun r_1 u t H1 locs ht hvm hw hB hz1 hk1 hS => ?_)
  obtain ⟨hP1, hK1, hD1⟩ := hB
  subst hw
  rw [ht] at hP1
  have hK1 := va_K.moved hvm.symm hK1
  obtain ⟨hP, hD⟩ := va_join (wr := []) (w1 := []) hP hD [] [] rfl rfl (by decide) (by decide) hk1 hFc hP1 hD1
  generalize H1 = H at hP hS ⊢
  have hP : va_P (dC, dI) vwCl [] H := hP
  have hD : va_D A [] := hD
  refine lv_if_ne (tgt := 24) hx hb dX11_continues_4 (by decide) (fun c_1 => absurd (by decide) c_1) (fun c_1 => ?_)
  refine lv_iload_n hx hb dX11_continues_7 rfl (lv_at hl 1 rfl) ?_
  refine lv_if_eq (tgt := 28) hx hb dX11_continues_8 (by decide) (fun c_2 => absurd c_2 hc_0) (fun c_2 => ?_)
  refine lv_iload_n hx hb dX11_continues_11 rfl (lv_at hl 0 rfl) ?_
  have hPc := hP.sub (ws' := []) [] rfl
  have hDc := hD.sub (ws' := []) [] (by decide) rfl
  have hKc := hK.sub (tys' := []) [] rfl
  have hFc := va_free (wc := []) hD hS hA [] rfl
  refine va_calli (va_runS (As := [.int p0]) (rest := []) ⟨hx, hb, hml, hown, hts⟩ (c_X11_isLetter_r1 l dC dI H.size p0 hp_2 hp_3) (va_cwS 1 hts gX11_continues_X11_isLetter rfl rfl rfl (by decide +kernel) ⟨Nat.le_of_ble_eq_true rfl, Nat.le_of_ble_eq_true rfl⟩) ⟨zPc_blind, fun U hU hW => zPc_at hPc hKc hDc hU hW⟩ rfl rfl hl.1 rfl (lv_room (Nat.le_of_ble_eq_true rfl)) dX11_continues_12 ⟨Nat.le_of_ble_eq_true rfl, Nat.le_of_ble_eq_true rfl⟩) hS (fun q _ h => hFc q h) hFc (fun r_2 u t H1 locs ht hvm hw hB hz1 hk1 hS => ?_)
  obtain ⟨hP1, hK1, hD1⟩ := hB
  subst hw
  rw [ht] at hP1
  have hK1 := va_K.moved hvm.symm hK1
  obtain ⟨hP, hD⟩ := va_join (wr := []) (w1 := []) hP hD [] [] rfl rfl (by decide) (by decide) hk1 hFc hP1 hD1
  generalize H1 = H at hP hS ⊢
  have hP : va_P (dC, dI) vwCl [] H := hP
  have hD : va_D A [] := hD
  refine lv_if_ne (tgt := 24) hx hb dX11_continues_15 (by decide) (fun c_3 => absurd (by decide) c_3) (fun c_3 => ?_)
  refine lv_iload_n hx hb dX11_continues_18 rfl (lv_at hl 0 rfl) ?_
  refine lv_bipush (v := 95) hx hb dX11_continues_19 (by decide) ?_
  refine lv_icmp_ne (tgt := 28) hx hb dX11_continues_21 (by decide) (fun c_4 => ?_) (fun c_4 => absurd c_4 hc_1)
  refine lv_iconst (v := 0) hx hb dX11_continues_28 (by decide) ?_
  have hP9 := hP.sub (ws' := []) [] rfl
  have hD9 := hD.sub (ws' := []) [] (by decide) rfl
  have hK9 := hK.sub (tys' := []) [] rfl
  exact W.zret (v := 0) hx hb hr (by first | rfl | decide) (fun t ht hW => ⟨⟨0, (), rfl, rfl, (zB_mk (by rw [ht]; exact hP9) (va_K.moved hW.alike hK9) hD9)⟩, hS.F ht⟩) hS.2.2 dX11_continues_29
set_option maxHeartbeats 4000000 in
set_option maxRecDepth 100000 in
/-- X11_continues, a road -/
theorem c_X11_continues_r12 (l : Launch) (dC : Nat → ClassId) (dI : Nat → Nat → Nat) (sz : Nat) (p0 : Int32) (p1 : Int32) (hp_0 : ¬ p0 < 48) (hp_1 : 57 < p0) (hp_2 : ¬ p0 < 97) (hp_3 : 122 < p0) (hc_0 : ¬ p1 = 0) (hc_1 : p0 = 95) : Met l yX11_continues wsX11_continues ({ frames := 1, cells := 0, slots := 0, locals := 20 }) (zPc dC dI sz [.int p0, .int p1] [] []) (va_Qi (fun (r : Int32) (_ : Unit) => r = 1) (zB dC dI (fun _ => []) (fun _ : Unit => []) (va_A [] sz)) (va_A [] sz)) 0 0 (va_A [] sz) := by
  refine Met.ofW (cc := cX11_continues) (maxL := 2) (ret := (some .boolean)) (by decide) rfl ?_
  intro p e s m args below meth c s₁ B hml hv
  obtain ⟨rfl, hsz, hP, hK, hD0⟩ := hv
  have hx := B.exec
  have hb := B.bytes
  have hr := B.returns
  have hts := atoms_spec (ws := wsX11_continues) B.pre
  have hown : s.vm.findClass RX11 = some m.cls := findClass_of_methodNamed B.named
  have hlocks := B.notSynchronized
  subst hsz
  have hD := hD0.self (sz := s.heap.size)
  generalize hAe : va_A [] s.heap.size = A at hD ⊢
  have hA : ∀ q : Nat, s.heap.size ≤ q → A q := fun q h => by rw [← hAe]; exact Or.inr h
  have hS : va_S A s.heap s.heap [] := va_S.rf
  have hP : va_P (dC, dI) vwCl [] s.heap := hP
  have hl := lv_entry ([.int p0, .int p1]) (n := 2) (Nat.le_of_ble_eq_true rfl)
  rw [lg_entry_eq]
  generalize (lg_sl ([.int p0, .int p1]) ++ List.replicate (2 - (lg_sl ([.int p0, .int p1])).length) Slot.unset).toArray = ls at hl ⊢
  have hl : lv_has ls 2 [(0, .int p0), (1, .int p1)] := hl
  refine lv_iload_n hx hb dX11_continues_0 rfl (lv_at hl 0 rfl) ?_
  have hPc := hP.sub (ws' := []) [] rfl
  have hDc := hD.sub (ws' := []) [] (by decide) rfl
  have hKc := hK.sub (tys' := []) [] rfl
  have hFc := va_free (wc := []) hD hS hA [] rfl
  refine va_calli (va_runS (As := [.int p0]) (rest := []) ⟨hx, hb, hml, hown, hts⟩ (c_X11_isDigit_r1 l dC dI s.heap.size p0 hp_0 hp_1) (va_cwS 1 hts gX11_continues_X11_isDigit rfl rfl rfl (by decide +kernel) ⟨Nat.le_of_ble_eq_true rfl, Nat.le_of_ble_eq_true rfl⟩) ⟨zPc_blind, fun U hU hW => zPc_at hPc hKc hDc hU hW⟩ rfl rfl hl.1 rfl (lv_room (Nat.le_of_ble_eq_true rfl)) dX11_continues_1 ⟨Nat.le_of_ble_eq_true rfl, Nat.le_of_ble_eq_true rfl⟩) hS (fun q _ h => hFc q h) hFc (fun r_1 u t H1 locs ht hvm hw hB hz1 hk1 hS => ?_)
  obtain ⟨hP1, hK1, hD1⟩ := hB
  subst hw
  rw [ht] at hP1
  have hK1 := va_K.moved hvm.symm hK1
  obtain ⟨hP, hD⟩ := va_join (wr := []) (w1 := []) hP hD [] [] rfl rfl (by decide) (by decide) hk1 hFc hP1 hD1
  generalize H1 = H at hP hS ⊢
  have hP : va_P (dC, dI) vwCl [] H := hP
  have hD : va_D A [] := hD
  refine lv_if_ne (tgt := 24) hx hb dX11_continues_4 (by decide) (fun c_1 => absurd (by decide) c_1) (fun c_1 => ?_)
  refine lv_iload_n hx hb dX11_continues_7 rfl (lv_at hl 1 rfl) ?_
  refine lv_if_eq (tgt := 28) hx hb dX11_continues_8 (by decide) (fun c_2 => absurd c_2 hc_0) (fun c_2 => ?_)
  refine lv_iload_n hx hb dX11_continues_11 rfl (lv_at hl 0 rfl) ?_
  have hPc := hP.sub (ws' := []) [] rfl
  have hDc := hD.sub (ws' := []) [] (by decide) rfl
  have hKc := hK.sub (tys' := []) [] rfl
  have hFc := va_free (wc := []) hD hS hA [] rfl
  refine va_calli (va_runS (As := [.int p0]) (rest := []) ⟨hx, hb, hml, hown, hts⟩ (c_X11_isLetter_r1 l dC dI H.size p0 hp_2 hp_3) (va_cwS 1 hts gX11_continues_X11_isLetter rfl rfl rfl (by decide +kernel) ⟨Nat.le_of_ble_eq_true rfl, Nat.le_of_ble_eq_true rfl⟩) ⟨zPc_blind, fun U hU hW => zPc_at hPc hKc hDc hU hW⟩ rfl rfl hl.1 rfl (lv_room (Nat.le_of_ble_eq_true rfl)) dX11_continues_12 ⟨Nat.le_of_ble_eq_true rfl, Nat.le_of_ble_eq_true rfl⟩) hS (fun q _ h => hFc q h) hFc (fun r_2 u t H1 locs ht hvm hw hB hz1 hk1 hS => ?_)
  obtain ⟨hP1, hK1, hD1⟩ := hB
  subst hw
  rw [ht] at hP1
  have hK1 := va_K.moved hvm.symm hK1
  obtain ⟨hP, hD⟩ := va_join (wr := []) (w1 := []) hP hD [] [] rfl rfl (by decide) (by decide) hk1 hFc hP1 hD1
  generalize H1 = H at hP hS ⊢
  have hP : va_P (dC, dI) vwCl [] H := hP
  have hD : va_D A [] := hD
  refine lv_if_ne (tgt := 24) hx hb dX11_continues_15 (by decide) (fun c_3 => absurd (by decide) c_3) (fun c_3 => ?_)
  refine lv_iload_n hx hb dX11_continues_18 rfl (lv_at hl 0 rfl) ?_
  refine lv_bipush (v := 95) hx hb dX11_continues_19 (by decide) ?_
  refine lv_icmp_ne (tgt := 28) hx hb dX11_continues_21 (by decide) (fun c_4 => absurd hc_1 c_4) (fun c_4 => ?_)
  refine lv_iconst (v := 1) hx hb dX11_continues_24 (by decide) ?_
  refine lv_goto (tgt := 29) hx hb dX11_continues_25 (by decide) ?_
  have hP9 := hP.sub (ws' := []) [] rfl
  have hD9 := hD.sub (ws' := []) [] (by decide) rfl
  have hK9 := hK.sub (tys' := []) [] rfl
  exact W.zret (v := 1) hx hb hr (by first | rfl | decide) (fun t ht hW => ⟨⟨1, (), rfl, rfl, (zB_mk (by rw [ht]; exact hP9) (va_K.moved hW.alike hK9) hD9)⟩, hS.F ht⟩) hS.2.2 dX11_continues_29
