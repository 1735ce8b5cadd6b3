theorem iw_X13_form_X13 : ∀ w ∈ wsX130, w ∈ wsX13_form := fun w h => List.mem_cons_of_mem _ (List.mem_append_right _ h)
set_option maxHeartbeats 4000000 in
set_option maxRecDepth 100000 in

theorem c_X13_form_r0 (l : Launch) (dC : Nat → ClassId) (dI : Nat → Nat → Nat) (sz : Nat) (h0 : Nat) (fs0 : List Value) (v0_7 : Nat) (v0_10 : Int32) (c_v0_7 : ClassId) (f_v0_7 : Nat → Int32) (v0_11 : Int32) (hl0 : fs0.length = 196) (hf0_7 : fs0[7]? = some (.ref v0_7)) (hf0_10 : fs0[10]? = some (.int v0_10)) (hf0_11 : fs0[11]? = some (.int v0_11)) (hi_0 : vp_in v0_10 2010) (hp_1 : v0_11 = 0) : Met l yX13_form wsX13_form ({ frames := 1, cells := 0, slots := 0, locals := 22 }) (zPc dC dI sz [.ref h0] [(h0, .inr (15, fs0)), (v0_7, .inl (c_v0_7, 2010, .inl f_v0_7))] [(c_v0_7, .int)]) (va_Qv (fun _ : Unit => True) (zB dC dI (fun _ => [(c_v0_7, .int)]) (fun _ : Unit => [(v0_7, .inl (c_v0_7, 2010, .inl f_v0_7)), (h0, .inr (15, ((fs0.set 11 (.int 2)).set 12 (.int (f_v0_7 (v0_10 : Int32).toNatClampNeg)))))]) (va_A [(h0, .inr (15, fs0)), (v0_7, .inl (c_v0_7, 2010, .inl f_v0_7))] sz)) (va_A [(h0, .inr (15, fs0)), (v0_7, .inl (c_v0_7, 2010, .inl f_v0_7))] sz)) 0 0 (va_A [(h0, .inr (15, fs0)), (v0_7, .inl (c_v0_7, 2010, .inl f_v0_7))] sz) := by
  refine Met.ofW (cc := cX13_form) (maxL := 1) (ret := none) (by decide) rfl ?_
  intro p e s m args below meth c s₁ B hml hv
  obtain ⟨rfl, hsz, hP, hK, hD0⟩ := hv
  have hx := B.exec
  have hb := B.bytes
  have hr := B.returns
  have hts := atoms_spec (ws := wsX13_form) B.pre
  have hown : s.vm.findClass RX13 = some m.cls := findClass_of_methodNamed B.named
  have hlocks := B.notSynchronized
  subst hsz
  have hD := hD0.self (sz := s.heap.size)
  generalize hAe : va_A [(h0, .inr (15, fs0)), (v0_7, .inl (c_v0_7, 2010, .inl f_v0_7))] s.heap.size = A at hD ⊢
  have hA : ∀ q : Nat, s.heap.size ≤ q → A q := fun q h => by rw [← hAe]; exact Or.inr h
  have hS : va_S A s.heap s.heap [] := va_S.rf
  have hP : va_P (dC, dI) vwCl [(h0, .inr (15, fs0)), (v0_7, .inl (c_v0_7, 2010, .inl f_v0_7))] s.heap := hP
  have hl := lv_entry ([.ref h0]) (n := 1) (Nat.le_of_ble_eq_true rfl)
  rw [lg_entry_eq]
  generalize (lg_sl ([.ref h0]) ++ List.replicate (1 - (lg_sl ([.ref h0])).length) Slot.unset).toArray = ls at hl ⊢
  have hl : lv_has ls 1 [(0, .ref h0)] := hl
  refine lv_aload_n hx hb dX13_form_0 rfl (lv_at hl 0 rfl) ?_
  refine lv_iconst (v := 2) hx hb dX13_form_1 (by decide) ?_
  refine lv_aload_n hx hb dX13_form_2 rfl (lv_at hl 0 rfl) ?_
  refine va_get (D := (dC, dI)) (ci := 15) (v := .ref v0_7) (C := RX13) (T := TX13) (N := 196) hx hb hts iw_X13_form_X13 hown hK hP 0 rfl rfl 7 (by decide) (hts (.fieldLink RX13 23 "LiquidTongueModel" "wAt" "[I") (by decide +kernel)) (fun _ h9 => h9) hf0_7 dX13_form_3 ?_
  refine lv_aload_n hx hb dX13_form_6 rfl (lv_at hl 0 rfl) ?_
  refine va_get (D := (dC, dI)) (ci := 15) (v := .int v0_10) (C := RX13) (T := TX13) (N := 196) hx hb hts iw_X13_form_X13 hown hK hP 0 rfl rfl 10 (by decide) (hts (.fieldLink RX13 433 "LiquidTongueModel" "w" "I") (by decide +kernel)) (fun _ h9 => h9) hf0_10 dX13_form_7 ?_
  refine va_iald hx hb hK hP 1 0 rfl rfl hi_0 dX13_form_10 ?_
  have hPc := hP.sub (ws' := [(h0, .inr (15, fs0))]) [0] rfl
  have hDc := hD.sub (ws' := [(h0, .inr (15, fs0))]) [0] (by decide) rfl
  have hKc := hK.sub (tys' := []) [] rfl
  have hFc := va_free (wc := [(h0, .inr (15, fs0))]) hD hS hA [0] rfl
  refine va_callv (va_runV (As := [.int 2, .int (f_v0_7 (v0_10 : Int32).toNatClampNeg)]) (rest := []) ⟨hx, hb, hml, hown, hts⟩ (c_X13_fault_r0 l dC dI s.heap.size h0 fs0 2 (f_v0_7 (v0_10 : Int32).toNatClampNeg) v0_11 hl0 hf0_11 hp_1) (cwV 2 hts gX13_form_X13_fault rfl rfl rfl (by decide +kernel) ⟨Nat.le_of_ble_eq_true rfl, Nat.le_of_ble_eq_true rfl⟩) ⟨zPc_blind, va_recv hKc hPc (ci := 15) (q0 := 0) rfl rfl, fun U hU hW => zPc_at hPc hKc hDc hU hW⟩ rfl rfl hl.1 rfl (lv_room (Nat.le_of_ble_eq_true rfl)) dX13_form_11 ⟨Nat.le_of_ble_eq_true rfl, Nat.le_of_ble_eq_true rfl⟩) hS (fun q _ h => hFc q h) hFc (fun u t H1 locs ht hvm hw hB hz1 hk1 hS => ?_)
  obtain ⟨hP1, hK1, hD1⟩ := hB
  rw [ht] at hP1
  have hK1 := va_K.moved hvm.symm hK1
  obtain ⟨hP, hD⟩ := va_join (wr := [(v0_7, .inl (c_v0_7, 2010, .inl f_v0_7))]) (w1 := [(h0, .inr (15, ((fs0.set 11 (.int 2)).set 12 (.int (f_v0_7 (v0_10 : Int32).toNatClampNeg)))))]) hP hD [0] [1] rfl rfl (by decide) (by decide) hk1 hFc hP1 hD1
  generalize H1 = H at hP hS ⊢
  have hP : va_P (dC, dI) vwCl [(v0_7, .inl (c_v0_7, 2010, .inl f_v0_7)), (h0, .inr (15, ((fs0.set 11 (.int 2)).set 12 (.int (f_v0_7 (v0_10 : Int32).toNatClampNeg)))))] H := hP
  have hD : va_D A [(v0_7, .inl (c_v0_7, 2010, .inl f_v0_7)), (h0, .inr (15, ((fs0.set 11 (.int 2)).set 12 (.int (f_v0_7 (v0_10 : Int32).toNatClampNeg)))))] := hD
  have hP9 := hP.sub (ws' := [(v0_7, .inl (c_v0_7, 2010, .inl f_v0_7)), (h0, .inr (15, ((fs0.set 11 (.int 2)).set 12 (.int (f_v0_7 (v0_10 : Int32).toNatClampNeg)))))]) [0, 1] rfl
  have hD9 := hD.sub (ws' := [(v0_7, .inl (c_v0_7, 2010, .inl f_v0_7)), (h0, .inr (15, ((fs0.set 11 (.int 2)).set 12 (.int (f_v0_7 (v0_10 : Int32).toNatClampNeg)))))]) [0, 1] (by decide) rfl
  have hK9 := hK.sub (tys' := [(c_v0_7, .int)]) [0] rfl
  exact W.vret hx hb hr (fun t ht hW => ⟨⟨(), rfl, trivial, (zB_mk (by rw [ht]; exact hP9) (va_K.moved hW.alike hK9) hD9)⟩, hS.F ht⟩) hS.2.2 dX13_form_14
theorem iw_X7_fail_X7 : ∀ w ∈ wsX70, w ∈ wsX7_fail := fun w h => List.mem_cons_of_mem _ (List.mem_append_left _ (List.mem_append_right _ h))
set_option maxHeartbeats 4000000 in
set_option maxRecDepth 100000 in

theorem c_X7_fail_r1 (l : Launch) (dC : Nat → ClassId) (dI : Nat → Nat → Nat) (sz : Nat) (h0 : Nat) (fs0 : List Value) (v0_15 : Int32) (v0_0 : Nat) (fs1 : List Value) (v1_2 : Nat) (v0_11 : Int32) (n_v1_2 : Nat) (c_v1_2 : ClassId) (f_v1_2 : Nat → Int32) (hl0 : fs0.length = 18) (hf0_15 : fs0[15]? = some (.int v0_15)) (hf0_0 : fs0[0]? = some (.ref v0_0)) (hl1 : fs1.length = 6) (hf1_2 : fs1[2]? = some (.ref v1_2)) (hf0_11 : fs0[11]? = some (.int v0_11)) (hp_0 : vp_in v0_11 n_v1_2) (hc_0 : ¬ 0 ≤ v0_15) : Met l yX7_fail wsX7_fail ({ frames := 1, cells := 0, slots := 0, locals := 20 }) (zPc dC dI sz [.ref h0] [(h0, .inr (9, fs0)), (v0_0, .inr (13, fs1)), (v1_2, .inl (c_v1_2, n_v1_2, .inl f_v1_2))] [(c_v1_2, .int)]) (va_Qv (fun _ : Unit => True) (zB dC dI (fun _ => [(c_v1_2, .int)]) (fun _ : Unit => [(h0, .inr (9, (fs0.set 15 (.int (f_v1_2 (v0_11 : Int32).toNatClampNeg))))), (v0_0, .inr (13, fs1)), (v1_2, .inl (c_v1_2, n_v1_2, .inl f_v1_2))]) (va_A [(h0, .inr (9, fs0)), (v0_0, .inr (13, fs1)), (v1_2, .inl (c_v1_2, n_v1_2, .inl f_v1_2))] sz)) (va_A [(h0, .inr (9, fs0)), (v0_0, .inr (13, fs1)), (v1_2, .inl (c_v1_2, n_v1_2, .inl f_v1_2))] sz)) 0 0 (va_A [(h0, .inr (9, fs0)), (v0_0, .inr (13, fs1)), (v1_2, .inl (c_v1_2, n_v1_2, .inl f_v1_2))] sz) := by
  refine Met.ofW (cc := cX7_fail) (maxL := 1) (ret := none) (by decide) rfl ?_
  intro p e s m args below meth c s₁ B hml hv
  obtain ⟨rfl, hsz, hP, hK, hD0⟩ := hv
  have hx := B.exec
  have hb := B.bytes
  have hr := B.returns
  have hts := atoms_spec (ws := wsX7_fail) B.pre
  have hown : s.vm.findClass RX7 = some m.cls := findClass_of_methodNamed B.named
  have hlocks := B.notSynchronized
  subst hsz
  have hD := hD0.self (sz := s.heap.size)
  generalize hAe : va_A [(h0, .inr (9, fs0)), (v0_0, .inr (13, fs1)), (v1_2, .inl (c_v1_2, n_v1_2, .inl f_v1_2))] s.heap.size = A at hD ⊢
  have hA : ∀ q : Nat, s.heap.size ≤ q → A q := fun q h => by rw [← hAe]; exact Or.inr h
  have hS : va_S A s.heap s.heap [] := va_S.rf
  have hP : va_P (dC, dI) vwCl [(h0, .inr (9, fs0)), (v0_0, .inr (13, fs1)), (v1_2, .inl (c_v1_2, n_v1_2, .inl f_v1_2))] s.heap := hP
  have hl := lv_entry ([.ref h0]) (n := 1) (Nat.le_of_ble_eq_true rfl)
  rw [lg_entry_eq]
  generalize (lg_sl ([.ref h0]) ++ List.replicate (1 - (lg_sl ([.ref h0])).length) Slot.unset).toArray = ls at hl ⊢
  have hl : lv_has ls 1 [(0, .ref h0)] := hl
  refine lv_aload_n hx hb dX7_fail_0 rfl (lv_at hl 0 rfl) ?_
  refine va_get (D := (dC, dI)) (ci := 9) (v := .int v0_15) (C := RX7) (T := TX7) (N := 18) hx hb hts iw_X7_fail_X7 hown hK hP 0 rfl rfl 15 (by decide) (hts (.fieldLink RX7 40 "LiquidTongue$Parser" "fault" "I") (by decide +kernel)) (fun _ h9 => h9) hf0_15 dX7_fail_1 ?_
  refine lv_if_ge (tgt := 15) hx hb dX7_fail_4 (by decide) (fun c_1 => absurd c_1 hc_0) (fun c_1 => ?_)
  refine lv_aload_n hx hb dX7_fail_7 rfl (lv_at hl 0 rfl) ?_
  refine lv_aload_n hx hb dX7_fail_8 rfl (lv_at hl 0 rfl) ?_
  have hPc := hP.sub (ws' := [(h0, .inr (9, fs0)), (v0_0, .inr (13, fs1)), (v1_2, .inl (c_v1_2, n_v1_2, .inl f_v1_2))]) [0, 1, 2] rfl
  have hDc := hD.sub (ws' := [(h0, .inr (9, fs0)), (v0_0, .inr (13, fs1)), (v1_2, .inl (c_v1_2, n_v1_2, .inl f_v1_2))]) [0, 1, 2] (by decide) rfl
  have hKc := hK.sub (tys' := [(c_v1_2, .int)]) [0] rfl
  have hFc := va_free (wc := [(h0, .inr (9, fs0)), (v0_0, .inr (13, fs1)), (v1_2, .inl (c_v1_2, n_v1_2, .inl f_v1_2))]) hD hS hA [0, 1, 2] rfl
  refine va_calli (va_runV (As := []) (rest := [.ref h0]) ⟨hx, hb, hml, hown, hts⟩ (c_X7_here_r0 l dC dI s.heap.size h0 fs0 v0_0 fs1 v1_2 v0_11 n_v1_2 c_v1_2 f_v1_2 hl0 hf0_0 hl1 hf1_2 hf0_11 hp_0) (cwV 0 hts gX7_fail_X7_here rfl rfl rfl (by decide +kernel) ⟨Nat.le_of_ble_eq_true rfl, Nat.le_of_ble_eq_true rfl⟩) ⟨zPc_blind, va_recv hKc hPc (ci := 9) (q0 := 0) rfl rfl, fun U hU hW => zPc_at hPc hKc hDc hU hW⟩ rfl rfl hl.1 rfl (lv_room (Nat.le_of_ble_eq_true rfl)) dX7_fail_9 ⟨Nat.le_of_ble_eq_true rfl, Nat.le_of_ble_eq_true rfl⟩) hS (fun q _ h => hFc q h) hFc (fun r_1 u t H1 locs ht hvm hw hB hz1 hk1 hS => ?_)
  obtain ⟨hP1, hK1, hD1⟩ := hB
  subst hw
  rw [ht] at hP1
  have hK1 := va_K.moved hvm.symm hK1
  obtain ⟨hP, hD⟩ := va_join (wr := []) (w1 := [(h0, .inr (9, fs0)), (v0_0, .inr (13, fs1)), (v1_2, .inl (c_v1_2, n_v1_2, .inl f_v1_2))]) hP hD [0, 1, 2] [] rfl rfl (by decide) (by decide) hk1 hFc hP1 hD1
  generalize H1 = H at hP hS ⊢
  have hP : va_P (dC, dI) vwCl [(h0, .inr (9, fs0)), (v0_0, .inr (13, fs1)), (v1_2, .inl (c_v1_2, n_v1_2, .inl f_v1_2))] H := hP
  have hD : va_D A [(h0, .inr (9, fs0)), (v0_0, .inr (13, fs1)), (v1_2, .inl (c_v1_2, n_v1_2, .inl f_v1_2))] := hD
  refine va_put (D := (dC, dI)) (ci := 9) (v := .int (f_v1_2 (v0_11 : Int32).toNatClampNeg)) (ty := .int) (C := RX7) (T := TX7) (N := 18) hx hb hts iw_X7_fail_X7 tyX7 tyX7_ok nmX7 hown hK hP hD hS 0 rfl rfl 15 (by decide) (hts (.fieldLink RX7 40 "LiquidTongue$Parser" "fault" "I") (by decide +kernel)) (fun _ h9 => h9) rfl (by decide +kernel) rfl rfl (zs_lt hl0 (by decide)) dX7_fail_12 (fun H locs hP hD hS => ?_)
  have hP : va_P (dC, dI) vwCl [(h0, .inr (9, (fs0.set 15 (.int (f_v1_2 (v0_11 : Int32).toNatClampNeg))))), (v0_0, .inr (13, fs1)), (v1_2, .inl (c_v1_2, n_v1_2, .inl f_v1_2))] H := hP
  have hD : va_D A [(h0, .inr (9, (fs0.set 15 (.int (f_v1_2 (v0_11 : Int32).toNatClampNeg))))), (v0_0, .inr (13, fs1)), (v1_2, .inl (c_v1_2, n_v1_2, .inl f_v1_2))] := hD
  have hP9 := hP.sub (ws' := [(h0, .inr (9, (fs0.set 15 (.int (f_v1_2 (v0_11 : Int32).toNatClampNeg))))), (v0_0, .inr (13, fs1)), (v1_2, .inl (c_v1_2, n_v1_2, .inl f_v1_2))]) [0, 1, 2] rfl
  have hD9 := hD.sub (ws' := [(h0, .inr (9, (fs0.set 15 (.int (f_v1_2 (v0_11 : Int32).toNatClampNeg))))), (v0_0, .inr (13, fs1)), (v1_2, .inl (c_v1_2, n_v1_2, .inl f_v1_2))]) [0, 1, 2] (by decide) rfl
  have hK9 := hK.sub (tys' := [(c_v1_2, .int)]) [0] rfl
  exact W.vret hx hb hr (fun t ht hW => ⟨⟨(), rfl, trivial, (zB_mk (by rw [ht]; exact hP9) (va_K.moved hW.alike hK9) hD9)⟩, hS.F ht⟩) hS.2.2 dX7_fail_15
