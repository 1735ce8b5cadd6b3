/-! constructors of the class: ArrayList, Octagon, Judge, Machine, LiquidTongue -/
set_option maxHeartbeats 4000000 in
set_option maxRecDepth 100000 in
/-- AbstractCollection() -/
theorem c_AC_init (l : Launch) (dC : Nat → ClassId) (dI : Nat → Nat → Nat) (sz : Nat) (h0 : Nat) : Met l yJxa1e45_init_da8c8 wsJxa1e45_init_da8c8 ({ frames := 1, cells := 0, slots := 0, locals := 12 }) (zPc dC dI sz [.ref h0] [] []) (va_Qv (fun _ : Unit => True) (zB dC dI (fun _ => []) (fun _ : Unit => []) (va_A [] sz)) (va_A [] sz)) 0 0 (va_A [] sz) := by
  refine Met.ofW (cc := cJxa1e45_init_da8c8) (maxL := 1) (ret := none) (by decide) rfl ?_
  intro p e s m args below meth c s₁ B hml hv
  obtain ⟨rfl, hsz, hP, hK, hD0⟩ := hv
  have hx := B.exec
  have hb := B.bytes
  have hr := B.returns
  have hts := atoms_spec (ws := wsJxa1e45_init_da8c8) B.pre
  have hown : s.vm.findClass RJxa1e45 = some m.cls := findClass_of_methodNamed B.named
  have hlocks := B.notSynchronized
  have hin : meth.name = "<init>" := (name_of_methodNamed B.named B.method).1
  subst hsz
  have hD := hD0.self (sz := s.heap.size)
  generalize hAe : va_A [] s.heap.size = A at hD ⊢
  have hA : ∀ q : Nat, s.heap.size ≤ q → A q := fun q h => by rw [← hAe]; exact Or.inr h
  have hS : va_S A s.heap s.heap [] := va_S.rf
  have hP : va_P (dC, dI) vwCl [] s.heap := hP
  have hl := lv_entry ([.ref h0]) (n := 1) (Nat.le_of_ble_eq_true rfl)
  rw [lg_entry_eq]
  generalize (lg_sl ([.ref h0]) ++ List.replicate (1 - (lg_sl ([.ref h0])).length) Slot.unset).toArray = ls at hl ⊢
  have hl : lv_has ls 1 [(0, .ref h0)] := hl
  refine lv_aload_n hx hb dJxa1e45_init_da8c8_0 rfl (lv_at hl 0 rfl) ?_
  refine W.objInit hx hb hown (hts (.methodLink RJxa1e45 1 objectInit) (by decide +kernel)) (hts (.instanceMethod objectInit) (by decide +kernel)) (hts (.code objectInit ⟨#[0xb1]⟩ 1 none) (by decide +kernel)) rfl (by rw [hml]; exact hl.1) rfl dJxa1e45_init_da8c8_1 (Nat.le_of_ble_eq_true rfl) (Nat.le_of_ble_eq_true rfl) ?_
  refine W.eq (g2 := F0 m 4 ls []) rfl ?_
  have hP9 := hP.sub (ws' := []) [] rfl
  have hD9 := hD.sub (ws' := []) [] (by decide) rfl
  have hK9 := hK.sub (tys' := []) [] rfl
  exact W.vret hx hb hr (fun t ht hW => ⟨⟨(), rfl, trivial, (zB_mk (by rw [ht]; exact hP9) (va_K.moved hW.alike hK9) hD9)⟩, hS.F ht⟩) hS.2.2 dJxa1e45_init_da8c8_4
theorem iw_Jxc12de_init_da8c8_Jx4a65c : ∀ w ∈ wsJx4a65c0, w ∈ wsJxc12de_init_da8c8 := fun w h => List.mem_cons_of_mem _ (List.mem_append_right _ h)
set_option maxHeartbeats 4000000 in
set_option maxRecDepth 100000 in
/-- AbstractList(): modCount 0 -/
theorem c_AL_init (l : Launch) (dC : Nat → ClassId) (dI : Nat → Nat → Nat) (sz : Nat) (h0 : Nat) (fs : List Value) (hfl : fs.length = 3) : Met l yJxc12de_init_da8c8 wsJxc12de_init_da8c8 ({ frames := 2, cells := 0, slots := 0, locals := 32 }) (zPc dC dI sz [.ref h0] [(h0, .inr (1, fs))] []) (va_Qv (fun u : List Value => u = fs.set 0 (.int 0)) (zB dC dI (fun _ => []) (fun u : List Value => [(h0, .inr (1, u))]) (va_A [(h0, .inr (1, fs))] sz)) (va_A [(h0, .inr (1, fs))] sz)) 0 0 (va_A [(h0, .inr (1, fs))] sz) := by
  refine Met.ofW (cc := cJxc12de_init_da8c8) (maxL := 1) (ret := none) (by decide) rfl ?_
  intro p e s m args below meth c s₁ B hml hv
  obtain ⟨rfl, hsz, hP, hK, hD0⟩ := hv
  have hx := B.exec
  have hb := B.bytes
  have hr := B.returns
  have hts := atoms_spec (ws := wsJxc12de_init_da8c8) B.pre
  have hown : s.vm.findClass RJxc12de = some m.cls := findClass_of_methodNamed B.named
  have hlocks := B.notSynchronized
  have hin : meth.name = "<init>" := (name_of_methodNamed B.named B.method).1
  subst hsz
  have hD := hD0.self (sz := s.heap.size)
  generalize hAe : va_A [(h0, .inr (1, fs))] s.heap.size = A at hD ⊢
  have hA : ∀ q : Nat, s.heap.size ≤ q → A q := fun q h => by rw [← hAe]; exact Or.inr h
  have hS : va_S A s.heap s.heap [] := va_S.rf
  have hP : va_P (dC, dI) vwCl [(h0, .inr (1, fs))] s.heap := hP
  have hl := lv_entry ([.ref h0]) (n := 1) (Nat.le_of_ble_eq_true rfl)
  rw [lg_entry_eq]
  generalize (lg_sl ([.ref h0]) ++ List.replicate (1 - (lg_sl ([.ref h0])).length) Slot.unset).toArray = ls at hl ⊢
  have hl : lv_has ls 1 [(0, .ref h0)] := hl
  refine lv_aload_n hx hb dJxc12de_init_da8c8_0 rfl (lv_at hl 0 rfl) ?_
  have hPc := hP.sub (ws' := []) [] rfl
  have hDc := hD.sub (ws' := []) [] (by decide) rfl
  have hKc := hK.sub (tys' := []) [] rfl
  have hFc := va_free (wc := []) hD hS hA [] rfl
  refine va_callv (va_runI (As := []) (rest := []) ⟨hx, hb, hml, hown, hts⟩ (c_AC_init l dC dI s.heap.size h0) (cwI 0 hts gJxc12de_init_da8c8_Jxa1e45_init_da8c8 rfl rfl rfl (hts (.initialized RJxa1e45) (by decide +kernel)) (hts (.methodLink RJxc12de 1 yJxa1e45_init_da8c8) (by decide +kernel)) (hts (.instanceMethod yJxa1e45_init_da8c8) (by decide +kernel)) rfl (by decide +kernel) ⟨Nat.le_of_ble_eq_true rfl, Nat.le_of_ble_eq_true rfl⟩) ⟨zPc_blind, fun U hU hW => zPc_at hPc hKc hDc hU hW⟩ rfl rfl hl.1 rfl (lv_room (Nat.le_of_ble_eq_true rfl)) dJxc12de_init_da8c8_1 ⟨Nat.le_of_ble_eq_true rfl, Nat.le_of_ble_eq_true rfl⟩) hS (fun q _ h => hFc q h) hFc (fun u t H1 locs ht hvm hw hB hz1 hk1 hS => ?_)
  obtain ⟨hP1, hK1, hD1⟩ := hB
  rw [ht] at hP1
  have hK1 := va_K.moved hvm.symm hK1
  obtain ⟨hP, hD⟩ := va_join (wr := [(h0, .inr (1, fs))]) (w1 := []) hP hD [] [0] rfl rfl (by decide) (by decide) hk1 hFc hP1 hD1
  have hK := (hK.sub (tys' := []) [] rfl).app hK1
  generalize H1 = H at hP hS ⊢
  have hP : va_P (dC, dI) vwCl [(h0, .inr (1, fs))] H := hP
  have hD : va_D A [(h0, .inr (1, fs))] := hD
  have hK : va_K (dC, dI) vwCl [] s := hK
  refine lv_aload_n hx hb dJxc12de_init_da8c8_4 rfl (lv_at hl 0 rfl) ?_
  refine lv_iconst (v := 0) hx hb dJxc12de_init_da8c8_5 (by decide) ?_
  refine va_put (D := (dC, dI)) (ci := 1) (v := .int 0) (ty := .int) (C := RJx4a65c) (T := TJx4a65c) (N := 3) hx hb hts iw_Jxc12de_init_da8c8_Jx4a65c tyJx4a65c tyJx4a65c_ok nmJx4a65c hown hK hP hD hS 0 rfl rfl 0 (by decide) (hts (.fieldLink RJxc12de 7 "java/util/AbstractList" "modCount" "I") (by decide +kernel)) (fun _ h9 => h9) rfl (by decide +kernel) rfl rfl (zs_lt hfl (by decide)) dJxc12de_init_da8c8_6 (fun H locs hP hD hS => ?_)
  have hP : va_P (dC, dI) vwCl [(h0, .inr (1, (fs.set 0 (.int 0))))] H := hP
  have hD : va_D A [(h0, .inr (1, (fs.set 0 (.int 0))))] := hD
  have hP9 := hP.sub (ws' := [(h0, .inr (1, (fs.set 0 (.int 0))))]) [0] rfl
  have hD9 := hD.sub (ws' := [(h0, .inr (1, (fs.set 0 (.int 0))))]) [0] (by decide) rfl
  have hK9 := hK.sub (tys' := []) [] rfl
  exact W.vret hx hb hr (fun t ht hW => ⟨⟨fs.set 0 (.int 0), rfl, rfl, (zB_mk (by rw [ht]; exact hP9) (va_K.moved hW.alike hK9) hD9)⟩, hS.F ht⟩) hS.2.2 dJxc12de_init_da8c8_9
theorem iw_Jx4a65c_init_da8c8_Jx4a65c : ∀ w ∈ wsJx4a65c0, w ∈ wsJx4a65c_init_da8c8 := fun w h => List.mem_cons_of_mem _ (List.mem_append_right _ h)
set_option maxHeartbeats 4000000 in
set_option maxRecDepth 100000 in
/-- ArrayList(): no elements -/
theorem c_List_init (l : Launch) (dC : Nat → ClassId) (dI : Nat → Nat → Nat) (sz : Nat) (sz0 e0 : Nat) (h0 : Nat) (fs : List Value) (hfl : fs.length = 3) : Met l yJx4a65c_init_da8c8 wsJx4a65c_init_da8c8 ({ frames := 3, cells := 0, slots := 0, locals := 52 }) (zPe dC dI sz0 e0 sz [.ref h0] [(h0, .inr (1, fs))] []) (va_Qv (fun u : List Value => u = (fs.set 0 (.int 0)).set 1 (.ref e0)) (zB dC dI (fun _ => []) (fun u : List Value => [(h0, .inr (1, u))]) (va_A [(h0, .inr (1, fs))] sz)) (va_A [(h0, .inr (1, fs))] sz)) 0 0 (va_A [(h0, .inr (1, fs))] sz) := by
  refine Met.ofW (cc := cJx4a65c_init_da8c8) (maxL := 1) (ret := none) (by decide) rfl ?_
  intro p e s m args below meth c s₁ B hml hv
  obtain ⟨rfl, hsz, hP, hK, hD0, hz0, hE⟩ := hv
  have hx := B.exec
  have hb := B.bytes
  have hr := B.returns
  have hts := atoms_spec (ws := wsJx4a65c_init_da8c8) B.pre
  have hown : s.vm.findClass RJx4a65c = some m.cls := findClass_of_methodNamed B.named
  have hlocks := B.notSynchronized
  have hin : meth.name = "<init>" := (name_of_methodNamed B.named B.method).1
  subst hsz
  have hD := hD0.self (sz := s.heap.size)
  generalize hAe : va_A [(h0, .inr (1, fs))] s.heap.size = A at hD ⊢
  have hA : ∀ q : Nat, s.heap.size ≤ q → A q := fun q h => by rw [← hAe]; exact Or.inr h
  have hA0 : ∀ q : Nat, A q → sz0 ≤ q := fun q h => by rw [← hAe] at h; exact zA_ge hD0 hz0 h
  have hS : va_S A s.heap s.heap [] := va_S.rf
  have hP : va_P (dC, dI) vwCl [(h0, .inr (1, fs))] s.heap := hP
  have hl := lv_entry ([.ref h0]) (n := 1) (Nat.le_of_ble_eq_true rfl)
  rw [lg_entry_eq]
  generalize (lg_sl ([.ref h0]) ++ List.replicate (1 - (lg_sl ([.ref h0])).length) Slot.unset).toArray = ls at hl ⊢
  have hl : lv_has ls 1 [(0, .ref h0)] := hl
  refine lv_aload_n hx hb dJx4a65c_init_da8c8_0 rfl (lv_at hl 0 rfl) ?_
  have hPc := hP.sub (ws' := [(h0, .inr (1, fs))]) [0] rfl
  have hDc := hD.sub (ws' := [(h0, .inr (1, fs))]) [0] (by decide) rfl
  have hKc := hK.sub (tys' := []) [] rfl
  have hFc := va_free (wc := [(h0, .inr (1, fs))]) hD hS hA [0] rfl
  refine va_callv (va_runI (As := []) (rest := []) ⟨hx, hb, hml, hown, hts⟩ (c_AL_init l dC dI s.heap.size h0 fs hfl) (cwI 0 hts gJx4a65c_init_da8c8_Jxc12de_init_da8c8 rfl rfl rfl (hts (.initialized RJxc12de) (by decide +kernel)) (hts (.methodLink RJx4a65c 1 yJxc12de_init_da8c8) (by decide +kernel)) (hts (.instanceMethod yJxc12de_init_da8c8) (by decide +kernel)) rfl (by decide +kernel) ⟨Nat.le_of_ble_eq_true rfl, Nat.le_of_ble_eq_true rfl⟩) ⟨zPc_blind, fun U hU hW => zPc_at hPc hKc hDc hU hW⟩ rfl rfl hl.1 rfl (lv_room (Nat.le_of_ble_eq_true rfl)) dJx4a65c_init_da8c8_1 ⟨Nat.le_of_ble_eq_true rfl, Nat.le_of_ble_eq_true rfl⟩) hS (fun q _ h => hFc q h) hFc (fun u t H1 locs ht hvm hw hB hz1 hk1 hS => ?_)
  obtain ⟨hP1, hK1, hD1⟩ := hB
  subst hw
  rw [ht] at hP1
  have hK1 := va_K.moved hvm.symm hK1
  obtain ⟨hP, hD⟩ := va_join (wr := []) (w1 := [(h0, .inr (1, (fs.set 0 (.int 0))))]) hP hD [0] [] rfl rfl (by decide) (by decide) hk1 hFc hP1 hD1
  have hK := (hK.sub (tys' := []) [] rfl).app hK1
  generalize H1 = H at hP hS ⊢
  have hP : va_P (dC, dI) vwCl [(h0, .inr (1, (fs.set 0 (.int 0))))] H := hP
  have hD : va_D A [(h0, .inr (1, (fs.set 0 (.int 0))))] := hD
  have hK : va_K (dC, dI) vwCl [] s := hK
  refine lv_aload_n hx hb dJx4a65c_init_da8c8_4 rfl (lv_at hl 0 rfl) ?_
  refine va_gets (v := .ref e0) hx hb (hE.2.narrow hA0) hS hown (hts (.fieldLink RJx4a65c 39 "java/util/ArrayList" "DEFAULTCAPACITY_EMPTY_ELEMENTDATA" "[Ljava/lang/Object;") (by decide +kernel)) (fun _ h9 => h9) dJx4a65c_init_da8c8_5 ?_
  refine va_put (D := (dC, dI)) (ci := 1) (v := .ref e0) (ty := .array (.object "java/lang/Object")) (C := RJx4a65c) (T := TJx4a65c) (N := 3) hx hb hts iw_Jx4a65c_init_da8c8_Jx4a65c tyJx4a65c tyJx4a65c_ok nmJx4a65c hown hK hP hD hS 0 rfl rfl 1 (by decide) (hts (.fieldLink RJx4a65c 9 "java/util/ArrayList" "elementData" "[Ljava/lang/Object;") (by decide +kernel)) (fun _ h9 => h9) rfl (by decide +kernel) rfl rfl (zs_lt (zs_len hfl) (by decide)) dJx4a65c_init_da8c8_8 (fun H locs hP hD hS => ?_)
  have hP : va_P (dC, dI) vwCl [(h0, .inr (1, ((fs.set 0 (.int 0)).set 1 (.ref e0))))] H := hP
  have hD : va_D A [(h0, .inr (1, ((fs.set 0 (.int 0)).set 1 (.ref e0))))] := hD
  have hP9 := hP.sub (ws' := [(h0, .inr (1, ((fs.set 0 (.int 0)).set 1 (.ref e0))))]) [0] rfl
  have hD9 := hD.sub (ws' := [(h0, .inr (1, ((fs.set 0 (.int 0)).set 1 (.ref e0))))]) [0] (by decide) rfl
  have hK9 := hK.sub (tys' := []) [] rfl
  exact W.vret hx hb hr (fun t ht hW => ⟨⟨(fs.set 0 (.int 0)).set 1 (.ref e0), rfl, rfl, (zB_mk (by rw [ht]; exact hP9) (va_K.moved hW.alike hK9) hD9)⟩, hS.F ht⟩) hS.2.2 dJx4a65c_init_da8c8_11
theorem iw_X6_init_X6 : ∀ w ∈ wsX60, w ∈ wsX6_init := fun w h => List.mem_cons_of_mem _ (List.mem_append_right _ h)
set_option maxHeartbeats 4000000 in
set_option maxRecDepth 100000 in
/-- Octagon(): no cells -/
theorem c_X6_init (l : Launch) (dC : Nat → ClassId) (dI : Nat → Nat → Nat) (sz : Nat) (h0 : Nat) (fs : List Value) (hfl : fs.length = 5) : Met l yX6_init wsX6_init ({ frames := 1, cells := 1, slots := 0, locals := 12 }) (zPc dC dI sz [.ref h0] [(h0, .inr (8, fs))] []) (va_Qv (fun _ : Nat × ClassId => True) (zB dC dI (fun u => [(u.2, .long)]) (fun u : Nat × ClassId => [(h0, .inr (8, fs.set 0 (.ref u.1))), (u.1, .inl (u.2, 0, .inr (.inl (fun _ => 0))))]) (va_A [(h0, .inr (8, fs))] sz)) (va_A [(h0, .inr (8, fs))] sz)) 1 0 (va_A [(h0, .inr (8, fs))] sz) := by
  refine Met.ofW (cc := cX6_init) (maxL := 1) (ret := none) (by decide) rfl ?_
  intro p e s m args below meth c s₁ B hml hv
  obtain ⟨rfl, hsz, hP, hK, hD0⟩ := hv
  have hx := B.exec
  have hb := B.bytes
  have hr := B.returns
  have hts := atoms_spec (ws := wsX6_init) B.pre
  have hown : s.vm.findClass RX6 = some m.cls := findClass_of_methodNamed B.named
  have hlocks := B.notSynchronized
  have hin : meth.name = "<init>" := (name_of_methodNamed B.named B.method).1
  subst hsz
  have hD := hD0.self (sz := s.heap.size)
  generalize hAe : va_A [(h0, .inr (8, fs))] s.heap.size = A at hD ⊢
  have hA : ∀ q : Nat, s.heap.size ≤ q → A q := fun q h => by rw [← hAe]; exact Or.inr h
  have hS : va_S A s.heap s.heap [] := va_S.rf
  have hP : va_P (dC, dI) vwCl [(h0, .inr (8, fs))] s.heap := hP
  have hl := lv_entry ([.ref h0]) (n := 1) (Nat.le_of_ble_eq_true rfl)
  rw [lg_entry_eq]
  generalize (lg_sl ([.ref h0]) ++ List.replicate (1 - (lg_sl ([.ref h0])).length) Slot.unset).toArray = ls at hl ⊢
  have hl : lv_has ls 1 [(0, .ref h0)] := hl
  refine lv_aload_n hx hb dX6_init_0 rfl (lv_at hl 0 rfl) ?_
  refine W.objInit hx hb hown (hts (.methodLink RX6 1 objectInit) (by decide +kernel)) (hts (.instanceMethod objectInit) (by decide +kernel)) (hts (.code objectInit ⟨#[0xb1]⟩ 1 none) (by decide +kernel)) rfl (by rw [hml]; exact hl.1) rfl dX6_init_1 (Nat.le_of_ble_eq_true rfl) (Nat.le_of_ble_eq_true rfl) ?_
  refine W.eq (g2 := F0 m 4 ls []) rfl ?_
  refine lv_aload_n hx hb dX6_init_4 rfl (lv_at hl 0 rfl) ?_
  refine lv_iconst (v := 0) hx hb dX6_init_5 (by decide) ?_
  refine va_newa (atype := .long) (ty := .long) (N' := 0) (a0 := (0, (.inr (.inl (fun _ => 0))))) hx hb (hts (.arrayClass .long) (by decide +kernel)) rfl hK hP hD hS hA (fun cA => rfl) (by decide) (by decide) (Nat.le_of_ble_eq_true rfl) (Nat.le_of_ble_eq_true rfl) (Nat.le_of_ble_eq_true rfl) dX6_init_6 (fun q_1 cA_2 H hK hP hD hS => ?_)
  have hP : va_P (dC, dI) vwCl [(h0, .inr (8, fs)), (q_1, .inl (cA_2, 0, .inr (.inl (fun _ => 0))))] H := hP
  have hD : va_D A [(h0, .inr (8, fs)), (q_1, .inl (cA_2, 0, .inr (.inl (fun _ => 0))))] := hD
  have hK : va_K (dC, dI) vwCl [(cA_2, .long)] s := hK
  refine W.widen (k := 1) (n := 0) (Nat.le_of_ble_eq_true rfl) (Nat.le_of_ble_eq_true rfl) ?_
  refine va_put (D := (dC, dI)) (ci := 8) (v := .ref q_1) (ty := .array .long) (C := RX6) (T := TX6) (N := 5) hx hb hts iw_X6_init_X6 tyX6 tyX6_ok nmX6 hown hK hP hD hS 0 rfl rfl 0 (by decide) (hts (.fieldLink RX6 7 "LiquidTongue$Octagon" "cells" "[J") (by decide +kernel)) (fun _ h9 => h9) rfl (by decide +kernel) rfl rfl (zs_lt hfl (by decide)) dX6_init_8 (fun H locs hP hD hS => ?_)
  have hP : va_P (dC, dI) vwCl [(h0, .inr (8, (fs.set 0 (.ref q_1)))), (q_1, .inl (cA_2, 0, .inr (.inl (fun _ => 0))))] H := hP
  have hD : va_D A [(h0, .inr (8, (fs.set 0 (.ref q_1)))), (q_1, .inl (cA_2, 0, .inr (.inl (fun _ => 0))))] := hD
  have hP9 := hP.sub (ws' := [(h0, .inr (8, (fs.set 0 (.ref q_1)))), (q_1, .inl (cA_2, 0, .inr (.inl (fun _ => 0))))]) [0, 1] rfl
  have hD9 := hD.sub (ws' := [(h0, .inr (8, (fs.set 0 (.ref q_1)))), (q_1, .inl (cA_2, 0, .inr (.inl (fun _ => 0))))]) [0, 1] (by decide) rfl
  have hK9 := hK.sub (tys' := [(cA_2, .long)]) [0] rfl
  refine W.widen (k := 1) (n := 0) (Nat.le_of_ble_eq_true rfl) (Nat.le_of_ble_eq_true rfl) ?_
  exact W.vret hx hb hr (fun t ht hW => ⟨⟨(q_1, cA_2), rfl, trivial, (zB_mk (by rw [ht]; exact hP9) (va_K.moved hW.alike hK9) hD9)⟩, hS.F ht⟩) hS.2.2 dX6_init_11
theorem iw_X1_init_X6 : ∀ w ∈ wsX60, w ∈ wsX1_init := fun w h => List.mem_cons_of_mem _ (List.mem_append_left _ (List.mem_append_right _ h))
theorem iw_X1_init_X1 : ∀ w ∈ wsX10, w ∈ wsX1_init := fun w h => List.mem_cons_of_mem _ (List.mem_append_right _ h)
abbrev zw_X1 (h0 : Nat) (fs : List Value) (u : (Nat → Nat) × (Nat → ClassId)) : va_W := [(h0, .inr (3, (((((fs.set 0 (.ref (u.1 0))).set 1 (.ref (u.1 2))).set 2 (.ref (u.1 3))).set 4 (.ref (u.1 4))).set 5 (.ref (u.1 5))))), ((u.1 0), .inr (8, ((zdef tyX6 5).set 0 (.ref (u.1 1))))), ((u.1 1), .inl ((u.2 0), 0, .inr (.inl (fun _ => 0)))), ((u.1 2), .inl ((u.2 1), 40, .inr (.inr (.inr (.inr (fun _ => none)))))), ((u.1 3), .inl ((u.2 2), 40, .inl (fun _ => 0))), ((u.1 4), .inl ((u.2 3), 40, .inr (.inr (.inr (.inr (fun _ => none)))))), ((u.1 5), .inl ((u.2 4), 40, .inl (fun _ => 0)))]
abbrev zt_X1 (u : (Nat → Nat) × (Nat → ClassId)) : List (ClassId × FieldType) := [((u.2 0), .long), ((u.2 1), .object RX5), ((u.2 2), .boolean), ((u.2 3), .object RX4), ((u.2 4), .boolean)]
set_option maxHeartbeats 4000000 in
set_option maxRecDepth 100000 in
/-- Judge() -/
theorem c_X1_init (l : Launch) (dC : Nat → ClassId) (dI : Nat → Nat → Nat) (sz : Nat) (sz0 e0 : Nat) (h0 : Nat) (fs : List Value) (hfl : fs.length = 10) : Met l yX1_init wsX1_init ({ frames := 2, cells := 6, slots := 165, locals := 32 }) (zPe dC dI sz0 e0 sz [.ref h0] [(h0, .inr (3, fs))] []) (va_Qv (fun _ : (Nat → Nat) × (Nat → ClassId) => True) (zB dC dI (fun u => zt_X1 u) (fun u : (Nat → Nat) × (Nat → ClassId) => zw_X1 h0 fs u) (va_A [(h0, .inr (3, fs))] sz)) (va_A [(h0, .inr (3, fs))] sz)) 6 165 (va_A [(h0, .inr (3, fs))] sz) := by
  refine Met.ofW (cc := cX1_init) (maxL := 1) (ret := none) (by decide) rfl ?_
  intro p e s m args below meth c s₁ B hml hv
  obtain ⟨rfl, hsz, hP, hK, hD0, hz0, hE⟩ := hv
  have hx := B.exec
  have hb := B.bytes
  have hr := B.returns
  have hts := atoms_spec (ws := wsX1_init) B.pre
  have hown : s.vm.findClass RX1 = some m.cls := findClass_of_methodNamed B.named
  have hlocks := B.notSynchronized
  have hin : meth.name = "<init>" := (name_of_methodNamed B.named B.method).1
  subst hsz
  have hD := hD0.self (sz := s.heap.size)
  generalize hAe : va_A [(h0, .inr (3, fs))] s.heap.size = A at hD ⊢
  have hA : ∀ q : Nat, s.heap.size ≤ q → A q := fun q h => by rw [← hAe]; exact Or.inr h
  have hA0 : ∀ q : Nat, A q → sz0 ≤ q := fun q h => by rw [← hAe] at h; exact zA_ge hD0 hz0 h
  have hS : va_S A s.heap s.heap [] := va_S.rf
  have hP : va_P (dC, dI) vwCl [(h0, .inr (3, fs))] s.heap := hP
  have hl := lv_entry ([.ref h0]) (n := 1) (Nat.le_of_ble_eq_true rfl)
  rw [lg_entry_eq]
  generalize (lg_sl ([.ref h0]) ++ List.replicate (1 - (lg_sl ([.ref h0])).length) Slot.unset).toArray = ls at hl ⊢
  have hl : lv_has ls 1 [(0, .ref h0)] := hl
  refine lv_aload_n hx hb dX1_init_0 rfl (lv_at hl 0 rfl) ?_
  refine W.objInit hx hb hown (hts (.methodLink RX1 3 objectInit) (by decide +kernel)) (hts (.instanceMethod objectInit) (by decide +kernel)) (hts (.code objectInit ⟨#[0xb1]⟩ 1 none) (by decide +kernel)) rfl (by rw [hml]; exact hl.1) rfl dX1_init_1 (Nat.le_of_ble_eq_true rfl) (Nat.le_of_ble_eq_true rfl) ?_
  refine W.eq (g2 := F0 m 4 ls []) rfl ?_
  refine lv_aload_n hx hb dX1_init_4 rfl (lv_at hl 0 rfl) ?_
  refine va_new (ci := 8) (fs := zdef tyX6 5) (C := RX6) (T := TX6) (N := 5) hx hb hts iw_X1_init_X6 tyX6 tyX6_ok hown (hts (.classLink RX1 9 RX6) (by decide +kernel)) (hts (.instantiable RX6 5) (by decide +kernel)) (hts (.initialized RX6) (by decide +kernel)) hK hP hD hS hA rfl (fun j hj => zdef_V hj) (Nat.le_of_ble_eq_true rfl) (Nat.le_of_ble_eq_true rfl) dX1_init_5 (fun q_1 H hP hD hS => ?_)
  have hP : va_P (dC, dI) vwCl [(h0, .inr (3, fs)), (q_1, .inr (8, (zdef tyX6 5)))] H := hP
  have hD : va_D A [(h0, .inr (3, fs)), (q_1, .inr (8, (zdef tyX6 5)))] := hD
  refine W.widen (k := 1) (n := 5) (Nat.le_of_ble_eq_true rfl) (Nat.le_of_ble_eq_true rfl) ?_
  refine lv_dup hx hb dX1_init_8 rfl ?_
  have hPc := hP.sub (ws' := [(q_1, .inr (8, (zdef tyX6 5)))]) [1] rfl
  have hDc := hD.sub (ws' := [(q_1, .inr (8, (zdef tyX6 5)))]) [1] (by decide) rfl
  have hKc := hK.sub (tys' := []) [] rfl
  have hFc := va_free (wc := [(q_1, .inr (8, (zdef tyX6 5)))]) hD hS hA [1] rfl
  refine va_callv (va_runIN (As := []) (rest := [.ref q_1, .ref h0]) ⟨hx, hb, hml, hown, hts⟩ (c_X6_init l dC dI H.size q_1 (zdef tyX6 5) (zdef_len _ _)) ⟨va_cnB 0 hts gX1_init_X6_init_n11 rfl rfl rfl (zEv.n2 hE.1) (hts (.initialized RX6) (by decide +kernel)) (by decide +kernel) ⟨Nat.le_of_ble_eq_true rfl, Nat.le_of_ble_eq_true rfl⟩, rfl, hts (.instanceMethod yX6_init) (by decide +kernel)⟩ ⟨zPc_blind, fun U hU hW => zPc_at hPc hKc hDc hU hW⟩ rfl rfl hl.1 rfl (lv_room (Nat.le_of_ble_eq_true rfl)) dX1_init_9 ⟨Nat.le_of_ble_eq_true rfl, Nat.le_of_ble_eq_true rfl⟩) hS (fun q _ h => hFc q h) hFc (fun u t H1 locs ht hvm hw hB hz1 hk1 hS => ?_)
  obtain ⟨qo, co⟩ := u
  obtain ⟨hP1, hK1, hD1⟩ := hB
  rw [ht] at hP1
  have hK1 := va_K.moved hvm.symm hK1
  obtain ⟨hP, hD⟩ := va_join (wr := [(h0, .inr (3, fs))]) (w1 := [(q_1, .inr (8, ((zdef tyX6 5).set 0 (.ref qo)))), (qo, .inl (co, 0, .inr (.inl (fun _ => 0))))]) hP hD [1] [0] rfl rfl (by decide) (by decide) hk1 hFc hP1 hD1
  have hK := (hK.sub (tys' := []) [] rfl).app hK1
  generalize H1 = H at hP hS ⊢
  have hP : va_P (dC, dI) vwCl [(h0, .inr (3, fs)), (q_1, .inr (8, ((zdef tyX6 5).set 0 (.ref qo)))), (qo, .inl (co, 0, .inr (.inl (fun _ => 0))))] H := hP
  have hD : va_D A [(h0, .inr (3, fs)), (q_1, .inr (8, ((zdef tyX6 5).set 0 (.ref qo)))), (qo, .inl (co, 0, .inr (.inl (fun _ => 0))))] := hD
  have hK : va_K (dC, dI) vwCl [(co, .long)] s := hK
  refine W.widen (k := 2) (n := 5) (Nat.le_of_ble_eq_true rfl) (Nat.le_of_ble_eq_true rfl) ?_
  refine va_putF (D := (dC, dI)) (ci := 3) (v := .ref q_1) (ty := .object "LiquidTongue$Octagon") (C := RX1) (T := TX1) (N := 10) hx hb hts iw_X1_init_X1 tyX1 tyX1_ok nmX1 hown hK hP hD hS 0 rfl rfl 0 (by decide) (hts (.fieldLink RX1 12 "LiquidTongue$Judge" "octagon" "LLiquidTongue$Octagon;") (by decide +kernel)) (fun _ h9 => h9) rfl hin rfl (by decide +kernel) rfl rfl (zs_lt hfl (by decide)) dX1_init_12 (fun H locs hP hD hS => ?_)
  have hP : va_P (dC, dI) vwCl [(h0, .inr (3, (fs.set 0 (.ref q_1)))), (q_1, .inr (8, ((zdef tyX6 5).set 0 (.ref qo)))), (qo, .inl (co, 0, .inr (.inl (fun _ => 0))))] H := hP
  have hD : va_D A [(h0, .inr (3, (fs.set 0 (.ref q_1)))), (q_1, .inr (8, ((zdef tyX6 5).set 0 (.ref qo)))), (qo, .inl (co, 0, .inr (.inl (fun _ => 0))))] := hD
  refine lv_aload_n hx hb dX1_init_15 rfl (lv_at hl 0 rfl) ?_
  refine lv_bipush (v := 40) hx hb dX1_init_16 (by decide) ?_
  refine va_newq (C := RX5) (N' := 40) hx hb hown (hts (.classLink RX1 18 RX5) (by decide +kernel)) (zEv.ao_RX5 hE.1) hK hP hD hS hA (by decide) (by decide) (Nat.le_of_ble_eq_true rfl) (Nat.le_of_ble_eq_true rfl) (Nat.le_of_ble_eq_true rfl) dX1_init_18 (fun q_3 cA_4 H hK hP hD hS => ?_)
  have hP : va_P (dC, dI) vwCl [(h0, .inr (3, (fs.set 0 (.ref q_1)))), (q_1, .inr (8, ((zdef tyX6 5).set 0 (.ref qo)))), (qo, .inl (co, 0, .inr (.inl (fun _ => 0)))), (q_3, .inl (cA_4, 40, .inr (.inr (.inr (.inr (fun _ => none))))))] H := hP
  have hD : va_D A [(h0, .inr (3, (fs.set 0 (.ref q_1)))), (q_1, .inr (8, ((zdef tyX6 5).set 0 (.ref qo)))), (qo, .inl (co, 0, .inr (.inl (fun _ => 0)))), (q_3, .inl (cA_4, 40, .inr (.inr (.inr (.inr (fun _ => none))))))] := hD
  have hK : va_K (dC, dI) vwCl [(co, .long), (cA_4, .object RX5)] s := hK
  refine W.widen (k := 3) (n := 45) (Nat.le_of_ble_eq_true rfl) (Nat.le_of_ble_eq_true rfl) ?_
  refine va_putF (D := (dC, dI)) (ci := 3) (v := .ref q_3) (ty := .array (.object "LiquidTongue$Node")) (C := RX1) (T := TX1) (N := 10) hx hb hts iw_X1_init_X1 tyX1 tyX1_ok nmX1 hown hK hP hD hS 0 rfl rfl 1 (by decide) (hts (.fieldLink RX1 20 "LiquidTongue$Judge" "pending" "[LLiquidTongue$Node;") (by decide +kernel)) (fun _ h9 => h9) rfl hin rfl (by decide +kernel) rfl rfl (zs_lt (zs_len hfl) (by decide)) dX1_init_21 (fun H locs hP hD hS => ?_)
  have hP : va_P (dC, dI) vwCl [(h0, .inr (3, ((fs.set 0 (.ref q_1)).set 1 (.ref q_3)))), (q_1, .inr (8, ((zdef tyX6 5).set 0 (.ref qo)))), (qo, .inl (co, 0, .inr (.inl (fun _ => 0)))), (q_3, .inl (cA_4, 40, .inr (.inr (.inr (.inr (fun _ => none))))))] H := hP
  have hD : va_D A [(h0, .inr (3, ((fs.set 0 (.ref q_1)).set 1 (.ref q_3)))), (q_1, .inr (8, ((zdef tyX6 5).set 0 (.ref qo)))), (qo, .inl (co, 0, .inr (.inl (fun _ => 0)))), (q_3, .inl (cA_4, 40, .inr (.inr (.inr (.inr (fun _ => none))))))] := hD
  refine lv_aload_n hx hb dX1_init_24 rfl (lv_at hl 0 rfl) ?_
  refine lv_bipush (v := 40) hx hb dX1_init_25 (by decide) ?_
  refine va_newa (atype := .boolean) (ty := .boolean) (N' := 40) (a0 := (40, (.inl (fun _ => 0)))) hx hb (hts (.arrayClass .boolean) (by decide +kernel)) rfl hK hP hD hS hA (fun cA => rfl) (by decide) (by decide) (Nat.le_of_ble_eq_true rfl) (Nat.le_of_ble_eq_true rfl) (Nat.le_of_ble_eq_true rfl) dX1_init_27 (fun q_5 cA_6 H hK hP hD hS => ?_)
  have hP : va_P (dC, dI) vwCl [(h0, .inr (3, ((fs.set 0 (.ref q_1)).set 1 (.ref q_3)))), (q_1, .inr (8, ((zdef tyX6 5).set 0 (.ref qo)))), (qo, .inl (co, 0, .inr (.inl (fun _ => 0)))), (q_3, .inl (cA_4, 40, .inr (.inr (.inr (.inr (fun _ => none)))))), (q_5, .inl (cA_6, 40, .inl (fun _ => 0)))] H := hP
  have hD : va_D A [(h0, .inr (3, ((fs.set 0 (.ref q_1)).set 1 (.ref q_3)))), (q_1, .inr (8, ((zdef tyX6 5).set 0 (.ref qo)))), (qo, .inl (co, 0, .inr (.inl (fun _ => 0)))), (q_3, .inl (cA_4, 40, .inr (.inr (.inr (.inr (fun _ => none)))))), (q_5, .inl (cA_6, 40, .inl (fun _ => 0)))] := hD
  have hK : va_K (dC, dI) vwCl [(co, .long), (cA_4, .object RX5), (cA_6, .boolean)] s := hK
  refine W.widen (k := 4) (n := 85) (Nat.le_of_ble_eq_true rfl) (Nat.le_of_ble_eq_true rfl) ?_
  refine va_putF (D := (dC, dI)) (ci := 3) (v := .ref q_5) (ty := .array .boolean) (C := RX1) (T := TX1) (N := 10) hx hb hts iw_X1_init_X1 tyX1 tyX1_ok nmX1 hown hK hP hD hS 0 rfl rfl 2 (by decide) (hts (.fieldLink RX1 24 "LiquidTongue$Judge" "pendingHolds" "[Z") (by decide +kernel)) (fun _ h9 => h9) rfl hin rfl (by decide +kernel) rfl rfl (zs_lt (zs_len (zs_len hfl)) (by decide)) dX1_init_29 (fun H locs hP hD hS => ?_)
  have hP : va_P (dC, dI) vwCl [(h0, .inr (3, (((fs.set 0 (.ref q_1)).set 1 (.ref q_3)).set 2 (.ref q_5)))), (q_1, .inr (8, ((zdef tyX6 5).set 0 (.ref qo)))), (qo, .inl (co, 0, .inr (.inl (fun _ => 0)))), (q_3, .inl (cA_4, 40, .inr (.inr (.inr (.inr (fun _ => none)))))), (q_5, .inl (cA_6, 40, .inl (fun _ => 0)))] H := hP
  have hD : va_D A [(h0, .inr (3, (((fs.set 0 (.ref q_1)).set 1 (.ref q_3)).set 2 (.ref q_5)))), (q_1, .inr (8, ((zdef tyX6 5).set 0 (.ref qo)))), (qo, .inl (co, 0, .inr (.inl (fun _ => 0)))), (q_3, .inl (cA_4, 40, .inr (.inr (.inr (.inr (fun _ => none)))))), (q_5, .inl (cA_6, 40, .inl (fun _ => 0)))] := hD
  refine lv_aload_n hx hb dX1_init_32 rfl (lv_at hl 0 rfl) ?_
  refine lv_bipush (v := 40) hx hb dX1_init_33 (by decide) ?_
  refine va_newq (C := RX4) (N' := 40) hx hb hown (hts (.classLink RX1 28 RX4) (by decide +kernel)) (zEv.ao_RX4 hE.1) hK hP hD hS hA (by decide) (by decide) (Nat.le_of_ble_eq_true rfl) (Nat.le_of_ble_eq_true rfl) (Nat.le_of_ble_eq_true rfl) dX1_init_35 (fun q_7 cA_8 H hK hP hD hS => ?_)
  have hP : va_P (dC, dI) vwCl [(h0, .inr (3, (((fs.set 0 (.ref q_1)).set 1 (.ref q_3)).set 2 (.ref q_5)))), (q_1, .inr (8, ((zdef tyX6 5).set 0 (.ref qo)))), (qo, .inl (co, 0, .inr (.inl (fun _ => 0)))), (q_3, .inl (cA_4, 40, .inr (.inr (.inr (.inr (fun _ => none)))))), (q_5, .inl (cA_6, 40, .inl (fun _ => 0))), (q_7, .inl (cA_8, 40, .inr (.inr (.inr (.inr (fun _ => none))))))] H := hP
  have hD : va_D A [(h0, .inr (3, (((fs.set 0 (.ref q_1)).set 1 (.ref q_3)).set 2 (.ref q_5)))), (q_1, .inr (8, ((zdef tyX6 5).set 0 (.ref qo)))), (qo, .inl (co, 0, .inr (.inl (fun _ => 0)))), (q_3, .inl (cA_4, 40, .inr (.inr (.inr (.inr (fun _ => none)))))), (q_5, .inl (cA_6, 40, .inl (fun _ => 0))), (q_7, .inl (cA_8, 40, .inr (.inr (.inr (.inr (fun _ => none))))))] := hD
  have hK : va_K (dC, dI) vwCl [(co, .long), (cA_4, .object RX5), (cA_6, .boolean), (cA_8, .object RX4)] s := hK
  refine W.widen (k := 5) (n := 125) (Nat.le_of_ble_eq_true rfl) (Nat.le_of_ble_eq_true rfl) ?_
  refine va_putF (D := (dC, dI)) (ci := 3) (v := .ref q_7) (ty := .array (.object "LiquidTongue$Name")) (C := RX1) (T := TX1) (N := 10) hx hb hts iw_X1_init_X1 tyX1 tyX1_ok nmX1 hown hK hP hD hS 0 rfl rfl 4 (by decide) (hts (.fieldLink RX1 30 "LiquidTongue$Judge" "truths" "[LLiquidTongue$Name;") (by decide +kernel)) (fun _ h9 => h9) rfl hin rfl (by decide +kernel) rfl rfl (zs_lt (zs_len (zs_len (zs_len hfl))) (by decide)) dX1_init_38 (fun H locs hP hD hS => ?_)
  have hP : va_P (dC, dI) vwCl [(h0, .inr (3, ((((fs.set 0 (.ref q_1)).set 1 (.ref q_3)).set 2 (.ref q_5)).set 4 (.ref q_7)))), (q_1, .inr (8, ((zdef tyX6 5).set 0 (.ref qo)))), (qo, .inl (co, 0, .inr (.inl (fun _ => 0)))), (q_3, .inl (cA_4, 40, .inr (.inr (.inr (.inr (fun _ => none)))))), (q_5, .inl (cA_6, 40, .inl (fun _ => 0))), (q_7, .inl (cA_8, 40, .inr (.inr (.inr (.inr (fun _ => none))))))] H := hP
  have hD : va_D A [(h0, .inr (3, ((((fs.set 0 (.ref q_1)).set 1 (.ref q_3)).set 2 (.ref q_5)).set 4 (.ref q_7)))), (q_1, .inr (8, ((zdef tyX6 5).set 0 (.ref qo)))), (qo, .inl (co, 0, .inr (.inl (fun _ => 0)))), (q_3, .inl (cA_4, 40, .inr (.inr (.inr (.inr (fun _ => none)))))), (q_5, .inl (cA_6, 40, .inl (fun _ => 0))), (q_7, .inl (cA_8, 40, .inr (.inr (.inr (.inr (fun _ => none))))))] := hD
  refine lv_aload_n hx hb dX1_init_41 rfl (lv_at hl 0 rfl) ?_
  refine lv_bipush (v := 40) hx hb dX1_init_42 (by decide) ?_
  refine va_newa (atype := .boolean) (ty := .boolean) (N' := 40) (a0 := (40, (.inl (fun _ => 0)))) hx hb (hts (.arrayClass .boolean) (by decide +kernel)) rfl hK hP hD hS hA (fun cA => rfl) (by decide) (by decide) (Nat.le_of_ble_eq_true rfl) (Nat.le_of_ble_eq_true rfl) (Nat.le_of_ble_eq_true rfl) dX1_init_44 (fun q_9 cA_10 H hK hP hD hS => ?_)
  have hP : va_P (dC, dI) vwCl [(h0, .inr (3, ((((fs.set 0 (.ref q_1)).set 1 (.ref q_3)).set 2 (.ref q_5)).set 4 (.ref q_7)))), (q_1, .inr (8, ((zdef tyX6 5).set 0 (.ref qo)))), (qo, .inl (co, 0, .inr (.inl (fun _ => 0)))), (q_3, .inl (cA_4, 40, .inr (.inr (.inr (.inr (fun _ => none)))))), (q_5, .inl (cA_6, 40, .inl (fun _ => 0))), (q_7, .inl (cA_8, 40, .inr (.inr (.inr (.inr (fun _ => none)))))), (q_9, .inl (cA_10, 40, .inl (fun _ => 0)))] H := hP
  have hD : va_D A [(h0, .inr (3, ((((fs.set 0 (.ref q_1)).set 1 (.ref q_3)).set 2 (.ref q_5)).set 4 (.ref q_7)))), (q_1, .inr (8, ((zdef tyX6 5).set 0 (.ref qo)))), (qo, .inl (co, 0, .inr (.inl (fun _ => 0)))), (q_3, .inl (cA_4, 40, .inr (.inr (.inr (.inr (fun _ => none)))))), (q_5, .inl (cA_6, 40, .inl (fun _ => 0))), (q_7, .inl (cA_8, 40, .inr (.inr (.inr (.inr (fun _ => none)))))), (q_9, .inl (cA_10, 40, .inl (fun _ => 0)))] := hD
  have hK : va_K (dC, dI) vwCl [(co, .long), (cA_4, .object RX5), (cA_6, .boolean), (cA_8, .object RX4), (cA_10, .boolean)] s := hK
  refine W.widen (k := 6) (n := 165) (Nat.le_of_ble_eq_true rfl) (Nat.le_of_ble_eq_true rfl) ?_
  refine va_putF (D := (dC, dI)) (ci := 3) (v := .ref q_9) (ty := .array .boolean) (C := RX1) (T := TX1) (N := 10) hx hb hts iw_X1_init_X1 tyX1 tyX1_ok nmX1 hown hK hP hD hS 0 rfl rfl 5 (by decide) (hts (.fieldLink RX1 34 "LiquidTongue$Judge" "truthHolds" "[Z") (by decide +kernel)) (fun _ h9 => h9) rfl hin rfl (by decide +kernel) rfl rfl (zs_lt (zs_len (zs_len (zs_len (zs_len hfl)))) (by decide)) dX1_init_46 (fun H locs hP hD hS => ?_)
  have hP : va_P (dC, dI) vwCl [(h0, .inr (3, (((((fs.set 0 (.ref q_1)).set 1 (.ref q_3)).set 2 (.ref q_5)).set 4 (.ref q_7)).set 5 (.ref q_9)))), (q_1, .inr (8, ((zdef tyX6 5).set 0 (.ref qo)))), (qo, .inl (co, 0, .inr (.inl (fun _ => 0)))), (q_3, .inl (cA_4, 40, .inr (.inr (.inr (.inr (fun _ => none)))))), (q_5, .inl (cA_6, 40, .inl (fun _ => 0))), (q_7, .inl (cA_8, 40, .inr (.inr (.inr (.inr (fun _ => none)))))), (q_9, .inl (cA_10, 40, .inl (fun _ => 0)))] H := hP
  have hD : va_D A [(h0, .inr (3, (((((fs.set 0 (.ref q_1)).set 1 (.ref q_3)).set 2 (.ref q_5)).set 4 (.ref q_7)).set 5 (.ref q_9)))), (q_1, .inr (8, ((zdef tyX6 5).set 0 (.ref qo)))), (qo, .inl (co, 0, .inr (.inl (fun _ => 0)))), (q_3, .inl (cA_4, 40, .inr (.inr (.inr (.inr (fun _ => none)))))), (q_5, .inl (cA_6, 40, .inl (fun _ => 0))), (q_7, .inl (cA_8, 40, .inr (.inr (.inr (.inr (fun _ => none)))))), (q_9, .inl (cA_10, 40, .inl (fun _ => 0)))] := hD
  have hP9 := hP.sub (ws' := [(h0, .inr (3, (((((fs.set 0 (.ref q_1)).set 1 (.ref q_3)).set 2 (.ref q_5)).set 4 (.ref q_7)).set 5 (.ref q_9)))), (q_1, .inr (8, ((zdef tyX6 5).set 0 (.ref qo)))), (qo, .inl (co, 0, .inr (.inl (fun _ => 0)))), (q_3, .inl (cA_4, 40, .inr (.inr (.inr (.inr (fun _ => none)))))), (q_5, .inl (cA_6, 40, .inl (fun _ => 0))), (q_7, .inl (cA_8, 40, .inr (.inr (.inr (.inr (fun _ => none)))))), (q_9, .inl (cA_10, 40, .inl (fun _ => 0)))]) [0, 1, 2, 3, 4, 5, 6] rfl
  have hD9 := hD.sub (ws' := [(h0, .inr (3, (((((fs.set 0 (.ref q_1)).set 1 (.ref q_3)).set 2 (.ref q_5)).set 4 (.ref q_7)).set 5 (.ref q_9)))), (q_1, .inr (8, ((zdef tyX6 5).set 0 (.ref qo)))), (qo, .inl (co, 0, .inr (.inl (fun _ => 0)))), (q_3, .inl (cA_4, 40, .inr (.inr (.inr (.inr (fun _ => none)))))), (q_5, .inl (cA_6, 40, .inl (fun _ => 0))), (q_7, .inl (cA_8, 40, .inr (.inr (.inr (.inr (fun _ => none)))))), (q_9, .inl (cA_10, 40, .inl (fun _ => 0)))]) [0, 1, 2, 3, 4, 5, 6] (by decide) rfl
  have hK9 := hK.sub (tys' := [(co, .long), (cA_4, .object RX5), (cA_6, .boolean), (cA_8, .object RX4), (cA_10, .boolean)]) [0, 1, 2, 3, 4] rfl
  refine W.widen (k := 6) (n := 165) (Nat.le_of_ble_eq_true rfl) (Nat.le_of_ble_eq_true rfl) ?_
  exact W.vret hx hb hr (fun t ht hW => ⟨⟨((fun k => [q_1, qo, q_3, q_5, q_7, q_9].getD k 0), (fun k => [co, cA_4, cA_6, cA_8, cA_10].getD k 0)), rfl, trivial, (zB_mk (by rw [ht]; exact hP9) (va_K.moved hW.alike hK9) hD9)⟩, hS.F ht⟩) hS.2.2 dX1_init_49
theorem iw_X3_init_X3 : ∀ w ∈ wsX30, w ∈ wsX3_init := fun w h => List.mem_cons_of_mem _ (List.mem_append_right _ h)
abbrev zw_X3 (h0 : Nat) (fs : List Value) (u : (Nat → Nat) × (Nat → ClassId)) : va_W := [(h0, .inr (5, ((((((fs.set 2 (.ref (u.1 0))).set 3 (.ref (u.1 1))).set 4 (.ref (u.1 2))).set 6 (.ref (u.1 3))).set 7 (.ref (u.1 4))).set 8 (.ref (u.1 5))))), ((u.1 0), .inl ((u.2 0), 6, .inr (.inl (fun _ => 0)))), ((u.1 1), .inl ((u.2 1), 6, .inr (.inr (.inr (.inr (fun _ => none)))))), ((u.1 2), .inl ((u.2 2), 64, .inr (.inl (fun _ => 0)))), ((u.1 3), .inl ((u.2 3), 1683, .inr (.inr (.inr (.inr (fun _ => none)))))), ((u.1 4), .inl ((u.2 4), 1683, .inl (fun _ => 0))), ((u.1 5), .inl ((u.2 5), 1683, .inl (fun _ => 0)))]
abbrev zt_X3 (u : (Nat → Nat) × (Nat → ClassId)) : List (ClassId × FieldType) := [((u.2 0), .long), ((u.2 1), .array .int), ((u.2 2), .long), ((u.2 3), .object RX5), ((u.2 4), .int), ((u.2 5), .int)]
set_option maxHeartbeats 4000000 in
set_option maxRecDepth 100000 in
/-- Machine() -/
theorem c_X3_init (l : Launch) (dC : Nat → ClassId) (dI : Nat → Nat → Nat) (sz : Nat) (sz0 e0 : Nat) (h0 : Nat) (fs : List Value) (hfl : fs.length = 18) : Met l yX3_init wsX3_init ({ frames := 1, cells := 6, slots := 5125, locals := 12 }) (zPe dC dI sz0 e0 sz [.ref h0] [(h0, .inr (5, fs))] []) (va_Qv (fun _ : (Nat → Nat) × (Nat → ClassId) => True) (zB dC dI (fun u => zt_X3 u) (fun u : (Nat → Nat) × (Nat → ClassId) => zw_X3 h0 fs u) (va_A [(h0, .inr (5, fs))] sz)) (va_A [(h0, .inr (5, fs))] sz)) 6 5125 (va_A [(h0, .inr (5, fs))] sz) := by
  refine Met.ofW (cc := cX3_init) (maxL := 1) (ret := none) (by decide) rfl ?_
  intro p e s m args below meth c s₁ B hml hv
  obtain ⟨rfl, hsz, hP, hK, hD0, hz0, hE⟩ := hv
  have hx := B.exec
  have hb := B.bytes
  have hr := B.returns
  have hts := atoms_spec (ws := wsX3_init) B.pre
  have hown : s.vm.findClass RX3 = some m.cls := findClass_of_methodNamed B.named
  have hlocks := B.notSynchronized
  have hin : meth.name = "<init>" := (name_of_methodNamed B.named B.method).1
  subst hsz
  have hD := hD0.self (sz := s.heap.size)
  generalize hAe : va_A [(h0, .inr (5, fs))] s.heap.size = A at hD ⊢
  have hA : ∀ q : Nat, s.heap.size ≤ q → A q := fun q h => by rw [← hAe]; exact Or.inr h
  have hA0 : ∀ q : Nat, A q → sz0 ≤ q := fun q h => by rw [← hAe] at h; exact zA_ge hD0 hz0 h
  have hS : va_S A s.heap s.heap [] := va_S.rf
  have hP : va_P (dC, dI) vwCl [(h0, .inr (5, fs))] s.heap := hP
  have hl := lv_entry ([.ref h0]) (n := 1) (Nat.le_of_ble_eq_true rfl)
  rw [lg_entry_eq]
  generalize (lg_sl ([.ref h0]) ++ List.replicate (1 - (lg_sl ([.ref h0])).length) Slot.unset).toArray = ls at hl ⊢
  have hl : lv_has ls 1 [(0, .ref h0)] := hl
  refine lv_aload_n hx hb dX3_init_0 rfl (lv_at hl 0 rfl) ?_
  refine W.objInit hx hb hown (hts (.methodLink RX3 5 objectInit) (by decide +kernel)) (hts (.instanceMethod objectInit) (by decide +kernel)) (hts (.code objectInit ⟨#[0xb1]⟩ 1 none) (by decide +kernel)) rfl (by rw [hml]; exact hl.1) rfl dX3_init_1 (Nat.le_of_ble_eq_true rfl) (Nat.le_of_ble_eq_true rfl) ?_
  refine W.eq (g2 := F0 m 4 ls []) rfl ?_
  refine lv_aload_n hx hb dX3_init_4 rfl (lv_at hl 0 rfl) ?_
  refine lv_bipush (v := 6) hx hb dX3_init_5 (by decide) ?_
  refine va_newa (atype := .long) (ty := .long) (N' := 6) (a0 := (6, (.inr (.inl (fun _ => 0))))) hx hb (hts (.arrayClass .long) (by decide +kernel)) rfl hK hP hD hS hA (fun cA => rfl) (by decide) (by decide) (Nat.le_of_ble_eq_true rfl) (Nat.le_of_ble_eq_true rfl) (Nat.le_of_ble_eq_true rfl) dX3_init_7 (fun q_1 cA_2 H hK hP hD hS => ?_)
  have hP : va_P (dC, dI) vwCl [(h0, .inr (5, fs)), (q_1, .inl (cA_2, 6, .inr (.inl (fun _ => 0))))] H := hP
  have hD : va_D A [(h0, .inr (5, fs)), (q_1, .inl (cA_2, 6, .inr (.inl (fun _ => 0))))] := hD
  have hK : va_K (dC, dI) vwCl [(cA_2, .long)] s := hK
  refine W.widen (k := 1) (n := 6) (Nat.le_of_ble_eq_true rfl) (Nat.le_of_ble_eq_true rfl) ?_
  refine va_putF (D := (dC, dI)) (ci := 5) (v := .ref q_1) (ty := .array .long) (C := RX3) (T := TX3) (N := 18) hx hb hts iw_X3_init_X3 tyX3 tyX3_ok nmX3 hown hK hP hD hS 0 rfl rfl 2 (by decide) (hts (.fieldLink RX3 11 "LiquidTongue$Machine" "given" "[J") (by decide +kernel)) (fun _ h9 => h9) rfl hin rfl (by decide +kernel) rfl rfl (zs_lt hfl (by decide)) dX3_init_9 (fun H locs hP hD hS => ?_)
  have hP : va_P (dC, dI) vwCl [(h0, .inr (5, (fs.set 2 (.ref q_1)))), (q_1, .inl (cA_2, 6, .inr (.inl (fun _ => 0))))] H := hP
  have hD : va_D A [(h0, .inr (5, (fs.set 2 (.ref q_1)))), (q_1, .inl (cA_2, 6, .inr (.inl (fun _ => 0))))] := hD
  refine lv_aload_n hx hb dX3_init_12 rfl (lv_at hl 0 rfl) ?_
  refine lv_bipush (v := 6) hx hb dX3_init_13 (by decide) ?_
  refine za_newA (N' := 6) hx hb hown (hts (.classLink RX3 15 "[I") (by decide +kernel)) (zEv.aa hE.1) hK hP hD hS hA (by decide) (by decide) (Nat.le_of_ble_eq_true rfl) (Nat.le_of_ble_eq_true rfl) (Nat.le_of_ble_eq_true rfl) dX3_init_15 (fun q_3 cA_4 H hK hP hD hS => ?_)
  have hP : va_P (dC, dI) vwCl [(h0, .inr (5, (fs.set 2 (.ref q_1)))), (q_1, .inl (cA_2, 6, .inr (.inl (fun _ => 0)))), (q_3, .inl (cA_4, 6, .inr (.inr (.inr (.inr (fun _ => none))))))] H := hP
  have hD : va_D A [(h0, .inr (5, (fs.set 2 (.ref q_1)))), (q_1, .inl (cA_2, 6, .inr (.inl (fun _ => 0)))), (q_3, .inl (cA_4, 6, .inr (.inr (.inr (.inr (fun _ => none))))))] := hD
  have hK : va_K (dC, dI) vwCl [(cA_2, .long), (cA_4, .array .int)] s := hK
  refine W.widen (k := 2) (n := 12) (Nat.le_of_ble_eq_true rfl) (Nat.le_of_ble_eq_true rfl) ?_
  refine va_putF (D := (dC, dI)) (ci := 5) (v := .ref q_3) (ty := .array (.array .int)) (C := RX3) (T := TX3) (N := 18) hx hb hts iw_X3_init_X3 tyX3 tyX3_ok nmX3 hown hK hP hD hS 0 rfl rfl 3 (by decide) (hts (.fieldLink RX3 17 "LiquidTongue$Machine" "givenRows" "[[I") (by decide +kernel)) (fun _ h9 => h9) rfl hin rfl (by decide +kernel) rfl rfl (zs_lt (zs_len hfl) (by decide)) dX3_init_18 (fun H locs hP hD hS => ?_)
  have hP : va_P (dC, dI) vwCl [(h0, .inr (5, ((fs.set 2 (.ref q_1)).set 3 (.ref q_3)))), (q_1, .inl (cA_2, 6, .inr (.inl (fun _ => 0)))), (q_3, .inl (cA_4, 6, .inr (.inr (.inr (.inr (fun _ => none))))))] H := hP
  have hD : va_D A [(h0, .inr (5, ((fs.set 2 (.ref q_1)).set 3 (.ref q_3)))), (q_1, .inl (cA_2, 6, .inr (.inl (fun _ => 0)))), (q_3, .inl (cA_4, 6, .inr (.inr (.inr (.inr (fun _ => none))))))] := hD
  refine lv_aload_n hx hb dX3_init_21 rfl (lv_at hl 0 rfl) ?_
  refine lv_bipush (v := 64) hx hb dX3_init_22 (by decide) ?_
  refine va_newa (atype := .long) (ty := .long) (N' := 64) (a0 := (64, (.inr (.inl (fun _ => 0))))) hx hb (hts (.arrayClass .long) (by decide +kernel)) rfl hK hP hD hS hA (fun cA => rfl) (by decide) (by decide) (Nat.le_of_ble_eq_true rfl) (Nat.le_of_ble_eq_true rfl) (Nat.le_of_ble_eq_true rfl) dX3_init_24 (fun q_5 cA_6 H hK hP hD hS => ?_)
  have hP : va_P (dC, dI) vwCl [(h0, .inr (5, ((fs.set 2 (.ref q_1)).set 3 (.ref q_3)))), (q_1, .inl (cA_2, 6, .inr (.inl (fun _ => 0)))), (q_3, .inl (cA_4, 6, .inr (.inr (.inr (.inr (fun _ => none)))))), (q_5, .inl (cA_6, 64, .inr (.inl (fun _ => 0))))] H := hP
  have hD : va_D A [(h0, .inr (5, ((fs.set 2 (.ref q_1)).set 3 (.ref q_3)))), (q_1, .inl (cA_2, 6, .inr (.inl (fun _ => 0)))), (q_3, .inl (cA_4, 6, .inr (.inr (.inr (.inr (fun _ => none)))))), (q_5, .inl (cA_6, 64, .inr (.inl (fun _ => 0))))] := hD
  have hK : va_K (dC, dI) vwCl [(cA_2, .long), (cA_4, .array .int), (cA_6, .long)] s := hK
  refine W.widen (k := 3) (n := 76) (Nat.le_of_ble_eq_true rfl) (Nat.le_of_ble_eq_true rfl) ?_
  refine va_put (D := (dC, dI)) (ci := 5) (v := .ref q_5) (ty := .array .long) (C := RX3) (T := TX3) (N := 18) hx hb hts iw_X3_init_X3 tyX3 tyX3_ok nmX3 hown hK hP hD hS 0 rfl rfl 4 (by decide) (hts (.fieldLink RX3 21 "LiquidTongue$Machine" "heap" "[J") (by decide +kernel)) (fun _ h9 => h9) rfl (by decide +kernel) rfl rfl (zs_lt (zs_len (zs_len hfl)) (by decide)) dX3_init_26 (fun H locs hP hD hS => ?_)
  have hP : va_P (dC, dI) vwCl [(h0, .inr (5, (((fs.set 2 (.ref q_1)).set 3 (.ref q_3)).set 4 (.ref q_5)))), (q_1, .inl (cA_2, 6, .inr (.inl (fun _ => 0)))), (q_3, .inl (cA_4, 6, .inr (.inr (.inr (.inr (fun _ => none)))))), (q_5, .inl (cA_6, 64, .inr (.inl (fun _ => 0))))] H := hP
  have hD : va_D A [(h0, .inr (5, (((fs.set 2 (.ref q_1)).set 3 (.ref q_3)).set 4 (.ref q_5)))), (q_1, .inl (cA_2, 6, .inr (.inl (fun _ => 0)))), (q_3, .inl (cA_4, 6, .inr (.inr (.inr (.inr (fun _ => none)))))), (q_5, .inl (cA_6, 64, .inr (.inl (fun _ => 0))))] := hD
  refine lv_aload_n hx hb dX3_init_29 rfl (lv_at hl 0 rfl) ?_
  refine lv_sipush (v := 1683) hx hb dX3_init_30 (by decide) ?_
  refine va_newq (C := RX5) (N' := 1683) hx hb hown (hts (.classLink RX3 24 RX5) (by decide +kernel)) (zEv.ao_RX5 hE.1) hK hP hD hS hA (by decide) (by decide) (Nat.le_of_ble_eq_true rfl) (Nat.le_of_ble_eq_true rfl) (Nat.le_of_ble_eq_true rfl) dX3_init_33 (fun q_7 cA_8 H hK hP hD hS => ?_)
  have hP : va_P (dC, dI) vwCl [(h0, .inr (5, (((fs.set 2 (.ref q_1)).set 3 (.ref q_3)).set 4 (.ref q_5)))), (q_1, .inl (cA_2, 6, .inr (.inl (fun _ => 0)))), (q_3, .inl (cA_4, 6, .inr (.inr (.inr (.inr (fun _ => none)))))), (q_5, .inl (cA_6, 64, .inr (.inl (fun _ => 0)))), (q_7, .inl (cA_8, 1683, .inr (.inr (.inr (.inr (fun _ => none))))))] H := hP
  have hD : va_D A [(h0, .inr (5, (((fs.set 2 (.ref q_1)).set 3 (.ref q_3)).set 4 (.ref q_5)))), (q_1, .inl (cA_2, 6, .inr (.inl (fun _ => 0)))), (q_3, .inl (cA_4, 6, .inr (.inr (.inr (.inr (fun _ => none)))))), (q_5, .inl (cA_6, 64, .inr (.inl (fun _ => 0)))), (q_7, .inl (cA_8, 1683, .inr (.inr (.inr (.inr (fun _ => none))))))] := hD
  have hK : va_K (dC, dI) vwCl [(cA_2, .long), (cA_4, .array .int), (cA_6, .long), (cA_8, .object RX5)] s := hK
  refine W.widen (k := 4) (n := 1759) (Nat.le_of_ble_eq_true rfl) (Nat.le_of_ble_eq_true rfl) ?_
  refine va_putF (D := (dC, dI)) (ci := 5) (v := .ref q_7) (ty := .array (.object "LiquidTongue$Node")) (C := RX3) (T := TX3) (N := 18) hx hb hts iw_X3_init_X3 tyX3 tyX3_ok nmX3 hown hK hP hD hS 0 rfl rfl 6 (by decide) (hts (.fieldLink RX3 26 "LiquidTongue$Machine" "waiting" "[LLiquidTongue$Node;") (by decide +kernel)) (fun _ h9 => h9) rfl hin rfl (by decide +kernel) rfl rfl (zs_lt (zs_len (zs_len (zs_len hfl))) (by decide)) dX3_init_36 (fun H locs hP hD hS => ?_)
  have hP : va_P (dC, dI) vwCl [(h0, .inr (5, ((((fs.set 2 (.ref q_1)).set 3 (.ref q_3)).set 4 (.ref q_5)).set 6 (.ref q_7)))), (q_1, .inl (cA_2, 6, .inr (.inl (fun _ => 0)))), (q_3, .inl (cA_4, 6, .inr (.inr (.inr (.inr (fun _ => none)))))), (q_5, .inl (cA_6, 64, .inr (.inl (fun _ => 0)))), (q_7, .inl (cA_8, 1683, .inr (.inr (.inr (.inr (fun _ => none))))))] H := hP
  have hD : va_D A [(h0, .inr (5, ((((fs.set 2 (.ref q_1)).set 3 (.ref q_3)).set 4 (.ref q_5)).set 6 (.ref q_7)))), (q_1, .inl (cA_2, 6, .inr (.inl (fun _ => 0)))), (q_3, .inl (cA_4, 6, .inr (.inr (.inr (.inr (fun _ => none)))))), (q_5, .inl (cA_6, 64, .inr (.inl (fun _ => 0)))), (q_7, .inl (cA_8, 1683, .inr (.inr (.inr (.inr (fun _ => none))))))] := hD
  refine lv_aload_n hx hb dX3_init_39 rfl (lv_at hl 0 rfl) ?_
  refine lv_sipush (v := 1683) hx hb dX3_init_40 (by decide) ?_
  refine va_newa (atype := .int) (ty := .int) (N' := 1683) (a0 := (1683, (.inl (fun _ => 0)))) hx hb (hts (.arrayClass .int) (by decide +kernel)) rfl hK hP hD hS hA (fun cA => rfl) (by decide) (by decide) (Nat.le_of_ble_eq_true rfl) (Nat.le_of_ble_eq_true rfl) (Nat.le_of_ble_eq_true rfl) dX3_init_43 (fun q_9 cA_10 H hK hP hD hS => ?_)
  have hP : va_P (dC, dI) vwCl [(h0, .inr (5, ((((fs.set 2 (.ref q_1)).set 3 (.ref q_3)).set 4 (.ref q_5)).set 6 (.ref q_7)))), (q_1, .inl (cA_2, 6, .inr (.inl (fun _ => 0)))), (q_3, .inl (cA_4, 6, .inr (.inr (.inr (.inr (fun _ => none)))))), (q_5, .inl (cA_6, 64, .inr (.inl (fun _ => 0)))), (q_7, .inl (cA_8, 1683, .inr (.inr (.inr (.inr (fun _ => none)))))), (q_9, .inl (cA_10, 1683, .inl (fun _ => 0)))] H := hP
  have hD : va_D A [(h0, .inr (5, ((((fs.set 2 (.ref q_1)).set 3 (.ref q_3)).set 4 (.ref q_5)).set 6 (.ref q_7)))), (q_1, .inl (cA_2, 6, .inr (.inl (fun _ => 0)))), (q_3, .inl (cA_4, 6, .inr (.inr (.inr (.inr (fun _ => none)))))), (q_5, .inl (cA_6, 64, .inr (.inl (fun _ => 0)))), (q_7, .inl (cA_8, 1683, .inr (.inr (.inr (.inr (fun _ => none)))))), (q_9, .inl (cA_10, 1683, .inl (fun _ => 0)))] := hD
  have hK : va_K (dC, dI) vwCl [(cA_2, .long), (cA_4, .array .int), (cA_6, .long), (cA_8, .object RX5), (cA_10, .int)] s := hK
  refine W.widen (k := 5) (n := 3442) (Nat.le_of_ble_eq_true rfl) (Nat.le_of_ble_eq_true rfl) ?_
  refine va_putF (D := (dC, dI)) (ci := 5) (v := .ref q_9) (ty := .array .int) (C := RX3) (T := TX3) (N := 18) hx hb hts iw_X3_init_X3 tyX3 tyX3_ok nmX3 hown hK hP hD hS 0 rfl rfl 7 (by decide) (hts (.fieldLink RX3 30 "LiquidTongue$Machine" "waitingScopes" "[I") (by decide +kernel)) (fun _ h9 => h9) rfl hin rfl (by decide +kernel) rfl rfl (zs_lt (zs_len (zs_len (zs_len (zs_len hfl)))) (by decide)) dX3_init_45 (fun H locs hP hD hS => ?_)
  have hP : va_P (dC, dI) vwCl [(h0, .inr (5, (((((fs.set 2 (.ref q_1)).set 3 (.ref q_3)).set 4 (.ref q_5)).set 6 (.ref q_7)).set 7 (.ref q_9)))), (q_1, .inl (cA_2, 6, .inr (.inl (fun _ => 0)))), (q_3, .inl (cA_4, 6, .inr (.inr (.inr (.inr (fun _ => none)))))), (q_5, .inl (cA_6, 64, .inr (.inl (fun _ => 0)))), (q_7, .inl (cA_8, 1683, .inr (.inr (.inr (.inr (fun _ => none)))))), (q_9, .inl (cA_10, 1683, .inl (fun _ => 0)))] H := hP
  have hD : va_D A [(h0, .inr (5, (((((fs.set 2 (.ref q_1)).set 3 (.ref q_3)).set 4 (.ref q_5)).set 6 (.ref q_7)).set 7 (.ref q_9)))), (q_1, .inl (cA_2, 6, .inr (.inl (fun _ => 0)))), (q_3, .inl (cA_4, 6, .inr (.inr (.inr (.inr (fun _ => none)))))), (q_5, .inl (cA_6, 64, .inr (.inl (fun _ => 0)))), (q_7, .inl (cA_8, 1683, .inr (.inr (.inr (.inr (fun _ => none)))))), (q_9, .inl (cA_10, 1683, .inl (fun _ => 0)))] := hD
  refine lv_aload_n hx hb dX3_init_48 rfl (lv_at hl 0 rfl) ?_
  refine lv_sipush (v := 1683) hx hb dX3_init_49 (by decide) ?_
  refine va_newa (atype := .int) (ty := .int) (N' := 1683) (a0 := (1683, (.inl (fun _ => 0)))) hx hb (hts (.arrayClass .int) (by decide +kernel)) rfl hK hP hD hS hA (fun cA => rfl) (by decide) (by decide) (Nat.le_of_ble_eq_true rfl) (Nat.le_of_ble_eq_true rfl) (Nat.le_of_ble_eq_true rfl) dX3_init_52 (fun q_11 cA_12 H hK hP hD hS => ?_)
  have hP : va_P (dC, dI) vwCl [(h0, .inr (5, (((((fs.set 2 (.ref q_1)).set 3 (.ref q_3)).set 4 (.ref q_5)).set 6 (.ref q_7)).set 7 (.ref q_9)))), (q_1, .inl (cA_2, 6, .inr (.inl (fun _ => 0)))), (q_3, .inl (cA_4, 6, .inr (.inr (.inr (.inr (fun _ => none)))))), (q_5, .inl (cA_6, 64, .inr (.inl (fun _ => 0)))), (q_7, .inl (cA_8, 1683, .inr (.inr (.inr (.inr (fun _ => none)))))), (q_9, .inl (cA_10, 1683, .inl (fun _ => 0))), (q_11, .inl (cA_12, 1683, .inl (fun _ => 0)))] H := hP
  have hD : va_D A [(h0, .inr (5, (((((fs.set 2 (.ref q_1)).set 3 (.ref q_3)).set 4 (.ref q_5)).set 6 (.ref q_7)).set 7 (.ref q_9)))), (q_1, .inl (cA_2, 6, .inr (.inl (fun _ => 0)))), (q_3, .inl (cA_4, 6, .inr (.inr (.inr (.inr (fun _ => none)))))), (q_5, .inl (cA_6, 64, .inr (.inl (fun _ => 0)))), (q_7, .inl (cA_8, 1683, .inr (.inr (.inr (.inr (fun _ => none)))))), (q_9, .inl (cA_10, 1683, .inl (fun _ => 0))), (q_11, .inl (cA_12, 1683, .inl (fun _ => 0)))] := hD
  have hK : va_K (dC, dI) vwCl [(cA_2, .long), (cA_4, .array .int), (cA_6, .long), (cA_8, .object RX5), (cA_10, .int), (cA_12, .int)] s := hK
  refine W.widen (k := 6) (n := 5125) (Nat.le_of_ble_eq_true rfl) (Nat.le_of_ble_eq_true rfl) ?_
  refine va_putF (D := (dC, dI)) (ci := 5) (v := .ref q_11) (ty := .array .int) (C := RX3) (T := TX3) (N := 18) hx hb hts iw_X3_init_X3 tyX3 tyX3_ok nmX3 hown hK hP hD hS 0 rfl rfl 8 (by decide) (hts (.fieldLink RX3 33 "LiquidTongue$Machine" "waitingArguments" "[I") (by decide +kernel)) (fun _ h9 => h9) rfl hin rfl (by decide +kernel) rfl rfl (zs_lt (zs_len (zs_len (zs_len (zs_len (zs_len hfl))))) (by decide)) dX3_init_54 (fun H locs hP hD hS => ?_)
  have hP : va_P (dC, dI) vwCl [(h0, .inr (5, ((((((fs.set 2 (.ref q_1)).set 3 (.ref q_3)).set 4 (.ref q_5)).set 6 (.ref q_7)).set 7 (.ref q_9)).set 8 (.ref q_11)))), (q_1, .inl (cA_2, 6, .inr (.inl (fun _ => 0)))), (q_3, .inl (cA_4, 6, .inr (.inr (.inr (.inr (fun _ => none)))))), (q_5, .inl (cA_6, 64, .inr (.inl (fun _ => 0)))), (q_7, .inl (cA_8, 1683, .inr (.inr (.inr (.inr (fun _ => none)))))), (q_9, .inl (cA_10, 1683, .inl (fun _ => 0))), (q_11, .inl (cA_12, 1683, .inl (fun _ => 0)))] H := hP
  have hD : va_D A [(h0, .inr (5, ((((((fs.set 2 (.ref q_1)).set 3 (.ref q_3)).set 4 (.ref q_5)).set 6 (.ref q_7)).set 7 (.ref q_9)).set 8 (.ref q_11)))), (q_1, .inl (cA_2, 6, .inr (.inl (fun _ => 0)))), (q_3, .inl (cA_4, 6, .inr (.inr (.inr (.inr (fun _ => none)))))), (q_5, .inl (cA_6, 64, .inr (.inl (fun _ => 0)))), (q_7, .inl (cA_8, 1683, .inr (.inr (.inr (.inr (fun _ => none)))))), (q_9, .inl (cA_10, 1683, .inl (fun _ => 0))), (q_11, .inl (cA_12, 1683, .inl (fun _ => 0)))] := hD
  have hP9 := hP.sub (ws' := [(h0, .inr (5, ((((((fs.set 2 (.ref q_1)).set 3 (.ref q_3)).set 4 (.ref q_5)).set 6 (.ref q_7)).set 7 (.ref q_9)).set 8 (.ref q_11)))), (q_1, .inl (cA_2, 6, .inr (.inl (fun _ => 0)))), (q_3, .inl (cA_4, 6, .inr (.inr (.inr (.inr (fun _ => none)))))), (q_5, .inl (cA_6, 64, .inr (.inl (fun _ => 0)))), (q_7, .inl (cA_8, 1683, .inr (.inr (.inr (.inr (fun _ => none)))))), (q_9, .inl (cA_10, 1683, .inl (fun _ => 0))), (q_11, .inl (cA_12, 1683, .inl (fun _ => 0)))]) [0, 1, 2, 3, 4, 5, 6] rfl
  have hD9 := hD.sub (ws' := [(h0, .inr (5, ((((((fs.set 2 (.ref q_1)).set 3 (.ref q_3)).set 4 (.ref q_5)).set 6 (.ref q_7)).set 7 (.ref q_9)).set 8 (.ref q_11)))), (q_1, .inl (cA_2, 6, .inr (.inl (fun _ => 0)))), (q_3, .inl (cA_4, 6, .inr (.inr (.inr (.inr (fun _ => none)))))), (q_5, .inl (cA_6, 64, .inr (.inl (fun _ => 0)))), (q_7, .inl (cA_8, 1683, .inr (.inr (.inr (.inr (fun _ => none)))))), (q_9, .inl (cA_10, 1683, .inl (fun _ => 0))), (q_11, .inl (cA_12, 1683, .inl (fun _ => 0)))]) [0, 1, 2, 3, 4, 5, 6] (by decide) rfl
  have hK9 := hK.sub (tys' := [(cA_2, .long), (cA_4, .array .int), (cA_6, .long), (cA_8, .object RX5), (cA_10, .int), (cA_12, .int)]) [0, 1, 2, 3, 4, 5] rfl
  refine W.widen (k := 6) (n := 5125) (Nat.le_of_ble_eq_true rfl) (Nat.le_of_ble_eq_true rfl) ?_
  exact W.vret hx hb hr (fun t ht hW => ⟨⟨((fun k => [q_1, q_3, q_5, q_7, q_9, q_11].getD k 0), (fun k => [cA_2, cA_4, cA_6, cA_8, cA_10, cA_12].getD k 0)), rfl, trivial, (zB_mk (by rw [ht]; exact hP9) (va_K.moved hW.alike hK9) hD9)⟩, hS.F ht⟩) hS.2.2 dX3_init_57
