/-! String of no characters: String(char[]), its length -/
def wn_J0_init_bb550 : List Cond := .code yJ0_init_bb550 cJ0_init_bb550 6 none :: ([.methodLink RJ0 1 objectInit, .instanceMethod objectInit, .code objectInit ⟨#[0xb1]⟩ 1 none, .fieldLink RJ0 9 "java/lang/String" "value" "[B", .fieldLink RJ0 15 "java/lang/String" "coder" "B"] ++ wsJ00)
theorem iw_J0_init_bb550n_J0 : ∀ w ∈ wsJ00, w ∈ wn_J0_init_bb550 := fun w h => List.mem_cons_of_mem _ (List.mem_append_right _ h)
set_option maxHeartbeats 4000000 in
set_option maxRecDepth 100000 in
/-- String(char[], int, int, Void) of none -/
theorem c_Str_initE (l : Launch) (dC : Nat → ClassId) (dI : Nat → Nat → Nat) (sz : Nat) (sz0 e0 k0 v0 : Nat) (h0 h1 : Nat) (fs : List Value) (hfl : fs.length = 4) : Met l yJ0_init_bb550 wn_J0_init_bb550 ({ frames := 1, cells := 0, slots := 0, locals := 12 }) (zPs dC dI sz0 e0 k0 v0 sz [.ref h0, .ref h1, .int 0, .int 0, .null] [(h0, .inr (0, fs))] []) (va_Qv (fun u : List Value => u = (fs.set 0 (.ref v0)).set 1 (.int 0)) (zB dC dI (fun _ => []) (fun u : List Value => [(h0, .inr (0, u))]) (va_A [(h0, .inr (0, fs))] sz)) (va_A [(h0, .inr (0, fs))] sz)) 0 0 (va_A [(h0, .inr (0, fs))] sz) := by
  refine Met.ofW (cc := cJ0_init_bb550) (maxL := 6) (ret := none) (by decide) rfl ?_
  intro p e s m args below meth c s₁ B hml hv
  obtain ⟨rfl, hsz, hP, hK, hD0, hz0, hES⟩ := hv
  have hE := hES.1
  have hSt := hES.2
  have hx := B.exec
  have hb := B.bytes
  have hr := B.returns
  have hts := atoms_spec (ws := wn_J0_init_bb550) B.pre
  have hown : s.vm.findClass RJ0 = some m.cls := findClass_of_methodNamed B.named
  have hlocks := B.notSynchronized
  have hin : meth.name = "<init>" := (name_of_methodNamed B.named B.method).1
  subst hsz
  have hD := hD0.self (sz := s.heap.size)
  generalize hAe : va_A [(h0, .inr (0, fs))] s.heap.size = A at hD ⊢
  have hA : ∀ q : Nat, s.heap.size ≤ q → A q := fun q h => by rw [← hAe]; exact Or.inr h
  have hA0 : ∀ q : Nat, A q → sz0 ≤ q := fun q h => by rw [← hAe] at h; exact zA_ge hD0 hz0 h
  have hS : va_S A s.heap s.heap [] := va_S.rf
  have hP : va_P (dC, dI) vwCl [(h0, .inr (0, fs))] s.heap := hP
  have hl := lv_entry ([.ref h0, .ref h1, .int 0, .int 0, .null]) (n := 6) (Nat.le_of_ble_eq_true rfl)
  rw [lg_entry_eq]
  generalize (lg_sl ([.ref h0, .ref h1, .int 0, .int 0, .null]) ++ List.replicate (6 - (lg_sl ([.ref h0, .ref h1, .int 0, .int 0, .null])).length) Slot.unset).toArray = ls at hl ⊢
  have hl : lv_has ls 6 [(0, .ref h0), (1, .ref h1), (2, .int 0), (3, .int 0), (4, .null)] := hl
  refine lv_aload_n hx hb dJ0_init_bb550_0 rfl (lv_at hl 0 rfl) ?_
  refine W.objInit hx hb hown (hts (.methodLink RJ0 1 objectInit) (by decide +kernel)) (hts (.instanceMethod objectInit) (by decide +kernel)) (hts (.code objectInit ⟨#[0xb1]⟩ 1 none) (by decide +kernel)) rfl (by rw [hml]; exact hl.1) rfl dJ0_init_bb550_1 (Nat.le_of_ble_eq_true rfl) (Nat.le_of_ble_eq_true rfl) ?_
  refine W.eq (g2 := F0 m 4 ls []) rfl ?_
  refine lv_iload_n hx hb dJ0_init_bb550_4 rfl (lv_at hl 3 rfl) ?_
  refine lv_if_ne (tgt := 27) hx hb dJ0_init_bb550_5 (by decide) (fun c_1 => absurd c_1 (by decide)) (fun c_1 => ?_)
  refine lv_aload_n hx hb dJ0_init_bb550_8 rfl (lv_at hl 0 rfl) ?_
  refine va_ldcS hx hb hown hSt.1 dJ0_init_bb550_9 ?_
  refine vk_getf hx hb (hSt.2.1.narrow hA0) hS hown (hts (.fieldLink RJ0 9 "java/lang/String" "value" "[B") (by decide +kernel)) (fun _ h9 => h9) dJ0_init_bb550_11 ?_
  refine va_putF (D := (dC, dI)) (ci := 0) (v := .ref v0) (ty := .array .byte) (C := RJ0) (T := TJ0) (N := 4) hx hb hts iw_J0_init_bb550n_J0 tyJ0 tyJ0_ok nmJ0 hown hK hP hD hS 0 rfl rfl 0 (by decide) (hts (.fieldLink RJ0 9 "java/lang/String" "value" "[B") (by decide +kernel)) (fun _ h9 => h9) rfl hin rfl (by decide +kernel) rfl rfl (zs_lt hfl (by decide)) dJ0_init_bb550_14 (fun H locs hP hD hS => ?_)
  have hP : va_P (dC, dI) vwCl [(h0, .inr (0, (fs.set 0 (.ref v0))))] H := hP
  have hD : va_D A [(h0, .inr (0, (fs.set 0 (.ref v0))))] := hD
  refine lv_aload_n hx hb dJ0_init_bb550_17 rfl (lv_at hl 0 rfl) ?_
  refine va_ldcS hx hb hown hSt.1 dJ0_init_bb550_18 ?_
  refine vk_getf hx hb (hSt.2.2.1.narrow hA0) hS hown (hts (.fieldLink RJ0 15 "java/lang/String" "coder" "B") (by decide +kernel)) (fun _ h9 => h9) dJ0_init_bb550_20 ?_
  refine va_putF (D := (dC, dI)) (ci := 0) (v := .int 0) (ty := .byte) (C := RJ0) (T := TJ0) (N := 4) hx hb hts iw_J0_init_bb550n_J0 tyJ0 tyJ0_ok nmJ0 hown hK hP hD hS 0 rfl rfl 1 (by decide) (hts (.fieldLink RJ0 15 "java/lang/String" "coder" "B") (by decide +kernel)) (fun _ h9 => h9) rfl hin rfl (by decide +kernel) (by first | rfl | decide) (by first | rfl | decide) (zs_lt (zs_len hfl) (by decide)) dJ0_init_bb550_23 (fun H locs hP hD hS => ?_)
  have hP : va_P (dC, dI) vwCl [(h0, .inr (0, ((fs.set 0 (.ref v0)).set 1 (.int 0))))] H := hP
  have hD : va_D A [(h0, .inr (0, ((fs.set 0 (.ref v0)).set 1 (.int 0))))] := hD
  have hP9 := hP.sub (ws' := [(h0, .inr (0, ((fs.set 0 (.ref v0)).set 1 (.int 0))))]) [0] rfl
  have hD9 := hD.sub (ws' := [(h0, .inr (0, ((fs.set 0 (.ref v0)).set 1 (.int 0))))]) [0] (by decide) rfl
  have hK9 := hK.sub (tys' := []) [] rfl
  exact W.vret hx hb hr (fun t ht hW => ⟨⟨(fs.set 0 (.ref v0)).set 1 (.int 0), rfl, rfl, (zB_mk (by rw [ht]; exact hP9) (va_K.moved hW.alike hK9) hD9)⟩, hS.F ht⟩) hS.2.2 dJ0_init_bb550_26
def wn_J0_init_905df : List Cond := .code yJ0_init_905df cJ0_init_905df 2 none :: ([.initialized RJ0, .methodLink RJ0 27 yJ0_init_bb550, .instanceMethod yJ0_init_bb550, .code yJ0_init_bb550 cJ0_init_bb550 6 none, .methodLink RJ0 1 objectInit, .instanceMethod objectInit, .code objectInit ⟨#[0xb1]⟩ 1 none, .fieldLink RJ0 9 "java/lang/String" "value" "[B", .fieldLink RJ0 15 "java/lang/String" "coder" "B"] ++ wsJ00)
theorem iw_J0_init_905dfn_J0 : ∀ w ∈ wsJ00, w ∈ wn_J0_init_905df := fun w h => List.mem_cons_of_mem _ (List.mem_append_right _ h)
theorem wsJ00_good : wsJ00.all goodWord = true := by decide +kernel
theorem gn_Str_init : GoodIn wn_J0_init_905df wn_J0_init_bb550 := gi_cons (List.mem_cons_of_mem _ (List.mem_append_left _ (List.mem_of_getElem? (i := 3) rfl))) rfl (goodIn_app (gi_cons (List.mem_cons_of_mem _ (List.mem_append_left _ (List.mem_of_getElem? (i := 4) rfl))) rfl (gi_cons (List.mem_cons_of_mem _ (List.mem_append_left _ (List.mem_of_getElem? (i := 5) rfl))) rfl (gi_cons (List.mem_cons_of_mem _ (List.mem_append_left _ (List.mem_of_getElem? (i := 6) rfl))) rfl (gi_cons (List.mem_cons_of_mem _ (List.mem_append_left _ (List.mem_of_getElem? (i := 7) rfl))) rfl (gi_cons (List.mem_cons_of_mem _ (List.mem_append_left _ (List.mem_of_getElem? (i := 8) rfl))) rfl gi_nil))))) (goodIn_sub (fun w h => List.mem_cons_of_mem _ (List.mem_append_right _ h)) wsJ00_good))
set_option maxHeartbeats 4000000 in
set_option maxRecDepth 100000 in
/-- String(char[]) of none -/
theorem c_Str_init (l : Launch) (dC : Nat → ClassId) (dI : Nat → Nat → Nat) (sz : Nat) (sz0 e0 k0 v0 : Nat) (h0 h1 : Nat) (cC : ClassId) (fs : List Value) (hfl : fs.length = 4) : Met l yJ0_init_905df wn_J0_init_905df ({ frames := 2, cells := 0, slots := 0, locals := 37 }) (zPs dC dI sz0 e0 k0 v0 sz [.ref h0, .ref h1] [(h0, .inr (0, fs)), (h1, .inl (cC, 0, .inl (fun _ => 0)))] [(cC, .char)]) (va_Qv (fun u : List Value => u = (fs.set 0 (.ref v0)).set 1 (.int 0)) (zB dC dI (fun _ => [(cC, .char)]) (fun u : List Value => [(h1, .inl (cC, 0, .inl (fun _ => 0))), (h0, .inr (0, u))]) (va_A [(h0, .inr (0, fs)), (h1, .inl (cC, 0, .inl (fun _ => 0)))] sz)) (va_A [(h0, .inr (0, fs)), (h1, .inl (cC, 0, .inl (fun _ => 0)))] sz)) 0 0 (va_A [(h0, .inr (0, fs)), (h1, .inl (cC, 0, .inl (fun _ => 0)))] sz) := by
  refine Met.ofW (cc := cJ0_init_905df) (maxL := 2) (ret := none) (by decide) rfl ?_
  intro p e s m args below meth c s₁ B hml hv
  obtain ⟨rfl, hsz, hP, hK, hD0, hz0, hES⟩ := hv
  have hE := hES.1
  have hSt := hES.2
  have hx := B.exec
  have hb := B.bytes
  have hr := B.returns
  have hts := atoms_spec (ws := wn_J0_init_905df) B.pre
  have hown : s.vm.findClass RJ0 = some m.cls := findClass_of_methodNamed B.named
  have hlocks := B.notSynchronized
  have hin : meth.name = "<init>" := (name_of_methodNamed B.named B.method).1
  subst hsz
  have hD := hD0.self (sz := s.heap.size)
  generalize hAe : va_A [(h0, .inr (0, fs)), (h1, .inl (cC, 0, .inl (fun _ => 0)))] s.heap.size = A at hD ⊢
  have hA : ∀ q : Nat, s.heap.size ≤ q → A q := fun q h => by rw [← hAe]; exact Or.inr h
  have hA0 : ∀ q : Nat, A q → sz0 ≤ q := fun q h => by rw [← hAe] at h; exact zA_ge hD0 hz0 h
  have hS : va_S A s.heap s.heap [] := va_S.rf
  have hP : va_P (dC, dI) vwCl [(h0, .inr (0, fs)), (h1, .inl (cC, 0, .inl (fun _ => 0)))] s.heap := hP
  have hl := lv_entry ([.ref h0, .ref h1]) (n := 2) (Nat.le_of_ble_eq_true rfl)
  rw [lg_entry_eq]
  generalize (lg_sl ([.ref h0, .ref h1]) ++ List.replicate (2 - (lg_sl ([.ref h0, .ref h1])).length) Slot.unset).toArray = ls at hl ⊢
  have hl : lv_has ls 2 [(0, .ref h0), (1, .ref h1)] := hl
  refine lv_aload_n hx hb dJ0_init_905df_0 rfl (lv_at hl 0 rfl) ?_
  refine lv_aload_n hx hb dJ0_init_905df_1 rfl (lv_at hl 1 rfl) ?_
  refine lv_iconst (v := 0) hx hb dJ0_init_905df_2 (by decide) ?_
  refine lv_aload_n hx hb dJ0_init_905df_3 rfl (lv_at hl 1 rfl) ?_
  refine va_alen (v := 0) hx hb hK hP 1 0 rfl rfl (by decide) dJ0_init_905df_4 ?_
  refine lv_null hx hb dJ0_init_905df_5 ?_
  have hPc := hP.sub (ws' := [(h0, .inr (0, fs))]) [0] rfl
  have hDc := hD.sub (ws' := [(h0, .inr (0, fs))]) [0] (by decide) rfl
  have hKc := hK.sub (tys' := []) [] rfl
  have hFc := va_free (wc := [(h0, .inr (0, fs))]) hD hS hA [0] rfl
  refine va_callv (va_runI (As := [.ref h1, .int 0, .int 0, .null]) (rest := []) ⟨hx, hb, hml, hown, hts⟩ (c_Str_initE l dC dI s.heap.size sz0 e0 k0 v0 h0 h1 fs hfl) (cwI 4 hts gn_Str_init rfl rfl rfl (hts (.initialized RJ0) (by decide +kernel)) (hts (.methodLink RJ0 27 yJ0_init_bb550) (by decide +kernel)) (hts (.instanceMethod yJ0_init_bb550) (by decide +kernel)) rfl (by decide +kernel) ⟨Nat.le_of_ble_eq_true rfl, Nat.le_of_ble_eq_true rfl⟩) ⟨zPs_blind, fun U hU hW => zPs_at hPc hKc hDc hS hA0 hz0 hES hU hW⟩ rfl rfl hl.1 rfl (lv_room (Nat.le_of_ble_eq_true rfl)) dJ0_init_905df_6 ⟨Nat.le_of_ble_eq_true rfl, Nat.le_of_ble_eq_true rfl⟩) hS (fun q _ h => hFc q h) hFc (fun u t H1 locs ht hvm hw hB hz1 hk1 hS => ?_)
  obtain ⟨hP1, hK1, hD1⟩ := hB
  subst hw
  rw [ht] at hP1
  have hK1 := va_K.moved hvm.symm hK1
  obtain ⟨hP, hD⟩ := va_join (wr := [(h1, .inl (cC, 0, .inl (fun _ => 0)))]) (w1 := [(h0, .inr (0, ((fs.set 0 (.ref v0)).set 1 (.int 0))))]) hP hD [0] [1] rfl rfl (by decide) (by decide) hk1 hFc hP1 hD1
  generalize H1 = H at hP hS ⊢
  have hP : va_P (dC, dI) vwCl [(h1, .inl (cC, 0, .inl (fun _ => 0))), (h0, .inr (0, ((fs.set 0 (.ref v0)).set 1 (.int 0))))] H := hP
  have hD : va_D A [(h1, .inl (cC, 0, .inl (fun _ => 0))), (h0, .inr (0, ((fs.set 0 (.ref v0)).set 1 (.int 0))))] := hD
  have hP9 := hP.sub (ws' := [(h1, .inl (cC, 0, .inl (fun _ => 0))), (h0, .inr (0, ((fs.set 0 (.ref v0)).set 1 (.int 0))))]) [0, 1] rfl
  have hD9 := hD.sub (ws' := [(h1, .inl (cC, 0, .inl (fun _ => 0))), (h0, .inr (0, ((fs.set 0 (.ref v0)).set 1 (.int 0))))]) [0, 1] (by decide) rfl
  have hK9 := hK.sub (tys' := [(cC, .char)]) [0] rfl
  exact W.vret hx hb hr (fun t ht hW => ⟨⟨(fs.set 0 (.ref v0)).set 1 (.int 0), rfl, rfl, (zB_mk (by rw [ht]; exact hP9) (va_K.moved hW.alike hK9) hD9)⟩, hS.F ht⟩) hS.2.2 dJ0_init_905df_9
theorem iw_J0_coder_7d493_J0 : ∀ w ∈ wsJ00, w ∈ wsJ0_coder_7d493 := fun w h => List.mem_cons_of_mem _ (List.mem_append_right _ h)
set_option maxHeartbeats 4000000 in
set_option maxRecDepth 100000 in
/-- coder() of one with coder 0 -/
theorem c_Str_coder (l : Launch) (dC : Nat → ClassId) (dI : Nat → Nat → Nat) (sz : Nat) (sz0 e0 k0 v0 : Nat) (h0 : Nat) (fs : List Value) (hfl : fs.length = 4) (hf : fs[1]? = some (.int 0)) : Met l yJ0_coder_7d493 wsJ0_coder_7d493 ({ frames := 0, cells := 0, slots := 0, locals := 0 }) (zPs dC dI sz0 e0 k0 v0 sz [.ref h0] [(h0, .inr (0, fs))] []) (va_Qi (fun (r : Int32) (u : List Value) => r = 0 ∧ u = fs) (zB dC dI (fun _ => []) (fun u : List Value => [(h0, .inr (0, u))]) (va_A [(h0, .inr (0, fs))] sz)) (va_A [(h0, .inr (0, fs))] sz)) 0 0 (va_A [(h0, .inr (0, fs))] sz) := by
  refine Met.ofW (cc := cJ0_coder_7d493) (maxL := 1) (ret := (some .byte)) (by decide) rfl ?_
  intro p e s m args below meth c s₁ B hml hv
  obtain ⟨rfl, hsz, hP, hK, hD0, hz0, hES⟩ := hv
  have hE := hES.1
  have hSt := hES.2
  have hx := B.exec
  have hb := B.bytes
  have hr := B.returns
  have hts := atoms_spec (ws := wsJ0_coder_7d493) B.pre
  have hown : s.vm.findClass RJ0 = some m.cls := findClass_of_methodNamed B.named
  have hlocks := B.notSynchronized
  subst hsz
  have hD := hD0.self (sz := s.heap.size)
  generalize hAe : va_A [(h0, .inr (0, fs))] s.heap.size = A at hD ⊢
  have hA : ∀ q : Nat, s.heap.size ≤ q → A q := fun q h => by rw [← hAe]; exact Or.inr h
  have hA0 : ∀ q : Nat, A q → sz0 ≤ q := fun q h => by rw [← hAe] at h; exact zA_ge hD0 hz0 h
  have hS : va_S A s.heap s.heap [] := va_S.rf
  have hP : va_P (dC, dI) vwCl [(h0, .inr (0, fs))] s.heap := hP
  have hl := lv_entry ([.ref h0]) (n := 1) (Nat.le_of_ble_eq_true rfl)
  rw [lg_entry_eq]
  generalize (lg_sl ([.ref h0]) ++ List.replicate (1 - (lg_sl ([.ref h0])).length) Slot.unset).toArray = ls at hl ⊢
  have hl : lv_has ls 1 [(0, .ref h0)] := hl
  refine va_gets (v := .int 1) hx hb (hSt.2.2.2.2.narrow hA0) hS hown (hts (.fieldLink RJ0 38 "java/lang/String" "COMPACT_STRINGS" "Z") (by decide +kernel)) (fun _ h9 => h9) dJ0_coder_7d493_0 ?_
  refine lv_if_eq (tgt := 13) hx hb dJ0_coder_7d493_3 (by decide) (fun c_1 => absurd c_1 (by decide)) (fun c_1 => ?_)
  refine lv_aload_n hx hb dJ0_coder_7d493_6 rfl (lv_at hl 0 rfl) ?_
  refine va_get (D := (dC, dI)) (ci := 0) (v := .int 0) (C := RJ0) (T := TJ0) (N := 4) hx hb hts iw_J0_coder_7d493_J0 hown hK hP 0 rfl rfl 1 (by decide) (hts (.fieldLink RJ0 15 "java/lang/String" "coder" "B") (by decide +kernel)) (fun _ h9 => h9) hf dJ0_coder_7d493_7 ?_
  refine lv_goto (tgt := 14) hx hb dJ0_coder_7d493_10 (by decide) ?_
  have hP9 := hP.sub (ws' := [(h0, .inr (0, fs))]) [0] rfl
  have hD9 := hD.sub (ws' := [(h0, .inr (0, fs))]) [0] (by decide) rfl
  have hK9 := hK.sub (tys' := []) [] rfl
  exact W.zret (v := 0) hx hb hr (by first | rfl | decide) (fun t ht hW => ⟨⟨0, fs, rfl, ⟨rfl, rfl⟩, (zB_mk (by rw [ht]; exact hP9) (va_K.moved hW.alike hK9) hD9)⟩, hS.F ht⟩) hS.2.2 dJ0_coder_7d493_14
theorem iw_J0_length_8abf5_J0 : ∀ w ∈ wsJ00, w ∈ wsJ0_length_8abf5 := fun w h => List.mem_cons_of_mem _ (List.mem_append_right _ h)
set_option maxHeartbeats 4000000 in
set_option maxRecDepth 100000 in
/-- length() of the empty text -/
theorem c_Str_length (l : Launch) (dC : Nat → ClassId) (dI : Nat → Nat → Nat) (sz : Nat) (sz0 e0 k0 v0 : Nat) (h0 : Nat) (fs : List Value) (hfl : fs.length = 4) (hf0 : fs[0]? = some (.ref v0)) (hf : fs[1]? = some (.int 0)) : Met l yJ0_length_8abf5 wsJ0_length_8abf5 ({ frames := 1, cells := 0, slots := 0, locals := 20 }) (zPs dC dI sz0 e0 k0 v0 sz [.ref h0] [(h0, .inr (0, fs))] []) (va_Qi (fun (r : Int32) (u : List Value) => r = 0 ∧ u = fs) (zB dC dI (fun _ => []) (fun u : List Value => [(h0, .inr (0, u))]) (va_A [(h0, .inr (0, fs))] sz)) (va_A [(h0, .inr (0, fs))] sz)) 0 0 (va_A [(h0, .inr (0, fs))] sz) := by
  refine Met.ofW (cc := cJ0_length_8abf5) (maxL := 1) (ret := (some .int)) (by decide) rfl ?_
  intro p e s m args below meth c s₁ B hml hv
  obtain ⟨rfl, hsz, hP, hK, hD0, hz0, hES⟩ := hv
  have hE := hES.1
  have hSt := hES.2
  have hx := B.exec
  have hb := B.bytes
  have hr := B.returns
  have hts := atoms_spec (ws := wsJ0_length_8abf5) B.pre
  have hown : s.vm.findClass RJ0 = some m.cls := findClass_of_methodNamed B.named
  have hlocks := B.notSynchronized
  subst hsz
  have hD := hD0.self (sz := s.heap.size)
  generalize hAe : va_A [(h0, .inr (0, fs))] s.heap.size = A at hD ⊢
  have hA : ∀ q : Nat, s.heap.size ≤ q → A q := fun q h => by rw [← hAe]; exact Or.inr h
  have hA0 : ∀ q : Nat, A q → sz0 ≤ q := fun q h => by rw [← hAe] at h; exact zA_ge hD0 hz0 h
  have hS : va_S A s.heap s.heap [] := va_S.rf
  have hP : va_P (dC, dI) vwCl [(h0, .inr (0, fs))] s.heap := hP
  have hl := lv_entry ([.ref h0]) (n := 1) (Nat.le_of_ble_eq_true rfl)
  rw [lg_entry_eq]
  generalize (lg_sl ([.ref h0]) ++ List.replicate (1 - (lg_sl ([.ref h0])).length) Slot.unset).toArray = ls at hl ⊢
  have hl : lv_has ls 1 [(0, .ref h0)] := hl
  refine lv_aload_n hx hb dJ0_length_8abf5_0 rfl (lv_at hl 0 rfl) ?_
  refine va_get (D := (dC, dI)) (ci := 0) (v := .ref v0) (C := RJ0) (T := TJ0) (N := 4) hx hb hts iw_J0_length_8abf5_J0 hown hK hP 0 rfl rfl 0 (by decide) (hts (.fieldLink RJ0 9 "java/lang/String" "value" "[B") (by decide +kernel)) (fun _ h9 => h9) hf0 dJ0_length_8abf5_1 ?_
  refine va_tlen (v := 0) hx hb (hSt.2.2.2.1.narrow hA0) hS (by decide) dJ0_length_8abf5_4 ?_
  refine lv_aload_n hx hb dJ0_length_8abf5_5 rfl (lv_at hl 0 rfl) ?_
  have hPc := hP.sub (ws' := [(h0, .inr (0, fs))]) [0] rfl
  have hDc := hD.sub (ws' := [(h0, .inr (0, fs))]) [0] (by decide) rfl
  have hKc := hK.sub (tys' := []) [] rfl
  have hFc := va_free (wc := [(h0, .inr (0, fs))]) hD hS hA [0] rfl
  refine va_calli (va_runV (As := []) (rest := [.int 0]) ⟨hx, hb, hml, hown, hts⟩ (c_Str_coder l dC dI s.heap.size sz0 e0 k0 v0 h0 fs hfl hf) (cwV 0 hts gJ0_length_8abf5_J0_coder_7d493 rfl rfl rfl (by decide +kernel) ⟨Nat.le_of_ble_eq_true rfl, Nat.le_of_ble_eq_true rfl⟩) ⟨zPs_blind, va_recv hKc hPc (ci := 0) (q0 := 0) rfl rfl, fun U hU hW => zPs_at hPc hKc hDc hS hA0 hz0 hES hU hW⟩ rfl rfl hl.1 rfl (lv_room (Nat.le_of_ble_eq_true rfl)) dJ0_length_8abf5_6 ⟨Nat.le_of_ble_eq_true rfl, Nat.le_of_ble_eq_true rfl⟩) hS (fun q _ h => hFc q h) hFc (fun r_1 u t H1 locs ht hvm hw hB hz1 hk1 hS => ?_)
  obtain ⟨hP1, hK1, hD1⟩ := hB
  obtain ⟨hr1, hu1⟩ := hw
  have hu1 := hu1.symm
  subst hu1
  subst hr1
  rw [ht] at hP1
  have hK1 := va_K.moved hvm.symm hK1
  obtain ⟨hP, hD⟩ := va_join (wr := []) (w1 := [(h0, .inr (0, fs))]) hP hD [0] [] rfl rfl (by decide) (by decide) hk1 hFc hP1 hD1
  generalize H1 = H at hP hS ⊢
  have hP : va_P (dC, dI) vwCl [(h0, .inr (0, fs))] H := hP
  have hD : va_D A [(h0, .inr (0, fs))] := hD
  refine lv_ishr hx hb dJ0_length_8abf5_9 ?_
  refine lv_topi (fun z_2 ez_2 => ?_)
  have fz_2 : z_2 = 0 := ez_2.trans (by decide)
  clear ez_2
  subst fz_2
  have hP9 := hP.sub (ws' := [(h0, .inr (0, fs))]) [0] rfl
  have hD9 := hD.sub (ws' := [(h0, .inr (0, fs))]) [0] (by decide) rfl
  have hK9 := hK.sub (tys' := []) [] rfl
  exact W.iret (v := 0) hx hb hr (fun t ht hW => ⟨⟨0, fs, rfl, ⟨rfl, rfl⟩, (zB_mk (by rw [ht]; exact hP9) (va_K.moved hW.alike hK9) hD9)⟩, hS.F ht⟩) hS.2.2 dJ0_length_8abf5_10
