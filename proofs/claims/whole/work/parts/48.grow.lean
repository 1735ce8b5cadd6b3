/-! ArrayList.grow and add of an empty list: ten places, the first taken -/
def wnG : List Cond := [.fieldLink RJx4a65c 9 "java/util/ArrayList" "elementData" "[Ljava/lang/Object;", .fieldLink RJx4a65c 39 "java/util/ArrayList" "DEFAULTCAPACITY_EMPTY_ELEMENTDATA" "[Ljava/lang/Object;", .methodLink RJx4a65c 79 Lib.Math.max.name, .static Lib.Math.max.name, .initialized "java/lang/Math", .code Lib.Math.max.name Lib.Math.max.code 2 (some .int), .classLink RJx4a65c 7 "java/lang/Object", .fieldLink RJx4a65c 48 "java/util/ArrayList" "size" "I", .fieldLink RJx4a65c 63 "java/util/ArrayList" "modCount" "I", .sameField "java/util/ArrayList" "java/util/AbstractList" "modCount" "I", .code yJx4a65c_grow_92f84 cJx4a65c_grow_92f84 4 (some (.array (.object "java/lang/Object"))), .methodLink RJx4a65c 69 yJx4a65c_grow_92f84, .instanceMethod yJx4a65c_grow_92f84, .selects RJx4a65c yJx4a65c_grow_92f84 yJx4a65c_grow_92f84, .initialized RJx4a65c, .code yJx4a65c_grow_d5877 cJx4a65c_grow_d5877 1 (some (.array (.object "java/lang/Object"))), .methodLink RJx4a65c 129 yJx4a65c_grow_d5877, .instanceMethod yJx4a65c_grow_d5877, .selects RJx4a65c yJx4a65c_grow_d5877 yJx4a65c_grow_d5877, .code yJx4a65c_add_72be8 cJx4a65c_add_72be8 4 none, .methodLink RJx4a65c 131 yJx4a65c_add_72be8, .instanceMethod yJx4a65c_add_72be8, .selects RJx4a65c yJx4a65c_add_72be8 yJx4a65c_add_72be8] ++ (wsJx4a65c0)
abbrev wG_Jx4a65c_grow_92f84 : List Cond := .code yJx4a65c_grow_92f84 cJx4a65c_grow_92f84 4 (some (.array (.object "java/lang/Object"))) :: wnG
abbrev wG_Jx4a65c_grow_d5877 : List Cond := .code yJx4a65c_grow_d5877 cJx4a65c_grow_d5877 1 (some (.array (.object "java/lang/Object"))) :: wnG
abbrev wG_Jx4a65c_add_72be8 : List Cond := .code yJx4a65c_add_72be8 cJx4a65c_add_72be8 4 none :: wnG
abbrev wG_Jx4a65c_add_9ea2d : List Cond := .code yJx4a65c_add_9ea2d cJx4a65c_add_9ea2d 2 (some .boolean) :: wnG
theorem iwG0_Jx4a65c : ∀ w ∈ wsJx4a65c0, w ∈ wnG := fun w h => List.mem_append_right _ h
theorem iwG_Jx4a65c {q : Cond} : ∀ w ∈ wsJx4a65c0, w ∈ q :: wnG := fun w h => List.mem_cons_of_mem _ (iwG0_Jx4a65c w h)
theorem igG_Jx4a65c : GoodIn wnG wsJx4a65c0 := goodIn_sub iwG0_Jx4a65c (by decide +kernel)
theorem wnG_good : wnG.all goodWord = true := by decide +kernel
theorem gG_all : GoodIn wnG wnG := goodIn_sub (fun _ h => h) wnG_good
theorem gG_Jx4a65c_69_Jx4a65c_grow_92f84 : GoodIn wnG (wsV RJx4a65c 69 RJx4a65c yJx4a65c_grow_92f84 wG_Jx4a65c_grow_92f84) := goodIn_app (gi_cons (List.mem_append_left _ (List.mem_of_getElem? (i := 11) rfl)) rfl (gi_cons (List.mem_append_left _ (List.mem_of_getElem? (i := 12) rfl)) rfl (gi_cons (List.mem_append_left _ (List.mem_of_getElem? (i := 13) rfl)) rfl (gi_cons (List.mem_append_left _ (List.mem_of_getElem? (i := 14) rfl)) rfl gi_nil)))) (gi_cons (List.mem_append_left _ (List.mem_of_getElem? (i := 10) rfl)) rfl gG_all)
theorem gG_Jx4a65c_129_Jx4a65c_grow_d5877 : GoodIn wnG (wsV RJx4a65c 129 RJx4a65c yJx4a65c_grow_d5877 wG_Jx4a65c_grow_d5877) := goodIn_app (gi_cons (List.mem_append_left _ (List.mem_of_getElem? (i := 16) rfl)) rfl (gi_cons (List.mem_append_left _ (List.mem_of_getElem? (i := 17) rfl)) rfl (gi_cons (List.mem_append_left _ (List.mem_of_getElem? (i := 18) rfl)) rfl (gi_cons (List.mem_append_left _ (List.mem_of_getElem? (i := 14) rfl)) rfl gi_nil)))) (gi_cons (List.mem_append_left _ (List.mem_of_getElem? (i := 15) rfl)) rfl gG_all)
theorem gG_Jx4a65c_131_Jx4a65c_add_72be8 : GoodIn wnG (wsV RJx4a65c 131 RJx4a65c yJx4a65c_add_72be8 wG_Jx4a65c_add_72be8) := goodIn_app (gi_cons (List.mem_append_left _ (List.mem_of_getElem? (i := 20) rfl)) rfl (gi_cons (List.mem_append_left _ (List.mem_of_getElem? (i := 21) rfl)) rfl (gi_cons (List.mem_append_left _ (List.mem_of_getElem? (i := 22) rfl)) rfl (gi_cons (List.mem_append_left _ (List.mem_of_getElem? (i := 14) rfl)) rfl gi_nil)))) (gi_cons (List.mem_append_left _ (List.mem_of_getElem? (i := 19) rfl)) rfl gG_all)
set_option maxHeartbeats 4000000 in
set_option maxRecDepth 100000 in
/-- grow(1) of an empty list -/
theorem c_List_grow1 (l : Launch) (dC : Nat → ClassId) (dI : Nat → Nat → Nat) (sz : Nat) (sz0 e0 k0 v0 : Nat) (h0 : Nat) (fs : List Value) (hfl : fs.length = 3) (hf : fs[1]? = some (.ref e0)) : Met l yJx4a65c_grow_92f84 wG_Jx4a65c_grow_92f84 ({ frames := 1, cells := 1, slots := 10, locals := 20 }) (zPl dC dI sz0 e0 k0 v0 sz [.ref h0, .int 1] [(h0, .inr (1, fs))] []) (va_Qq (fun (r : Option Nat) (u : Nat × ClassId) => r = some u.1) (zB dC dI (fun u => [(u.2, .object "java/lang/Object")]) (fun u : Nat × ClassId => [(h0, .inr (1, fs.set 1 (.ref u.1))), (u.1, .inl (u.2, 10, (.inr (.inr (.inr (.inr (fun _ => none)))))))]) (va_A [(h0, .inr (1, fs))] sz)) (va_A [(h0, .inr (1, fs))] sz)) 1 10 (va_A [(h0, .inr (1, fs))] sz) := by
  refine Met.ofW (cc := cJx4a65c_grow_92f84) (maxL := 4) (ret := (some (.array (.object "java/lang/Object")))) (by decide) rfl ?_
  intro p e s m args below meth c s₁ B hml hv
  obtain ⟨⟨rfl, hsz, hP, hK, hD0, hz0, hES⟩, hL⟩ := hv
  have hE := hES.1
  have hSt := hES.2
  have hx := B.exec
  have hb := B.bytes
  have hr := B.returns
  have hts := atoms_spec (ws := wG_Jx4a65c_grow_92f84) B.pre
  have hown : s.vm.findClass RJx4a65c = some m.cls := findClass_of_methodNamed B.named
  have hlocks := B.notSynchronized
  subst hsz
  have hD := hD0.self (sz := s.heap.size)
  generalize hAe : va_A [(h0, .inr (1, fs))] s.heap.size = A at hD ⊢
  have hA : ∀ q : Nat, s.heap.size ≤ q → A q := fun q h => by rw [← hAe]; exact Or.inr h
  have hA0 : ∀ q : Nat, A q → sz0 ≤ q := fun q h => by rw [← hAe] at h; exact zA_ge hD0 hz0 h
  have hS : va_S A s.heap s.heap [] := va_S.rf
  have hP : va_P (dC, dI) vwCl [(h0, .inr (1, fs))] s.heap := hP
  have hl := lv_entry ([.ref h0, .int 1]) (n := 4) (Nat.le_of_ble_eq_true rfl)
  rw [lg_entry_eq]
  generalize (lg_sl ([.ref h0, .int 1]) ++ List.replicate (4 - (lg_sl ([.ref h0, .int 1])).length) Slot.unset).toArray = ls at hl ⊢
  have hl : lv_has ls 4 [(0, .ref h0), (1, .int 1)] := hl
  refine lv_aload_n hx hb dJx4a65c_grow_92f84_0 rfl (lv_at hl 0 rfl) ?_
  refine va_get (D := (dC, dI)) (ci := 1) (v := .ref e0) (C := RJx4a65c) (T := TJx4a65c) (N := 3) hx hb hts iwG_Jx4a65c hown hK hP 0 rfl rfl 1 (by decide) (hts (.fieldLink RJx4a65c 9 "java/util/ArrayList" "elementData" "[Ljava/lang/Object;") (by decide +kernel)) (fun _ h9 => h9) hf dJx4a65c_grow_92f84_1 ?_
  refine va_tlen (v := 0) hx hb (hL.1.narrow hA0) hS (by decide) dJx4a65c_grow_92f84_4 ?_
  refine lv_istore_n (lv' := [(2, .int 0), (0, .ref h0), (1, .int 1)]) hx hb dJx4a65c_grow_92f84_5 rfl hl (by decide) rfl (fun ls hl => ?_)
  refine lv_iload_n hx hb dJx4a65c_grow_92f84_6 rfl (lv_at hl 0 rfl) ?_
  refine lv_if_gt (tgt := 20) hx hb dJx4a65c_grow_92f84_7 (by decide) (fun c_1 => absurd c_1 (by decide)) (fun c_1 => ?_)
  refine lv_aload_n hx hb dJx4a65c_grow_92f84_10 rfl (lv_at hl 1 rfl) ?_
  refine va_get (D := (dC, dI)) (ci := 1) (v := .ref e0) (C := RJx4a65c) (T := TJx4a65c) (N := 3) hx hb hts iwG_Jx4a65c hown hK hP 0 rfl rfl 1 (by decide) (hts (.fieldLink RJx4a65c 9 "java/util/ArrayList" "elementData" "[Ljava/lang/Object;") (by decide +kernel)) (fun _ h9 => h9) hf dJx4a65c_grow_92f84_11 ?_
  refine va_gets (v := .ref e0) hx hb (hE.2.narrow hA0) hS hown (hts (.fieldLink RJx4a65c 39 "java/util/ArrayList" "DEFAULTCAPACITY_EMPTY_ELEMENTDATA" "[Ljava/lang/Object;") (by decide +kernel)) (fun _ h9 => h9) dJx4a65c_grow_92f84_14 ?_
  refine lv_acmp_eq (rx := some e0) (ry := some e0) (tgt := 45) hx hb dJx4a65c_grow_92f84_17 (by decide) (fun _ => ?_) (fun cq => absurd rfl cq)
  refine lv_aload_n hx hb dJx4a65c_grow_92f84_45 rfl (lv_at hl 1 rfl) ?_
  refine lv_bipush (v := 10) hx hb dJx4a65c_grow_92f84_46 (by decide) ?_
  refine lv_iload_n hx hb dJx4a65c_grow_92f84_48 rfl (lv_at hl 2 rfl) ?_
  refine va_mmax hx hb (hml.trans hl.1.symm) hown (hts (.methodLink RJx4a65c 79 Lib.Math.max.name) (by decide +kernel)) (hts (.static Lib.Math.max.name) (by decide +kernel)) (hts (.initialized "java/lang/Math") (by decide +kernel)) (hts (.code Lib.Math.max.name Lib.Math.max.code 2 (some .int)) (by decide +kernel)) (Nat.le_of_ble_eq_true rfl) (Nat.le_of_ble_eq_true rfl) (Nat.le_of_ble_eq_true rfl) (Nat.le_of_ble_eq_true rfl) dJx4a65c_grow_92f84_49 ?_
  refine lv_topi (fun zm ezm => ?_)
  have fzm : zm = 10 := ezm.trans (by decide)
  clear ezm
  subst fzm
  refine va_newq (C := "java/lang/Object") (N' := 10) hx hb hown (hts (.classLink RJx4a65c 7 "java/lang/Object") (by decide +kernel)) (zEv.ao_O hE.1) hK hP hD hS hA (by decide) (by decide) (Nat.le_of_ble_eq_true rfl) (Nat.le_of_ble_eq_true rfl) (Nat.le_of_ble_eq_true rfl) dJx4a65c_grow_92f84_52 (fun q_1 cA_2 H hK hP hD hS => ?_)
  have hP : va_P (dC, dI) vwCl [(h0, .inr (1, fs)), (q_1, .inl (cA_2, 10, .inr (.inr (.inr (.inr (fun _ => none))))))] H := hP
  have hD : va_D A [(h0, .inr (1, fs)), (q_1, .inl (cA_2, 10, .inr (.inr (.inr (.inr (fun _ => none))))))] := hD
  have hK : va_K (dC, dI) vwCl [(cA_2, .object "java/lang/Object")] s := hK
  refine W.widen (k := 1) (n := 10) (Nat.le_of_ble_eq_true rfl) (Nat.le_of_ble_eq_true rfl) ?_
  refine lv_dup_x1 hx hb dJx4a65c_grow_92f84_55 rfl rfl ?_
  refine va_put (D := (dC, dI)) (ci := 1) (v := .ref q_1) (ty := .array (.object "java/lang/Object")) (C := RJx4a65c) (T := TJx4a65c) (N := 3) hx hb hts iwG_Jx4a65c tyJx4a65c tyJx4a65c_ok nmJx4a65c hown hK hP hD hS 0 rfl rfl 1 (by decide) (hts (.fieldLink RJx4a65c 9 "java/util/ArrayList" "elementData" "[Ljava/lang/Object;") (by decide +kernel)) (fun _ h9 => h9) rfl (by decide +kernel) rfl rfl (zs_lt hfl (by decide)) dJx4a65c_grow_92f84_56 (fun H locs hP hD hS => ?_)
  have hP : va_P (dC, dI) vwCl [(h0, .inr (1, (fs.set 1 (.ref q_1)))), (q_1, .inl (cA_2, 10, .inr (.inr (.inr (.inr (fun _ => none))))))] H := hP
  have hD : va_D A [(h0, .inr (1, (fs.set 1 (.ref q_1)))), (q_1, .inl (cA_2, 10, .inr (.inr (.inr (.inr (fun _ => none))))))] := hD
  have hP9 := hP.sub (ws' := [(h0, .inr (1, (fs.set 1 (.ref q_1)))), (q_1, .inl (cA_2, 10, .inr (.inr (.inr (.inr (fun _ => none))))))]) [0, 1] rfl
  have hD9 := hD.sub (ws' := [(h0, .inr (1, (fs.set 1 (.ref q_1)))), (q_1, .inl (cA_2, 10, .inr (.inr (.inr (.inr (fun _ => none))))))]) [0, 1] (by decide) rfl
  have hK9 := hK.sub (tys' := [(cA_2, .object "java/lang/Object")]) [0] rfl
  exact W.aret (v := .ref q_1) hx hb hr (Or.inr ⟨_, rfl⟩) (Or.inr ⟨_, rfl⟩) (fun t ht hW => ⟨⟨some q_1, (q_1, cA_2), rfl, rfl, (zB_mk (by rw [ht]; exact hP9) (va_K.moved hW.alike hK9) hD9)⟩, hS.F ht⟩) hS.2.2 dJx4a65c_grow_92f84_59
set_option maxHeartbeats 4000000 in
set_option maxRecDepth 100000 in
/-- grow() of an empty list -/
theorem c_List_grow0 (l : Launch) (dC : Nat → ClassId) (dI : Nat → Nat → Nat) (sz : Nat) (sz0 e0 k0 v0 : Nat) (h0 : Nat) (fs : List Value) (hfl : fs.length = 3) (hf : fs[1]? = some (.ref e0)) (hs0 : fs[2]? = some (.int 0)) : Met l yJx4a65c_grow_d5877 wG_Jx4a65c_grow_d5877 ({ frames := 2, cells := 1, slots := 10, locals := 43 }) (zPl dC dI sz0 e0 k0 v0 sz [.ref h0] [(h0, .inr (1, fs))] []) (va_Qq (fun (r : Option Nat) (u : Nat × ClassId) => r = some u.1) (zB dC dI (fun u => [(u.2, .object "java/lang/Object")]) (fun u : Nat × ClassId => [(h0, .inr (1, fs.set 1 (.ref u.1))), (u.1, .inl (u.2, 10, (.inr (.inr (.inr (.inr (fun _ => none)))))))]) (va_A [(h0, .inr (1, fs))] sz)) (va_A [(h0, .inr (1, fs))] sz)) 1 10 (va_A [(h0, .inr (1, fs))] sz) := by
  refine Met.ofW (cc := cJx4a65c_grow_d5877) (maxL := 1) (ret := (some (.array (.object "java/lang/Object")))) (by decide) rfl ?_
  intro p e s m args below meth c s₁ B hml hv
  obtain ⟨⟨rfl, hsz, hP, hK, hD0, hz0, hES⟩, hL⟩ := hv
  have hE := hES.1
  have hSt := hES.2
  have hx := B.exec
  have hb := B.bytes
  have hr := B.returns
  have hts := atoms_spec (ws := wG_Jx4a65c_grow_d5877) B.pre
  have hown : s.vm.findClass RJx4a65c = some m.cls := findClass_of_methodNamed B.named
  have hlocks := B.notSynchronized
  subst hsz
  have hD := hD0.self (sz := s.heap.size)
  generalize hAe : va_A [(h0, .inr (1, fs))] s.heap.size = A at hD ⊢
  have hA : ∀ q : Nat, s.heap.size ≤ q → A q := fun q h => by rw [← hAe]; exact Or.inr h
  have hA0 : ∀ q : Nat, A q → sz0 ≤ q := fun q h => by rw [← hAe] at h; exact zA_ge hD0 hz0 h
  have hS : va_S A s.heap s.heap [] := va_S.rf
  have hP : va_P (dC, dI) vwCl [(h0, .inr (1, fs))] s.heap := hP
  have hl := lv_entry ([.ref h0]) (n := 1) (Nat.le_of_ble_eq_true rfl)
  rw [lg_entry_eq]
  generalize (lg_sl ([.ref h0]) ++ List.replicate (1 - (lg_sl ([.ref h0])).length) Slot.unset).toArray = ls at hl ⊢
  have hl : lv_has ls 1 [(0, .ref h0)] := hl
  refine lv_aload_n hx hb dJx4a65c_grow_d5877_0 rfl (lv_at hl 0 rfl) ?_
  refine lv_aload_n hx hb dJx4a65c_grow_d5877_1 rfl (lv_at hl 0 rfl) ?_
  refine va_get (D := (dC, dI)) (ci := 1) (v := .int 0) (C := RJx4a65c) (T := TJx4a65c) (N := 3) hx hb hts iwG_Jx4a65c hown hK hP 0 rfl rfl 2 (by decide) (hts (.fieldLink RJx4a65c 48 "java/util/ArrayList" "size" "I") (by decide +kernel)) (fun _ h9 => h9) hs0 dJx4a65c_grow_d5877_2 ?_
  refine lv_iconst (v := 1) hx hb dJx4a65c_grow_d5877_5 (by decide) ?_
  refine lv_iadd hx hb dJx4a65c_grow_d5877_6 ?_
  refine lv_topi (fun z_1 ez_1 => ?_)
  have fz_1 : z_1 = 1 := ez_1.trans (by decide)
  clear ez_1
  subst fz_1
  have hPc := hP.sub (ws' := [(h0, .inr (1, fs))]) [0] rfl
  have hDc := hD.sub (ws' := [(h0, .inr (1, fs))]) [0] (by decide) rfl
  have hKc := hK.sub (tys' := []) [] rfl
  have hFc := va_free (wc := [(h0, .inr (1, fs))]) hD hS hA [0] rfl
  refine va_callq (va_runV (As := [.int 1]) (rest := []) ⟨hx, hb, hml, hown, hts⟩ (c_List_grow1 l dC dI s.heap.size sz0 e0 k0 v0 h0 fs hfl hf) (cwV 1 hts (gi_tail gG_Jx4a65c_69_Jx4a65c_grow_92f84) rfl rfl rfl (by decide +kernel) ⟨Nat.le_of_ble_eq_true rfl, Nat.le_of_ble_eq_true rfl⟩) ⟨zPl_blind, va_recv hKc hPc (ci := 1) (q0 := 0) rfl rfl, fun U hU hW => zPl_at hPc hKc hDc hS hA0 hz0 hES hL hU hW⟩ rfl rfl hl.1 rfl (lv_room (Nat.le_of_ble_eq_true rfl)) dJx4a65c_grow_d5877_7 ⟨Nat.le_of_ble_eq_true rfl, Nat.le_of_ble_eq_true rfl⟩) hS (fun q _ h => hFc q h) hFc (fun rq u t H1 locs ht hvm hw hB hz1 hk1 hS => ?_)
  obtain ⟨qg, cg⟩ := u
  obtain ⟨hP1, hK1, hD1⟩ := hB
  subst hw
  rw [ht] at hP1
  have hK1 := va_K.moved hvm.symm hK1
  obtain ⟨hP, hD⟩ := va_join (wr := []) (w1 := [(h0, .inr (1, (fs.set 1 (.ref qg)))), (qg, .inl (cg, 10, .inr (.inr (.inr (.inr (fun _ => none))))))]) hP hD [0] [] rfl rfl (by decide) (by decide) hk1 hFc hP1 hD1
  have hK := (hK.sub (tys' := []) [] rfl).app hK1
  generalize H1 = H at hP hS ⊢
  have hP : va_P (dC, dI) vwCl [(h0, .inr (1, (fs.set 1 (.ref qg)))), (qg, .inl (cg, 10, .inr (.inr (.inr (.inr (fun _ => none))))))] H := hP
  have hD : va_D A [(h0, .inr (1, (fs.set 1 (.ref qg)))), (qg, .inl (cg, 10, .inr (.inr (.inr (.inr (fun _ => none))))))] := hD
  have hK : va_K (dC, dI) vwCl [(cg, .object "java/lang/Object")] s := hK
  refine W.widen (k := 1) (n := 10) (Nat.le_of_ble_eq_true rfl) (Nat.le_of_ble_eq_true rfl) ?_
  refine W.eq (g2 := F0 m 10 ls [.ref qg]) rfl ?_
  have hP9 := hP.sub (ws' := [(h0, .inr (1, (fs.set 1 (.ref qg)))), (qg, .inl (cg, 10, .inr (.inr (.inr (.inr (fun _ => none))))))]) [0, 1] rfl
  have hD9 := hD.sub (ws' := [(h0, .inr (1, (fs.set 1 (.ref qg)))), (qg, .inl (cg, 10, .inr (.inr (.inr (.inr (fun _ => none))))))]) [0, 1] (by decide) rfl
  have hK9 := hK.sub (tys' := [(cg, .object "java/lang/Object")]) [0] rfl
  exact W.aret (v := .ref qg) hx hb hr (Or.inr ⟨_, rfl⟩) (Or.inr ⟨_, rfl⟩) (fun t ht hW => ⟨⟨some qg, (qg, cg), rfl, rfl, (zB_mk (by rw [ht]; exact hP9) (va_K.moved hW.alike hK9) hD9)⟩, hS.F ht⟩) hS.2.2 dJx4a65c_grow_d5877_10
set_option maxHeartbeats 4000000 in
set_option maxRecDepth 100000 in
/-- add of the first Node -/
theorem c_List_add0 (l : Launch) (dC : Nat → ClassId) (dI : Nat → Nat → Nat) (sz : Nat) (sz0 e0 k0 v0 : Nat) (h0 el : Nat) (fs es : List Value) (hfl : fs.length = 3) (hf : fs[1]? = some (.ref e0)) (hs0 : fs[2]? = some (.int 0)) : Met l yJx4a65c_add_72be8 wG_Jx4a65c_add_72be8 ({ frames := 3, cells := 1, slots := 10, locals := 63 }) (zPl dC dI sz0 e0 k0 v0 sz [.ref h0, .ref el, .ref e0, .int 0] [(h0, .inr (1, fs)), (el, .inr (7, es))] []) (va_Qv (fun _ : Nat × ClassId => True) (zB dC dI (fun u => [(u.2, .object "java/lang/Object")]) (fun u : Nat × ClassId => [(h0, .inr (1, (fs.set 1 (.ref u.1)).set 2 (.int 1))), (el, .inr (7, es)), (u.1, .inl (u.2, 10, (.inr (.inr (.inr (.inr (va_up (fun _ => none) 0 (some el))))))))]) (va_A [(h0, .inr (1, fs)), (el, .inr (7, es))] sz)) (va_A [(h0, .inr (1, fs)), (el, .inr (7, es))] sz)) 1 10 (va_A [(h0, .inr (1, fs)), (el, .inr (7, es))] sz) := by
  refine Met.ofW (cc := cJx4a65c_add_72be8) (maxL := 4) (ret := none) (by decide) rfl ?_
  intro p e s m args below meth c s₁ B hml hv
  obtain ⟨⟨rfl, hsz, hP, hK, hD0, hz0, hES⟩, hL⟩ := hv
  have hE := hES.1
  have hSt := hES.2
  have hx := B.exec
  have hb := B.bytes
  have hr := B.returns
  have hts := atoms_spec (ws := wG_Jx4a65c_add_72be8) B.pre
  have hown : s.vm.findClass RJx4a65c = some m.cls := findClass_of_methodNamed B.named
  have hlocks := B.notSynchronized
  subst hsz
  have hD := hD0.self (sz := s.heap.size)
  generalize hAe : va_A [(h0, .inr (1, fs)), (el, .inr (7, es))] s.heap.size = A at hD ⊢
  have hA : ∀ q : Nat, s.heap.size ≤ q → A q := fun q h => by rw [← hAe]; exact Or.inr h
  have hA0 : ∀ q : Nat, A q → sz0 ≤ q := fun q h => by rw [← hAe] at h; exact zA_ge hD0 hz0 h
  have hS : va_S A s.heap s.heap [] := va_S.rf
  have hP : va_P (dC, dI) vwCl [(h0, .inr (1, fs)), (el, .inr (7, es))] s.heap := hP
  have hl := lv_entry ([.ref h0, .ref el, .ref e0, .int 0]) (n := 4) (Nat.le_of_ble_eq_true rfl)
  rw [lg_entry_eq]
  generalize (lg_sl ([.ref h0, .ref el, .ref e0, .int 0]) ++ List.replicate (4 - (lg_sl ([.ref h0, .ref el, .ref e0, .int 0])).length) Slot.unset).toArray = ls at hl ⊢
  have hl : lv_has ls 4 [(0, .ref h0), (1, .ref el), (2, .ref e0), (3, .int 0)] := hl
  refine lv_iload_n hx hb dJx4a65c_add_72be8_0 rfl (lv_at hl 3 rfl) ?_
  refine lv_aload_n hx hb dJx4a65c_add_72be8_1 rfl (lv_at hl 2 rfl) ?_
  refine va_tlen (v := 0) hx hb (hL.1.narrow hA0) hS (by decide) dJx4a65c_add_72be8_2 ?_
  refine lv_icmp_ne (tgt := 11) hx hb dJx4a65c_add_72be8_3 (by decide) (fun c_1 => absurd c_1 (by decide)) (fun c_1 => ?_)
  refine lv_aload_n hx hb dJx4a65c_add_72be8_6 rfl (lv_at hl 0 rfl) ?_
  have hPc := hP.sub (ws' := [(h0, .inr (1, fs))]) [0] rfl
  have hDc := hD.sub (ws' := [(h0, .inr (1, fs))]) [0] (by decide) rfl
  have hKc := hK.sub (tys' := []) [] rfl
  have hFc := va_free (wc := [(h0, .inr (1, fs))]) hD hS hA [0] rfl
  refine va_callq (va_runV (As := []) (rest := []) ⟨hx, hb, hml, hown, hts⟩ (c_List_grow0 l dC dI s.heap.size sz0 e0 k0 v0 h0 fs hfl hf hs0) (cwV 0 hts (gi_tail gG_Jx4a65c_129_Jx4a65c_grow_d5877) rfl rfl rfl (by decide +kernel) ⟨Nat.le_of_ble_eq_true rfl, Nat.le_of_ble_eq_true rfl⟩) ⟨zPl_blind, va_recv hKc hPc (ci := 1) (q0 := 0) rfl rfl, fun U hU hW => zPl_at hPc hKc hDc hS hA0 hz0 hES hL hU hW⟩ rfl rfl hl.1 rfl (lv_room (Nat.le_of_ble_eq_true rfl)) dJx4a65c_add_72be8_7 ⟨Nat.le_of_ble_eq_true rfl, Nat.le_of_ble_eq_true rfl⟩) hS (fun q _ h => hFc q h) hFc (fun rq u t H1 locs ht hvm hw hB hz1 hk1 hS => ?_)
  obtain ⟨qg, cg⟩ := u
  obtain ⟨hP1, hK1, hD1⟩ := hB
  subst hw
  rw [ht] at hP1
  have hK1 := va_K.moved hvm.symm hK1
  obtain ⟨hP, hD⟩ := va_join (wr := [(el, .inr (7, es))]) (w1 := [(h0, .inr (1, (fs.set 1 (.ref qg)))), (qg, .inl (cg, 10, .inr (.inr (.inr (.inr (fun _ => none))))))]) hP hD [0] [1] rfl rfl (by decide) (by decide) hk1 hFc hP1 hD1
  have hK := (hK.sub (tys' := []) [] rfl).app hK1
  generalize H1 = H at hP hS ⊢
  have hP : va_P (dC, dI) vwCl [(el, .inr (7, es)), (h0, .inr (1, (fs.set 1 (.ref qg)))), (qg, .inl (cg, 10, .inr (.inr (.inr (.inr (fun _ => none))))))] H := hP
  have hD : va_D A [(el, .inr (7, es)), (h0, .inr (1, (fs.set 1 (.ref qg)))), (qg, .inl (cg, 10, .inr (.inr (.inr (.inr (fun _ => none))))))] := hD
  have hK : va_K (dC, dI) vwCl [(cg, .object "java/lang/Object")] s := hK
  refine W.widen (k := 1) (n := 10) (Nat.le_of_ble_eq_true rfl) (Nat.le_of_ble_eq_true rfl) ?_
  refine W.eq (g2 := F0 m 10 ls [.ref qg]) rfl ?_
  refine lv_astore_n (lv' := [(2, .ref qg), (0, .ref h0), (1, .ref el), (3, .int 0)]) hx hb dJx4a65c_add_72be8_10 rfl hl (by decide) rfl (fun ls hl => ?_)
  refine lv_aload_n hx hb dJx4a65c_add_72be8_11 rfl (lv_at hl 0 rfl) ?_
  refine lv_iload_n hx hb dJx4a65c_add_72be8_12 rfl (lv_at hl 3 rfl) ?_
  refine lv_aload_n hx hb dJx4a65c_add_72be8_13 rfl (lv_at hl 2 rfl) ?_
  refine va_astqO (E := "java/lang/Object") hx hb hK hP hD hS 2 0 0 7 rfl rfl hL.2 rfl rfl (show ¬ ((0 : Int32) < 0 ∨ 10 ≤ (0 : Int32).toNatClampNeg) from by decide) dJx4a65c_add_72be8_14 (fun H locs hP hD hS => ?_)
  rw [show ((0 : Int32)).toNatClampNeg = 0 from by decide] at hP hD
  have hP : va_P (dC, dI) vwCl [(el, .inr (7, es)), (h0, .inr (1, (fs.set 1 (.ref qg)))), (qg, .inl (cg, 10, .inr (.inr (.inr (.inr (va_up (fun _ => none) 0 (some el)))))))] H := hP
  have hD : va_D A [(el, .inr (7, es)), (h0, .inr (1, (fs.set 1 (.ref qg)))), (qg, .inl (cg, 10, .inr (.inr (.inr (.inr (va_up (fun _ => none) 0 (some el)))))))] := hD
  refine lv_aload_n hx hb dJx4a65c_add_72be8_15 rfl (lv_at hl 1 rfl) ?_
  refine lv_iload_n hx hb dJx4a65c_add_72be8_16 rfl (lv_at hl 3 rfl) ?_
  refine lv_iconst (v := 1) hx hb dJx4a65c_add_72be8_17 (by decide) ?_
  refine lv_iadd hx hb dJx4a65c_add_72be8_18 ?_
  refine lv_topi (fun z_1 ez_1 => ?_)
  have fz_1 : z_1 = 1 := ez_1.trans (by decide)
  clear ez_1
  subst fz_1
  refine va_put (D := (dC, dI)) (ci := 1) (v := .int 1) (ty := .int) (C := RJx4a65c) (T := TJx4a65c) (N := 3) hx hb hts iwG_Jx4a65c tyJx4a65c tyJx4a65c_ok nmJx4a65c hown hK hP hD hS 1 rfl rfl 2 (by decide) (hts (.fieldLink RJx4a65c 48 "java/util/ArrayList" "size" "I") (by decide +kernel)) (fun _ h9 => h9) rfl (by decide +kernel) rfl rfl (zs_lt (zs_len hfl) (by decide)) dJx4a65c_add_72be8_19 (fun H locs hP hD hS => ?_)
  have hP : va_P (dC, dI) vwCl [(el, .inr (7, es)), (h0, .inr (1, ((fs.set 1 (.ref qg)).set 2 (.int 1)))), (qg, .inl (cg, 10, .inr (.inr (.inr (.inr (va_up (fun _ => none) 0 (some el)))))))] H := hP
  have hD : va_D A [(el, .inr (7, es)), (h0, .inr (1, ((fs.set 1 (.ref qg)).set 2 (.int 1)))), (qg, .inl (cg, 10, .inr (.inr (.inr (.inr (va_up (fun _ => none) 0 (some el)))))))] := hD
  have hP9 := hP.sub (ws' := [(h0, .inr (1, ((fs.set 1 (.ref qg)).set 2 (.int 1)))), (el, .inr (7, es)), (qg, .inl (cg, 10, .inr (.inr (.inr (.inr (va_up (fun _ => none) 0 (some el)))))))]) [1, 0, 2] rfl
  have hD9 := hD.sub (ws' := [(h0, .inr (1, ((fs.set 1 (.ref qg)).set 2 (.int 1)))), (el, .inr (7, es)), (qg, .inl (cg, 10, .inr (.inr (.inr (.inr (va_up (fun _ => none) 0 (some el)))))))]) [1, 0, 2] (by decide) rfl
  have hK9 := hK.sub (tys' := [(cg, .object "java/lang/Object")]) [0] rfl
  refine W.widen (k := 1) (n := 10) (Nat.le_of_ble_eq_true rfl) (Nat.le_of_ble_eq_true rfl) ?_
  exact W.vret hx hb hr (fun t ht hW => ⟨⟨(qg, cg), rfl, trivial, (zB_mk (by rw [ht]; exact hP9) (va_K.moved hW.alike hK9) hD9)⟩, hS.F ht⟩) hS.2.2 dJx4a65c_add_72be8_22
set_option maxHeartbeats 4000000 in
set_option maxRecDepth 100000 in
/-- add of the first Node -/
theorem c_List_add (l : Launch) (dC : Nat → ClassId) (dI : Nat → Nat → Nat) (sz : Nat) (sz0 e0 k0 v0 : Nat) (h0 el : Nat) (fs es : List Value) (mc0 : Int32) (hfl : fs.length = 3) (hf0 : fs[0]? = some (.int mc0)) (hf : fs[1]? = some (.ref e0)) (hs0 : fs[2]? = some (.int 0)) : Met l yJx4a65c_add_9ea2d wG_Jx4a65c_add_9ea2d ({ frames := 4, cells := 1, slots := 10, locals := 86 }) (zPl dC dI sz0 e0 k0 v0 sz [.ref h0, .ref el] [(h0, .inr (1, fs)), (el, .inr (7, es))] []) (va_Qi (fun (r : Int32) (_ : Nat × ClassId) => r = 1) (zB dC dI (fun u => [(u.2, .object "java/lang/Object")]) (fun u : Nat × ClassId => [(h0, .inr (1, ((fs.set 0 (.int (mc0 + 1))).set 1 (.ref u.1)).set 2 (.int 1))), (el, .inr (7, es)), (u.1, .inl (u.2, 10, (.inr (.inr (.inr (.inr (va_up (fun _ => none) 0 (some el))))))))]) (va_A [(h0, .inr (1, fs)), (el, .inr (7, es))] sz)) (va_A [(h0, .inr (1, fs)), (el, .inr (7, es))] sz)) 1 10 (va_A [(h0, .inr (1, fs)), (el, .inr (7, es))] sz) := by
  refine Met.ofW (cc := cJx4a65c_add_9ea2d) (maxL := 2) (ret := (some .boolean)) (by decide) rfl ?_
  intro p e s m args below meth c s₁ B hml hv
  obtain ⟨⟨rfl, hsz, hP, hK, hD0, hz0, hES⟩, hL⟩ := hv
  have hE := hES.1
  have hSt := hES.2
  have hx := B.exec
  have hb := B.bytes
  have hr := B.returns
  have hts := atoms_spec (ws := wG_Jx4a65c_add_9ea2d) B.pre
  have hown : s.vm.findClass RJx4a65c = some m.cls := findClass_of_methodNamed B.named
  have hlocks := B.notSynchronized
  subst hsz
  have hD := hD0.self (sz := s.heap.size)
  generalize hAe : va_A [(h0, .inr (1, fs)), (el, .inr (7, es))] s.heap.size = A at hD ⊢
  have hA : ∀ q : Nat, s.heap.size ≤ q → A q := fun q h => by rw [← hAe]; exact Or.inr h
  have hA0 : ∀ q : Nat, A q → sz0 ≤ q := fun q h => by rw [← hAe] at h; exact zA_ge hD0 hz0 h
  have hS : va_S A s.heap s.heap [] := va_S.rf
  have hP : va_P (dC, dI) vwCl [(h0, .inr (1, fs)), (el, .inr (7, es))] s.heap := hP
  have hl := lv_entry ([.ref h0, .ref el]) (n := 2) (Nat.le_of_ble_eq_true rfl)
  rw [lg_entry_eq]
  generalize (lg_sl ([.ref h0, .ref el]) ++ List.replicate (2 - (lg_sl ([.ref h0, .ref el])).length) Slot.unset).toArray = ls at hl ⊢
  have hl : lv_has ls 2 [(0, .ref h0), (1, .ref el)] := hl
  refine lv_aload_n hx hb dJx4a65c_add_9ea2d_0 rfl (lv_at hl 0 rfl) ?_
  refine lv_dup hx hb dJx4a65c_add_9ea2d_1 rfl ?_
  refine va_get (D := (dC, dI)) (ci := 1) (v := .int mc0) (C := RJx4a65c) (T := TJx4a65c) (N := 3) hx hb hts iwG_Jx4a65c hown hK hP 0 rfl rfl 0 (by decide) (hts (.fieldLink RJx4a65c 63 "java/util/ArrayList" "modCount" "I") (by decide +kernel)) (fun x h9 => u_same (hts (.sameField "java/util/ArrayList" "java/util/AbstractList" "modCount" "I") (by decide +kernel)) x h9) hf0 dJx4a65c_add_9ea2d_2 ?_
  refine lv_iconst (v := 1) hx hb dJx4a65c_add_9ea2d_5 (by decide) ?_
  refine lv_iadd hx hb dJx4a65c_add_9ea2d_6 ?_
  refine va_put (D := (dC, dI)) (ci := 1) (v := .int (mc0 + 1)) (ty := .int) (C := RJx4a65c) (T := TJx4a65c) (N := 3) hx hb hts iwG_Jx4a65c tyJx4a65c tyJx4a65c_ok nmJx4a65c hown hK hP hD hS 0 rfl rfl 0 (by decide) (hts (.fieldLink RJx4a65c 63 "java/util/ArrayList" "modCount" "I") (by decide +kernel)) (fun x h9 => u_same (hts (.sameField "java/util/ArrayList" "java/util/AbstractList" "modCount" "I") (by decide +kernel)) x h9) rfl (by decide +kernel) rfl rfl (zs_lt hfl (by decide)) dJx4a65c_add_9ea2d_7 (fun H locs hP hD hS => ?_)
  have hP : va_P (dC, dI) vwCl [(h0, .inr (1, (fs.set 0 (.int (mc0 + 1))))), (el, .inr (7, es))] H := hP
  have hD : va_D A [(h0, .inr (1, (fs.set 0 (.int (mc0 + 1))))), (el, .inr (7, es))] := hD
  refine lv_aload_n hx hb dJx4a65c_add_9ea2d_10 rfl (lv_at hl 0 rfl) ?_
  refine lv_aload_n hx hb dJx4a65c_add_9ea2d_11 rfl (lv_at hl 1 rfl) ?_
  refine lv_aload_n hx hb dJx4a65c_add_9ea2d_12 rfl (lv_at hl 0 rfl) ?_
  refine va_get (D := (dC, dI)) (ci := 1) (v := .ref e0) (C := RJx4a65c) (T := TJx4a65c) (N := 3) hx hb hts iwG_Jx4a65c hown hK hP 0 rfl rfl 1 (by decide) (hts (.fieldLink RJx4a65c 9 "java/util/ArrayList" "elementData" "[Ljava/lang/Object;") (by decide +kernel)) (fun _ h9 => h9) (zs_ne (by decide) hf) dJx4a65c_add_9ea2d_13 ?_
  refine lv_aload_n hx hb dJx4a65c_add_9ea2d_16 rfl (lv_at hl 0 rfl) ?_
  refine va_get (D := (dC, dI)) (ci := 1) (v := .int 0) (C := RJx4a65c) (T := TJx4a65c) (N := 3) hx hb hts iwG_Jx4a65c hown hK hP 0 rfl rfl 2 (by decide) (hts (.fieldLink RJx4a65c 48 "java/util/ArrayList" "size" "I") (by decide +kernel)) (fun _ h9 => h9) (zs_ne (by decide) hs0) dJx4a65c_add_9ea2d_17 ?_
  have hPc := hP.sub (ws' := [(h0, .inr (1, (fs.set 0 (.int (mc0 + 1))))), (el, .inr (7, es))]) [0, 1] rfl
  have hDc := hD.sub (ws' := [(h0, .inr (1, (fs.set 0 (.int (mc0 + 1))))), (el, .inr (7, es))]) [0, 1] (by decide) rfl
  have hKc := hK.sub (tys' := []) [] rfl
  have hFc := va_free (wc := [(h0, .inr (1, (fs.set 0 (.int (mc0 + 1))))), (el, .inr (7, es))]) hD hS hA [0, 1] rfl
  refine va_callv (va_runV (As := [.ref el, .ref e0, .int 0]) (rest := []) ⟨hx, hb, hml, hown, hts⟩ (c_List_add0 l dC dI H.size sz0 e0 k0 v0 h0 el (fs.set 0 (.int (mc0 + 1))) es (zs_len hfl) (zs_ne (by decide) hf) (zs_ne (by decide) hs0)) (cwV 3 hts (gi_tail gG_Jx4a65c_131_Jx4a65c_add_72be8) rfl rfl rfl (by decide +kernel) ⟨Nat.le_of_ble_eq_true rfl, Nat.le_of_ble_eq_true rfl⟩) ⟨zPl_blind, va_recv hKc hPc (ci := 1) (q0 := 0) rfl rfl, fun U hU hW => zPl_at hPc hKc hDc hS hA0 hz0 hES hL hU hW⟩ rfl rfl hl.1 rfl (lv_room (Nat.le_of_ble_eq_true rfl)) dJx4a65c_add_9ea2d_20 ⟨Nat.le_of_ble_eq_true rfl, Nat.le_of_ble_eq_true rfl⟩) hS (fun q _ h => hFc q h) hFc (fun u t H1 locs ht hvm hw hB hz1 hk1 hS => ?_)
  obtain ⟨qg, cg⟩ := u
  obtain ⟨hP1, hK1, hD1⟩ := hB
  rw [ht] at hP1
  have hK1 := va_K.moved hvm.symm hK1
  obtain ⟨hP, hD⟩ := va_join (wr := []) (w1 := [(h0, .inr (1, (((fs.set 0 (.int (mc0 + 1))).set 1 (.ref qg)).set 2 (.int 1)))), (el, .inr (7, es)), (qg, .inl (cg, 10, .inr (.inr (.inr (.inr (va_up (fun _ => none) 0 (some el)))))))]) hP hD [0, 1] [] rfl rfl (by decide) (by decide) hk1 hFc hP1 hD1
  have hK := (hK.sub (tys' := []) [] rfl).app hK1
  generalize H1 = H at hP hS ⊢
  have hP : va_P (dC, dI) vwCl [(h0, .inr (1, (((fs.set 0 (.int (mc0 + 1))).set 1 (.ref qg)).set 2 (.int 1)))), (el, .inr (7, es)), (qg, .inl (cg, 10, .inr (.inr (.inr (.inr (va_up (fun _ => none) 0 (some el)))))))] H := hP
  have hD : va_D A [(h0, .inr (1, (((fs.set 0 (.int (mc0 + 1))).set 1 (.ref qg)).set 2 (.int 1)))), (el, .inr (7, es)), (qg, .inl (cg, 10, .inr (.inr (.inr (.inr (va_up (fun _ => none) 0 (some el)))))))] := hD
  have hK : va_K (dC, dI) vwCl [(cg, .object "java/lang/Object")] s := hK
  refine W.widen (k := 1) (n := 10) (Nat.le_of_ble_eq_true rfl) (Nat.le_of_ble_eq_true rfl) ?_
  refine lv_iconst (v := 1) hx hb dJx4a65c_add_9ea2d_23 (by decide) ?_
  have hP9 := hP.sub (ws' := [(h0, .inr (1, (((fs.set 0 (.int (mc0 + 1))).set 1 (.ref qg)).set 2 (.int 1)))), (el, .inr (7, es)), (qg, .inl (cg, 10, .inr (.inr (.inr (.inr (va_up (fun _ => none) 0 (some el)))))))]) [0, 1, 2] rfl
  have hD9 := hD.sub (ws' := [(h0, .inr (1, (((fs.set 0 (.int (mc0 + 1))).set 1 (.ref qg)).set 2 (.int 1)))), (el, .inr (7, es)), (qg, .inl (cg, 10, .inr (.inr (.inr (.inr (va_up (fun _ => none) 0 (some el)))))))]) [0, 1, 2] (by decide) rfl
  have hK9 := hK.sub (tys' := [(cg, .object "java/lang/Object")]) [0] rfl
  refine W.widen (k := 1) (n := 10) (Nat.le_of_ble_eq_true rfl) (Nat.le_of_ble_eq_true rfl) ?_
  exact W.zret (v := 1) hx hb hr (by first | rfl | decide) (fun t ht hW => ⟨⟨1, (qg, cg), rfl, rfl, (zB_mk (by rw [ht]; exact hP9) (va_K.moved hW.alike hK9) hD9)⟩, hS.F ht⟩) hS.2.2 dJx4a65c_add_9ea2d_24
