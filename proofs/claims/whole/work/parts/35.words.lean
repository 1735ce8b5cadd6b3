/-! the class on an empty text: Words, Parser, Sum as they are made -/
def wnC : List Cond := [.fieldLink RX11 15 "LiquidTongue$Words" "text" "Ljava/lang/String;", .fieldLink RX11 29 "LiquidTongue$Words" "places" "[I", .fieldLink RX11 50 "LiquidTongue$Words" "count" "I", .fieldLink RX11 32 "LiquidTongue$Words" "ends" "[I", .methodLink RX11 3 objectInit, .instanceMethod objectInit, .code objectInit ⟨#[0xb1]⟩ 1 none, .fieldLink RX11 9 "LiquidTongue$Words" "bad" "I", .arrayClass .int, .fieldLink RX11 25 "LiquidTongue$Words" "kinds" "[I", .code yJ0_length_8abf5 cJ0_length_8abf5 1 (some .int), .methodLink RX11 19 yJ0_length_8abf5, .instanceMethod yJ0_length_8abf5, .selects RJ0 yJ0_length_8abf5 yJ0_length_8abf5, .initialized RJ0, .fieldLink RJ0 9 "java/lang/String" "value" "[B", .methodLink RJ0 335 yJ0_coder_7d493, .instanceMethod yJ0_coder_7d493, .selects RJ0 yJ0_coder_7d493 yJ0_coder_7d493, .code yJ0_coder_7d493 cJ0_coder_7d493 1 (some .byte), .fieldLink RJ0 38 "java/lang/String" "COMPACT_STRINGS" "Z", .fieldLink RJ0 15 "java/lang/String" "coder" "B", .code yX11_split cX11_split 4 none, .methodLink RX11 35 yX11_split, .instanceMethod yX11_split, .selects RX11 yX11_split yX11_split, .initialized RX11] ++ (wsX110 ++ wsJ00)
abbrev wC_X11_split : List Cond := .code yX11_split cX11_split 4 none :: wnC
abbrev wC_X11_init : List Cond := .code yX11_init cX11_init 2 none :: wnC
theorem iwC0_X11 : ∀ w ∈ wsX110, w ∈ wnC := fun w h => List.mem_append_right _ (List.mem_append_left _ h)
theorem iwC_X11 {q : Cond} : ∀ w ∈ wsX110, w ∈ q :: wnC := fun w h => List.mem_cons_of_mem _ (iwC0_X11 w h)
theorem igC_X11 : GoodIn wnC wsX110 := goodIn_sub iwC0_X11 (by decide +kernel)
theorem iwC0_J0 : ∀ w ∈ wsJ00, w ∈ wnC := fun w h => List.mem_append_right _ (List.mem_append_right _ h)
theorem iwC_J0 {q : Cond} : ∀ w ∈ wsJ00, w ∈ q :: wnC := fun w h => List.mem_cons_of_mem _ (iwC0_J0 w h)
theorem igC_J0 : GoodIn wnC wsJ00 := goodIn_sub iwC0_J0 (by decide +kernel)
theorem wnC_good : wnC.all goodWord = true := by decide +kernel
theorem gC_all : GoodIn wnC wnC := goodIn_sub (fun _ h => h) wnC_good
theorem gC_X11_19_J0_length_8abf5 : GoodIn wnC (wsV RX11 19 RJ0 yJ0_length_8abf5 wsJ0_length_8abf5) := goodIn_app (gi_cons (List.mem_append_left _ (List.mem_of_getElem? (i := 11) rfl)) rfl (gi_cons (List.mem_append_left _ (List.mem_of_getElem? (i := 12) rfl)) rfl (gi_cons (List.mem_append_left _ (List.mem_of_getElem? (i := 13) rfl)) rfl (gi_cons (List.mem_append_left _ (List.mem_of_getElem? (i := 14) rfl)) rfl gi_nil)))) (gi_cons (List.mem_append_left _ (List.mem_of_getElem? (i := 10) rfl)) rfl (goodIn_app (gi_cons (List.mem_append_left _ (List.mem_of_getElem? (i := 15) rfl)) rfl (gi_cons (List.mem_append_left _ (List.mem_of_getElem? (i := 16) rfl)) rfl (gi_cons (List.mem_append_left _ (List.mem_of_getElem? (i := 17) rfl)) rfl (gi_cons (List.mem_append_left _ (List.mem_of_getElem? (i := 18) rfl)) rfl (gi_cons (List.mem_append_left _ (List.mem_of_getElem? (i := 14) rfl)) rfl (gi_cons (List.mem_append_left _ (List.mem_of_getElem? (i := 19) rfl)) rfl (gi_cons (List.mem_append_left _ (List.mem_of_getElem? (i := 20) rfl)) rfl (gi_cons (List.mem_append_left _ (List.mem_of_getElem? (i := 21) rfl)) rfl gi_nil)))))))) igC_J0))
theorem gC_X11_35_X11_split : GoodIn wnC (wsV RX11 35 RX11 yX11_split wC_X11_split) := goodIn_app (gi_cons (List.mem_append_left _ (List.mem_of_getElem? (i := 23) rfl)) rfl (gi_cons (List.mem_append_left _ (List.mem_of_getElem? (i := 24) rfl)) rfl (gi_cons (List.mem_append_left _ (List.mem_of_getElem? (i := 25) rfl)) rfl (gi_cons (List.mem_append_left _ (List.mem_of_getElem? (i := 26) rfl)) rfl gi_nil)))) (gi_cons (List.mem_append_left _ (List.mem_of_getElem? (i := 22) rfl)) rfl gC_all)
set_option maxHeartbeats 4000000 in
set_option maxRecDepth 100000 in
/-- split() of no text -/
theorem c_X11_split_e (l : Launch) (dC : Nat → ClassId) (dI : Nat → Nat → Nat) (sz : Nat) (sz0 e0 k0 v0 : Nat) (h0 st qp qe : Nat) (cp ce : ClassId) (fs gs : List Value) (fp fe : Nat → Int32) (hfl : fs.length = 6) (hgl : gs.length = 4) (hft : fs[0]? = some (.ref st)) (hfp : fs[2]? = some (.ref qp)) (hfe : fs[3]? = some (.ref qe)) (hfc : fs[4]? = some (.int 0)) (hg0 : gs[0]? = some (.ref v0)) (hg1 : gs[1]? = some (.int 0)) : Met l yX11_split wC_X11_split ({ frames := 2, cells := 0, slots := 0, locals := 40 }) (zPs dC dI sz0 e0 k0 v0 sz [.ref h0] [(h0, .inr (13, fs)), (st, .inr (0, gs)), (qp, .inl (cp, 1, .inl fp)), (qe, .inl (ce, 1, .inl fe))] [(cp, .int), (ce, .int)]) (va_Qv (fun _ : Unit => True) (zB dC dI (fun _ => [(cp, .int), (ce, .int)]) (fun _ : Unit => [(h0, .inr (13, fs)), (st, .inr (0, gs)), (qp, .inl (cp, 1, .inl (upd fp 0 0))), (qe, .inl (ce, 1, .inl (upd fe 0 0)))]) (va_A [(h0, .inr (13, fs)), (st, .inr (0, gs)), (qp, .inl (cp, 1, .inl fp)), (qe, .inl (ce, 1, .inl fe))] sz)) (va_A [(h0, .inr (13, fs)), (st, .inr (0, gs)), (qp, .inl (cp, 1, .inl fp)), (qe, .inl (ce, 1, .inl fe))] sz)) 0 0 (va_A [(h0, .inr (13, fs)), (st, .inr (0, gs)), (qp, .inl (cp, 1, .inl fp)), (qe, .inl (ce, 1, .inl fe))] sz) := by
  refine Met.ofW (cc := cX11_split) (maxL := 4) (ret := none) (by decide) rfl ?_
  intro p e s m args below meth c s₁ B hml hv
  obtain ⟨rfl, hsz, hP, hK, hD0, hz0, hES⟩ := hv
  have hE := hES.1
  have hSt := hES.2
  have hx := B.exec
  have hb := B.bytes
  have hr := B.returns
  have hts := atoms_spec (ws := wC_X11_split) B.pre
  have hown : s.vm.findClass RX11 = some m.cls := findClass_of_methodNamed B.named
  have hlocks := B.notSynchronized
  subst hsz
  have hD := hD0.self (sz := s.heap.size)
  generalize hAe : va_A [(h0, .inr (13, fs)), (st, .inr (0, gs)), (qp, .inl (cp, 1, .inl fp)), (qe, .inl (ce, 1, .inl fe))] s.heap.size = A at hD ⊢
  have hA : ∀ q : Nat, s.heap.size ≤ q → A q := fun q h => by rw [← hAe]; exact Or.inr h
  have hA0 : ∀ q : Nat, A q → sz0 ≤ q := fun q h => by rw [← hAe] at h; exact zA_ge hD0 hz0 h
  have hS : va_S A s.heap s.heap [] := va_S.rf
  have hP : va_P (dC, dI) vwCl [(h0, .inr (13, fs)), (st, .inr (0, gs)), (qp, .inl (cp, 1, .inl fp)), (qe, .inl (ce, 1, .inl fe))] s.heap := hP
  have hl := lv_entry ([.ref h0]) (n := 4) (Nat.le_of_ble_eq_true rfl)
  rw [lg_entry_eq]
  generalize (lg_sl ([.ref h0]) ++ List.replicate (4 - (lg_sl ([.ref h0])).length) Slot.unset).toArray = ls at hl ⊢
  have hl : lv_has ls 4 [(0, .ref h0)] := hl
  refine lv_iconst (v := 0) hx hb dX11_split_0 (by decide) ?_
  refine lv_istore_n (lv' := [(1, .int 0), (0, .ref h0)]) hx hb dX11_split_1 rfl hl (by decide) rfl (fun ls hl => ?_)
  refine lv_iload_n hx hb dX11_split_2 rfl (lv_at hl 0 rfl) ?_
  refine lv_aload_n hx hb dX11_split_3 rfl (lv_at hl 1 rfl) ?_
  refine va_get (D := (dC, dI)) (ci := 13) (v := .ref st) (C := RX11) (T := TX11) (N := 6) hx hb hts iwC_X11 hown hK hP 0 rfl rfl 0 (by decide) (hts (.fieldLink RX11 15 "LiquidTongue$Words" "text" "Ljava/lang/String;") (by decide +kernel)) (fun _ h9 => h9) hft dX11_split_4 ?_
  have hPc := hP.sub (ws' := [(st, .inr (0, gs))]) [1] rfl
  have hDc := hD.sub (ws' := [(st, .inr (0, gs))]) [1] (by decide) rfl
  have hKc := hK.sub (tys' := []) [] rfl
  have hFc := va_free (wc := [(st, .inr (0, gs))]) hD hS hA [1] rfl
  refine va_calli (va_runV (As := []) (rest := [.int 0]) ⟨hx, hb, hml, hown, hts⟩ (c_Str_length l dC dI s.heap.size sz0 e0 k0 v0 st gs hgl hg0 hg1) (cwV 0 hts (gi_tail gC_X11_19_J0_length_8abf5) rfl rfl rfl (by decide +kernel) ⟨Nat.le_of_ble_eq_true rfl, Nat.le_of_ble_eq_true rfl⟩) ⟨zPs_blind, va_recv hKc hPc (ci := 0) (q0 := 0) rfl rfl, fun U hU hW => zPs_at hPc hKc hDc hS hA0 hz0 hES hU hW⟩ rfl rfl hl.1 rfl (lv_room (Nat.le_of_ble_eq_true rfl)) dX11_split_7 ⟨Nat.le_of_ble_eq_true rfl, Nat.le_of_ble_eq_true rfl⟩) hS (fun q _ h => hFc q h) hFc (fun r_1 u t H1 locs ht hvm hw hB hz1 hk1 hS => ?_)
  obtain ⟨hP1, hK1, hD1⟩ := hB
  obtain ⟨hrs, hus⟩ := hw
  have hus := hus.symm
  subst hus
  subst hrs
  rw [ht] at hP1
  have hK1 := va_K.moved hvm.symm hK1
  obtain ⟨hP, hD⟩ := va_join (wr := [(h0, .inr (13, fs)), (qp, .inl (cp, 1, .inl fp)), (qe, .inl (ce, 1, .inl fe))]) (w1 := [(st, .inr (0, gs))]) hP hD [1] [0, 2, 3] rfl rfl (by decide) (by decide) hk1 hFc hP1 hD1
  generalize H1 = H at hP hS ⊢
  have hP : va_P (dC, dI) vwCl [(h0, .inr (13, fs)), (qp, .inl (cp, 1, .inl fp)), (qe, .inl (ce, 1, .inl fe)), (st, .inr (0, gs))] H := hP
  have hD : va_D A [(h0, .inr (13, fs)), (qp, .inl (cp, 1, .inl fp)), (qe, .inl (ce, 1, .inl fe)), (st, .inr (0, gs))] := hD
  refine lv_icmp_ge (tgt := 76) hx hb dX11_split_10 (by decide) (fun c_1 => ?_) (fun c_1 => absurd (by decide) c_1)
  refine lv_aload_n hx hb dX11_split_76 rfl (lv_at hl 1 rfl) ?_
  refine va_get (D := (dC, dI)) (ci := 13) (v := .ref qp) (C := RX11) (T := TX11) (N := 6) hx hb hts iwC_X11 hown hK hP 0 rfl rfl 2 (by decide) (hts (.fieldLink RX11 29 "LiquidTongue$Words" "places" "[I") (by decide +kernel)) (fun _ h9 => h9) hfp dX11_split_77 ?_
  refine lv_aload_n hx hb dX11_split_80 rfl (lv_at hl 1 rfl) ?_
  refine va_get (D := (dC, dI)) (ci := 13) (v := .int 0) (C := RX11) (T := TX11) (N := 6) hx hb hts iwC_X11 hown hK hP 0 rfl rfl 4 (by decide) (hts (.fieldLink RX11 50 "LiquidTongue$Words" "count" "I") (by decide +kernel)) (fun _ h9 => h9) hfc dX11_split_81 ?_
  refine lv_aload_n hx hb dX11_split_84 rfl (lv_at hl 1 rfl) ?_
  refine va_get (D := (dC, dI)) (ci := 13) (v := .ref st) (C := RX11) (T := TX11) (N := 6) hx hb hts iwC_X11 hown hK hP 0 rfl rfl 0 (by decide) (hts (.fieldLink RX11 15 "LiquidTongue$Words" "text" "Ljava/lang/String;") (by decide +kernel)) (fun _ h9 => h9) hft dX11_split_85 ?_
  have hPc := hP.sub (ws' := [(st, .inr (0, gs))]) [3] rfl
  have hDc := hD.sub (ws' := [(st, .inr (0, gs))]) [3] (by decide) rfl
  have hKc := hK.sub (tys' := []) [] rfl
  have hFc := va_free (wc := [(st, .inr (0, gs))]) hD hS hA [3] rfl
  refine va_calli (va_runV (As := []) (rest := [.int 0, .ref qp]) ⟨hx, hb, hml, hown, hts⟩ (c_Str_length l dC dI H.size sz0 e0 k0 v0 st gs hgl hg0 hg1) (cwV 0 hts (gi_tail gC_X11_19_J0_length_8abf5) rfl rfl rfl (by decide +kernel) ⟨Nat.le_of_ble_eq_true rfl, Nat.le_of_ble_eq_true rfl⟩) ⟨zPs_blind, va_recv hKc hPc (ci := 0) (q0 := 0) rfl rfl, fun U hU hW => zPs_at hPc hKc hDc hS hA0 hz0 hES hU hW⟩ rfl rfl hl.1 rfl (lv_room (Nat.le_of_ble_eq_true rfl)) dX11_split_88 ⟨Nat.le_of_ble_eq_true rfl, Nat.le_of_ble_eq_true rfl⟩) hS (fun q _ h => hFc q h) hFc (fun r_2 u t H1 locs ht hvm hw hB hz1 hk1 hS => ?_)
  obtain ⟨hP1, hK1, hD1⟩ := hB
  obtain ⟨hrs, hus⟩ := hw
  have hus := hus.symm
  subst hus
  subst hrs
  rw [ht] at hP1
  have hK1 := va_K.moved hvm.symm hK1
  obtain ⟨hP, hD⟩ := va_join (wr := [(h0, .inr (13, fs)), (qp, .inl (cp, 1, .inl fp)), (qe, .inl (ce, 1, .inl fe))]) (w1 := [(st, .inr (0, gs))]) hP hD [3] [0, 1, 2] rfl rfl (by decide) (by decide) hk1 hFc hP1 hD1
  generalize H1 = H at hP hS ⊢
  have hP : va_P (dC, dI) vwCl [(h0, .inr (13, fs)), (qp, .inl (cp, 1, .inl fp)), (qe, .inl (ce, 1, .inl fe)), (st, .inr (0, gs))] H := hP
  have hD : va_D A [(h0, .inr (13, fs)), (qp, .inl (cp, 1, .inl fp)), (qe, .inl (ce, 1, .inl fe)), (st, .inr (0, gs))] := hD
  refine va_iast hx hb hK hP hD hS 1 0 rfl rfl (show ¬ ((0 : Int32) < 0 ∨ 1 ≤ (0 : Int32).toNatClampNeg) from by decide) dX11_split_91 (fun H locs hP hD hS => ?_)
  rw [show ((0 : Int32)).toNatClampNeg = 0 from by decide] at hP hD
  have hP : va_P (dC, dI) vwCl [(h0, .inr (13, fs)), (qp, .inl (cp, 1, .inl (upd fp 0 0))), (qe, .inl (ce, 1, .inl fe)), (st, .inr (0, gs))] H := hP
  have hD : va_D A [(h0, .inr (13, fs)), (qp, .inl (cp, 1, .inl (upd fp 0 0))), (qe, .inl (ce, 1, .inl fe)), (st, .inr (0, gs))] := hD
  refine lv_aload_n hx hb dX11_split_92 rfl (lv_at hl 1 rfl) ?_
  refine va_get (D := (dC, dI)) (ci := 13) (v := .ref qe) (C := RX11) (T := TX11) (N := 6) hx hb hts iwC_X11 hown hK hP 0 rfl rfl 3 (by decide) (hts (.fieldLink RX11 32 "LiquidTongue$Words" "ends" "[I") (by decide +kernel)) (fun _ h9 => h9) hfe dX11_split_93 ?_
  refine lv_aload_n hx hb dX11_split_96 rfl (lv_at hl 1 rfl) ?_
  refine va_get (D := (dC, dI)) (ci := 13) (v := .int 0) (C := RX11) (T := TX11) (N := 6) hx hb hts iwC_X11 hown hK hP 0 rfl rfl 4 (by decide) (hts (.fieldLink RX11 50 "LiquidTongue$Words" "count" "I") (by decide +kernel)) (fun _ h9 => h9) hfc dX11_split_97 ?_
  refine lv_aload_n hx hb dX11_split_100 rfl (lv_at hl 1 rfl) ?_
  refine va_get (D := (dC, dI)) (ci := 13) (v := .ref st) (C := RX11) (T := TX11) (N := 6) hx hb hts iwC_X11 hown hK hP 0 rfl rfl 0 (by decide) (hts (.fieldLink RX11 15 "LiquidTongue$Words" "text" "Ljava/lang/String;") (by decide +kernel)) (fun _ h9 => h9) hft dX11_split_101 ?_
  have hPc := hP.sub (ws' := [(st, .inr (0, gs))]) [3] rfl
  have hDc := hD.sub (ws' := [(st, .inr (0, gs))]) [3] (by decide) rfl
  have hKc := hK.sub (tys' := []) [] rfl
  have hFc := va_free (wc := [(st, .inr (0, gs))]) hD hS hA [3] rfl
  refine va_calli (va_runV (As := []) (rest := [.int 0, .ref qe]) ⟨hx, hb, hml, hown, hts⟩ (c_Str_length l dC dI H.size sz0 e0 k0 v0 st gs hgl hg0 hg1) (cwV 0 hts (gi_tail gC_X11_19_J0_length_8abf5) rfl rfl rfl (by decide +kernel) ⟨Nat.le_of_ble_eq_true rfl, Nat.le_of_ble_eq_true rfl⟩) ⟨zPs_blind, va_recv hKc hPc (ci := 0) (q0 := 0) rfl rfl, fun U hU hW => zPs_at hPc hKc hDc hS hA0 hz0 hES hU hW⟩ rfl rfl hl.1 rfl (lv_room (Nat.le_of_ble_eq_true rfl)) dX11_split_104 ⟨Nat.le_of_ble_eq_true rfl, Nat.le_of_ble_eq_true rfl⟩) hS (fun q _ h => hFc q h) hFc (fun r_3 u t H1 locs ht hvm hw hB hz1 hk1 hS => ?_)
  obtain ⟨hP1, hK1, hD1⟩ := hB
  obtain ⟨hrs, hus⟩ := hw
  have hus := hus.symm
  subst hus
  subst hrs
  rw [ht] at hP1
  have hK1 := va_K.moved hvm.symm hK1
  obtain ⟨hP, hD⟩ := va_join (wr := [(h0, .inr (13, fs)), (qp, .inl (cp, 1, .inl (upd fp 0 0))), (qe, .inl (ce, 1, .inl fe))]) (w1 := [(st, .inr (0, gs))]) hP hD [3] [0, 1, 2] rfl rfl (by decide) (by decide) hk1 hFc hP1 hD1
  generalize H1 = H at hP hS ⊢
  have hP : va_P (dC, dI) vwCl [(h0, .inr (13, fs)), (qp, .inl (cp, 1, .inl (upd fp 0 0))), (qe, .inl (ce, 1, .inl fe)), (st, .inr (0, gs))] H := hP
  have hD : va_D A [(h0, .inr (13, fs)), (qp, .inl (cp, 1, .inl (upd fp 0 0))), (qe, .inl (ce, 1, .inl fe)), (st, .inr (0, gs))] := hD
  refine va_iast hx hb hK hP hD hS 2 1 rfl rfl (show ¬ ((0 : Int32) < 0 ∨ 1 ≤ (0 : Int32).toNatClampNeg) from by decide) dX11_split_107 (fun H locs hP hD hS => ?_)
  rw [show ((0 : Int32)).toNatClampNeg = 0 from by decide] at hP hD
  have hP : va_P (dC, dI) vwCl [(h0, .inr (13, fs)), (qp, .inl (cp, 1, .inl (upd fp 0 0))), (qe, .inl (ce, 1, .inl (upd fe 0 0))), (st, .inr (0, gs))] H := hP
  have hD : va_D A [(h0, .inr (13, fs)), (qp, .inl (cp, 1, .inl (upd fp 0 0))), (qe, .inl (ce, 1, .inl (upd fe 0 0))), (st, .inr (0, gs))] := hD
  have hP9 := hP.sub (ws' := [(h0, .inr (13, fs)), (st, .inr (0, gs)), (qp, .inl (cp, 1, .inl (upd fp 0 0))), (qe, .inl (ce, 1, .inl (upd fe 0 0)))]) [0, 3, 1, 2] rfl
  have hD9 := hD.sub (ws' := [(h0, .inr (13, fs)), (st, .inr (0, gs)), (qp, .inl (cp, 1, .inl (upd fp 0 0))), (qe, .inl (ce, 1, .inl (upd fe 0 0)))]) [0, 3, 1, 2] (by decide) rfl
  have hK9 := hK.sub (tys' := [(cp, .int), (ce, .int)]) [0, 1] rfl
  exact W.vret hx hb hr (fun t ht hW => ⟨⟨(), rfl, trivial, (zB_mk (by rw [ht]; exact hP9) (va_K.moved hW.alike hK9) hD9)⟩, hS.F ht⟩) hS.2.2 dX11_split_108
abbrev zw_X11 (h0 st : Nat) (fs gs : List Value) (u : (Nat → Nat) × (Nat → ClassId)) : va_W := [(h0, .inr (13, (((((fs.set 5 (.int (-1))).set 0 (.ref st)).set 1 (.ref (u.1 0))).set 2 (.ref (u.1 1))).set 3 (.ref (u.1 2))))), (st, .inr (0, gs)), ((u.1 0), .inl ((u.2 0), 1, .inl (fun _ => 0))), ((u.1 1), .inl ((u.2 1), 1, .inl (upd (fun _ => 0) 0 0))), ((u.1 2), .inl ((u.2 2), 1, .inl (upd (fun _ => 0) 0 0)))]
abbrev zt_X11 (u : (Nat → Nat) × (Nat → ClassId)) : List (ClassId × FieldType) := [((u.2 0), .int), ((u.2 1), .int), ((u.2 2), .int)]
set_option maxHeartbeats 4000000 in
set_option maxRecDepth 100000 in
/-- Words(""), env of strings -/
theorem c_X11_init_e (l : Launch) (dC : Nat → ClassId) (dI : Nat → Nat → Nat) (sz : Nat) (sz0 e0 k0 v0 : Nat) (h0 st : Nat) (fs gs : List Value) (hfl : fs.length = 6) (hgl : gs.length = 4) (hg0 : gs[0]? = some (.ref v0)) (hg1 : gs[1]? = some (.int 0)) (hfc : fs[4]? = some (.int 0)) : Met l yX11_init wC_X11_init ({ frames := 3, cells := 3, slots := 3, locals := 63 }) (zPs dC dI sz0 e0 k0 v0 sz [.ref h0, .ref st] [(h0, .inr (13, fs)), (st, .inr (0, gs))] []) (va_Qv (fun _ : (Nat → Nat) × (Nat → ClassId) => True) (zB dC dI (fun u => zt_X11 u) (fun u : (Nat → Nat) × (Nat → ClassId) => zw_X11 h0 st fs gs u) (va_A [(h0, .inr (13, fs)), (st, .inr (0, gs))] sz)) (va_A [(h0, .inr (13, fs)), (st, .inr (0, gs))] sz)) 3 3 (va_A [(h0, .inr (13, fs)), (st, .inr (0, gs))] sz) := by
  refine Met.ofW (cc := cX11_init) (maxL := 2) (ret := none) (by decide) rfl ?_
  intro p e s m args below meth c s₁ B hml hv
  obtain ⟨rfl, hsz, hP, hK, hD0, hz0, hES⟩ := hv
  have hE := hES.1
  have hSt := hES.2
  have hx := B.exec
  have hb := B.bytes
  have hr := B.returns
  have hts := atoms_spec (ws := wC_X11_init) B.pre
  have hown : s.vm.findClass RX11 = some m.cls := findClass_of_methodNamed B.named
  have hlocks := B.notSynchronized
  have hin : meth.name = "<init>" := (name_of_methodNamed B.named B.method).1
  subst hsz
  have hD := hD0.self (sz := s.heap.size)
  generalize hAe : va_A [(h0, .inr (13, fs)), (st, .inr (0, gs))] s.heap.size = A at hD ⊢
  have hA : ∀ q : Nat, s.heap.size ≤ q → A q := fun q h => by rw [← hAe]; exact Or.inr h
  have hA0 : ∀ q : Nat, A q → sz0 ≤ q := fun q h => by rw [← hAe] at h; exact zA_ge hD0 hz0 h
  have hS : va_S A s.heap s.heap [] := va_S.rf
  have hP : va_P (dC, dI) vwCl [(h0, .inr (13, fs)), (st, .inr (0, gs))] s.heap := hP
  have hl := lv_entry ([.ref h0, .ref st]) (n := 2) (Nat.le_of_ble_eq_true rfl)
  rw [lg_entry_eq]
  generalize (lg_sl ([.ref h0, .ref st]) ++ List.replicate (2 - (lg_sl ([.ref h0, .ref st])).length) Slot.unset).toArray = ls at hl ⊢
  have hl : lv_has ls 2 [(0, .ref h0), (1, .ref st)] := hl
  refine lv_aload_n hx hb dX11_init_0 rfl (lv_at hl 0 rfl) ?_
  refine W.objInit hx hb hown (hts (.methodLink RX11 3 objectInit) (by decide +kernel)) (hts (.instanceMethod objectInit) (by decide +kernel)) (hts (.code objectInit ⟨#[0xb1]⟩ 1 none) (by decide +kernel)) rfl (by rw [hml]; exact hl.1) rfl dX11_init_1 (Nat.le_of_ble_eq_true rfl) (Nat.le_of_ble_eq_true rfl) ?_
  refine W.eq (g2 := F0 m 4 ls []) rfl ?_
  refine lv_aload_n hx hb dX11_init_4 rfl (lv_at hl 0 rfl) ?_
  refine lv_iconst (v := -1) hx hb dX11_init_5 (by decide) ?_
  refine va_put (D := (dC, dI)) (ci := 13) (v := .int (-1)) (ty := .int) (C := RX11) (T := TX11) (N := 6) hx hb hts iwC_X11 tyX11 tyX11_ok nmX11 hown hK hP hD hS 0 rfl rfl 5 (by decide) (hts (.fieldLink RX11 9 "LiquidTongue$Words" "bad" "I") (by decide +kernel)) (fun _ h9 => h9) rfl (by decide +kernel) rfl rfl (zs_lt hfl (by decide)) dX11_init_6 (fun H locs hP hD hS => ?_)
  have hP : va_P (dC, dI) vwCl [(h0, .inr (13, (fs.set 5 (.int (-1))))), (st, .inr (0, gs))] H := hP
  have hD : va_D A [(h0, .inr (13, (fs.set 5 (.int (-1))))), (st, .inr (0, gs))] := hD
  refine lv_aload_n hx hb dX11_init_9 rfl (lv_at hl 0 rfl) ?_
  refine lv_aload_n hx hb dX11_init_10 rfl (lv_at hl 1 rfl) ?_
  refine va_putF (D := (dC, dI)) (ci := 13) (v := .ref st) (ty := .object "java/lang/String") (C := RX11) (T := TX11) (N := 6) hx hb hts iwC_X11 tyX11 tyX11_ok nmX11 hown hK hP hD hS 0 rfl rfl 0 (by decide) (hts (.fieldLink RX11 15 "LiquidTongue$Words" "text" "Ljava/lang/String;") (by decide +kernel)) (fun _ h9 => h9) rfl hin rfl (by decide +kernel) rfl rfl (zs_lt (zs_len hfl) (by decide)) dX11_init_11 (fun H locs hP hD hS => ?_)
  have hP : va_P (dC, dI) vwCl [(h0, .inr (13, ((fs.set 5 (.int (-1))).set 0 (.ref st)))), (st, .inr (0, gs))] H := hP
  have hD : va_D A [(h0, .inr (13, ((fs.set 5 (.int (-1))).set 0 (.ref st)))), (st, .inr (0, gs))] := hD
  refine lv_aload_n hx hb dX11_init_14 rfl (lv_at hl 0 rfl) ?_
  refine lv_aload_n hx hb dX11_init_15 rfl (lv_at hl 1 rfl) ?_
  have hPc := hP.sub (ws' := [(st, .inr (0, gs))]) [1] rfl
  have hDc := hD.sub (ws' := [(st, .inr (0, gs))]) [1] (by decide) rfl
  have hKc := hK.sub (tys' := []) [] rfl
  have hFc := va_free (wc := [(st, .inr (0, gs))]) hD hS hA [1] rfl
  refine va_calli (va_runV (As := []) (rest := [.ref h0]) ⟨hx, hb, hml, hown, hts⟩ (c_Str_length l dC dI H.size sz0 e0 k0 v0 st gs hgl hg0 hg1) (cwV 0 hts (gi_tail gC_X11_19_J0_length_8abf5) rfl rfl rfl (by decide +kernel) ⟨Nat.le_of_ble_eq_true rfl, Nat.le_of_ble_eq_true rfl⟩) ⟨zPs_blind, va_recv hKc hPc (ci := 0) (q0 := 0) rfl rfl, fun U hU hW => zPs_at hPc hKc hDc hS hA0 hz0 hES hU hW⟩ rfl rfl hl.1 rfl (lv_room (Nat.le_of_ble_eq_true rfl)) dX11_init_16 ⟨Nat.le_of_ble_eq_true rfl, Nat.le_of_ble_eq_true rfl⟩) hS (fun q _ h => hFc q h) hFc (fun r_1 u t H1 locs ht hvm hw hB hz1 hk1 hS => ?_)
  obtain ⟨hP1, hK1, hD1⟩ := hB
  obtain ⟨hrs, hus⟩ := hw
  have hus := hus.symm
  subst hus
  subst hrs
  rw [ht] at hP1
  have hK1 := va_K.moved hvm.symm hK1
  obtain ⟨hP, hD⟩ := va_join (wr := [(h0, .inr (13, ((fs.set 5 (.int (-1))).set 0 (.ref st))))]) (w1 := [(st, .inr (0, gs))]) hP hD [1] [0] rfl rfl (by decide) (by decide) hk1 hFc hP1 hD1
  generalize H1 = H at hP hS ⊢
  have hP : va_P (dC, dI) vwCl [(h0, .inr (13, ((fs.set 5 (.int (-1))).set 0 (.ref st)))), (st, .inr (0, gs))] H := hP
  have hD : va_D A [(h0, .inr (13, ((fs.set 5 (.int (-1))).set 0 (.ref st)))), (st, .inr (0, gs))] := hD
  refine lv_iconst (v := 1) hx hb dX11_init_19 (by decide) ?_
  refine lv_iadd hx hb dX11_init_20 ?_
  refine lv_topi (fun z_2 ez_2 => ?_)
  have fz_2 : z_2 = 1 := ez_2.trans (by decide)
  clear ez_2
  subst fz_2
  refine va_newa (atype := .int) (ty := .int) (N' := 1) (a0 := (1, (.inl (fun _ => 0)))) hx hb (hts (.arrayClass .int) (by decide +kernel)) rfl hK hP hD hS hA (fun cA => rfl) (by decide) (by decide) (Nat.le_of_ble_eq_true rfl) (Nat.le_of_ble_eq_true rfl) (Nat.le_of_ble_eq_true rfl) dX11_init_21 (fun q_3 cA_4 H hK hP hD hS => ?_)
  have hP : va_P (dC, dI) vwCl [(h0, .inr (13, ((fs.set 5 (.int (-1))).set 0 (.ref st)))), (st, .inr (0, gs)), (q_3, .inl (cA_4, 1, .inl (fun _ => 0)))] H := hP
  have hD : va_D A [(h0, .inr (13, ((fs.set 5 (.int (-1))).set 0 (.ref st)))), (st, .inr (0, gs)), (q_3, .inl (cA_4, 1, .inl (fun _ => 0)))] := hD
  have hK : va_K (dC, dI) vwCl [(cA_4, .int)] s := hK
  refine W.widen (k := 1) (n := 1) (Nat.le_of_ble_eq_true rfl) (Nat.le_of_ble_eq_true rfl) ?_
  refine va_putF (D := (dC, dI)) (ci := 13) (v := .ref q_3) (ty := .array .int) (C := RX11) (T := TX11) (N := 6) hx hb hts iwC_X11 tyX11 tyX11_ok nmX11 hown hK hP hD hS 0 rfl rfl 1 (by decide) (hts (.fieldLink RX11 25 "LiquidTongue$Words" "kinds" "[I") (by decide +kernel)) (fun _ h9 => h9) rfl hin rfl (by decide +kernel) rfl rfl (zs_lt (zs_len (zs_len hfl)) (by decide)) dX11_init_23 (fun H locs hP hD hS => ?_)
  have hP : va_P (dC, dI) vwCl [(h0, .inr (13, (((fs.set 5 (.int (-1))).set 0 (.ref st)).set 1 (.ref q_3)))), (st, .inr (0, gs)), (q_3, .inl (cA_4, 1, .inl (fun _ => 0)))] H := hP
  have hD : va_D A [(h0, .inr (13, (((fs.set 5 (.int (-1))).set 0 (.ref st)).set 1 (.ref q_3)))), (st, .inr (0, gs)), (q_3, .inl (cA_4, 1, .inl (fun _ => 0)))] := hD
  refine lv_aload_n hx hb dX11_init_26 rfl (lv_at hl 0 rfl) ?_
  refine lv_aload_n hx hb dX11_init_27 rfl (lv_at hl 1 rfl) ?_
  have hPc := hP.sub (ws' := [(st, .inr (0, gs))]) [1] rfl
  have hDc := hD.sub (ws' := [(st, .inr (0, gs))]) [1] (by decide) rfl
  have hKc := hK.sub (tys' := []) [] rfl
  have hFc := va_free (wc := [(st, .inr (0, gs))]) hD hS hA [1] rfl
  refine va_calli (va_runV (As := []) (rest := [.ref h0]) ⟨hx, hb, hml, hown, hts⟩ (c_Str_length l dC dI H.size sz0 e0 k0 v0 st gs hgl hg0 hg1) (cwV 0 hts (gi_tail gC_X11_19_J0_length_8abf5) rfl rfl rfl (by decide +kernel) ⟨Nat.le_of_ble_eq_true rfl, Nat.le_of_ble_eq_true rfl⟩) ⟨zPs_blind, va_recv hKc hPc (ci := 0) (q0 := 0) rfl rfl, fun U hU hW => zPs_at hPc hKc hDc hS hA0 hz0 hES hU hW⟩ rfl rfl hl.1 rfl (lv_room (Nat.le_of_ble_eq_true rfl)) dX11_init_28 ⟨Nat.le_of_ble_eq_true rfl, Nat.le_of_ble_eq_true rfl⟩) hS (fun q _ h => hFc q h) hFc (fun r_5 u t H1 locs ht hvm hw hB hz1 hk1 hS => ?_)
  obtain ⟨hP1, hK1, hD1⟩ := hB
  obtain ⟨hrs, hus⟩ := hw
  have hus := hus.symm
  subst hus
  subst hrs
  rw [ht] at hP1
  have hK1 := va_K.moved hvm.symm hK1
  obtain ⟨hP, hD⟩ := va_join (wr := [(h0, .inr (13, (((fs.set 5 (.int (-1))).set 0 (.ref st)).set 1 (.ref q_3)))), (q_3, .inl (cA_4, 1, .inl (fun _ => 0)))]) (w1 := [(st, .inr (0, gs))]) hP hD [1] [0, 2] rfl rfl (by decide) (by decide) hk1 hFc hP1 hD1
  generalize H1 = H at hP hS ⊢
  have hP : va_P (dC, dI) vwCl [(h0, .inr (13, (((fs.set 5 (.int (-1))).set 0 (.ref st)).set 1 (.ref q_3)))), (q_3, .inl (cA_4, 1, .inl (fun _ => 0))), (st, .inr (0, gs))] H := hP
  have hD : va_D A [(h0, .inr (13, (((fs.set 5 (.int (-1))).set 0 (.ref st)).set 1 (.ref q_3)))), (q_3, .inl (cA_4, 1, .inl (fun _ => 0))), (st, .inr (0, gs))] := hD
  refine lv_iconst (v := 1) hx hb dX11_init_31 (by decide) ?_
  refine lv_iadd hx hb dX11_init_32 ?_
  refine lv_topi (fun z_6 ez_6 => ?_)
  have fz_6 : z_6 = 1 := ez_6.trans (by decide)
  clear ez_6
  subst fz_6
  refine va_newa (atype := .int) (ty := .int) (N' := 1) (a0 := (1, (.inl (fun _ => 0)))) hx hb (hts (.arrayClass .int) (by decide +kernel)) rfl hK hP hD hS hA (fun cA => rfl) (by decide) (by decide) (Nat.le_of_ble_eq_true rfl) (Nat.le_of_ble_eq_true rfl) (Nat.le_of_ble_eq_true rfl) dX11_init_33 (fun q_7 cA_8 H hK hP hD hS => ?_)
  have hP : va_P (dC, dI) vwCl [(h0, .inr (13, (((fs.set 5 (.int (-1))).set 0 (.ref st)).set 1 (.ref q_3)))), (q_3, .inl (cA_4, 1, .inl (fun _ => 0))), (st, .inr (0, gs)), (q_7, .inl (cA_8, 1, .inl (fun _ => 0)))] H := hP
  have hD : va_D A [(h0, .inr (13, (((fs.set 5 (.int (-1))).set 0 (.ref st)).set 1 (.ref q_3)))), (q_3, .inl (cA_4, 1, .inl (fun _ => 0))), (st, .inr (0, gs)), (q_7, .inl (cA_8, 1, .inl (fun _ => 0)))] := hD
  have hK : va_K (dC, dI) vwCl [(cA_4, .int), (cA_8, .int)] s := hK
  refine W.widen (k := 2) (n := 2) (Nat.le_of_ble_eq_true rfl) (Nat.le_of_ble_eq_true rfl) ?_
  refine va_putF (D := (dC, dI)) (ci := 13) (v := .ref q_7) (ty := .array .int) (C := RX11) (T := TX11) (N := 6) hx hb hts iwC_X11 tyX11 tyX11_ok nmX11 hown hK hP hD hS 0 rfl rfl 2 (by decide) (hts (.fieldLink RX11 29 "LiquidTongue$Words" "places" "[I") (by decide +kernel)) (fun _ h9 => h9) rfl hin rfl (by decide +kernel) rfl rfl (zs_lt (zs_len (zs_len (zs_len hfl))) (by decide)) dX11_init_35 (fun H locs hP hD hS => ?_)
  have hP : va_P (dC, dI) vwCl [(h0, .inr (13, ((((fs.set 5 (.int (-1))).set 0 (.ref st)).set 1 (.ref q_3)).set 2 (.ref q_7)))), (q_3, .inl (cA_4, 1, .inl (fun _ => 0))), (st, .inr (0, gs)), (q_7, .inl (cA_8, 1, .inl (fun _ => 0)))] H := hP
  have hD : va_D A [(h0, .inr (13, ((((fs.set 5 (.int (-1))).set 0 (.ref st)).set 1 (.ref q_3)).set 2 (.ref q_7)))), (q_3, .inl (cA_4, 1, .inl (fun _ => 0))), (st, .inr (0, gs)), (q_7, .inl (cA_8, 1, .inl (fun _ => 0)))] := hD
  refine lv_aload_n hx hb dX11_init_38 rfl (lv_at hl 0 rfl) ?_
  refine lv_aload_n hx hb dX11_init_39 rfl (lv_at hl 1 rfl) ?_
  have hPc := hP.sub (ws' := [(st, .inr (0, gs))]) [2] rfl
  have hDc := hD.sub (ws' := [(st, .inr (0, gs))]) [2] (by decide) rfl
  have hKc := hK.sub (tys' := []) [] rfl
  have hFc := va_free (wc := [(st, .inr (0, gs))]) hD hS hA [2] rfl
  refine va_calli (va_runV (As := []) (rest := [.ref h0]) ⟨hx, hb, hml, hown, hts⟩ (c_Str_length l dC dI H.size sz0 e0 k0 v0 st gs hgl hg0 hg1) (cwV 0 hts (gi_tail gC_X11_19_J0_length_8abf5) rfl rfl rfl (by decide +kernel) ⟨Nat.le_of_ble_eq_true rfl, Nat.le_of_ble_eq_true rfl⟩) ⟨zPs_blind, va_recv hKc hPc (ci := 0) (q0 := 0) rfl rfl, fun U hU hW => zPs_at hPc hKc hDc hS hA0 hz0 hES hU hW⟩ rfl rfl hl.1 rfl (lv_room (Nat.le_of_ble_eq_true rfl)) dX11_init_40 ⟨Nat.le_of_ble_eq_true rfl, Nat.le_of_ble_eq_true rfl⟩) hS (fun q _ h => hFc q h) hFc (fun r_9 u t H1 locs ht hvm hw hB hz1 hk1 hS => ?_)
  obtain ⟨hP1, hK1, hD1⟩ := hB
  obtain ⟨hrs, hus⟩ := hw
  have hus := hus.symm
  subst hus
  subst hrs
  rw [ht] at hP1
  have hK1 := va_K.moved hvm.symm hK1
  obtain ⟨hP, hD⟩ := va_join (wr := [(h0, .inr (13, ((((fs.set 5 (.int (-1))).set 0 (.ref st)).set 1 (.ref q_3)).set 2 (.ref q_7)))), (q_3, .inl (cA_4, 1, .inl (fun _ => 0))), (q_7, .inl (cA_8, 1, .inl (fun _ => 0)))]) (w1 := [(st, .inr (0, gs))]) hP hD [2] [0, 1, 3] rfl rfl (by decide) (by decide) hk1 hFc hP1 hD1
  generalize H1 = H at hP hS ⊢
  have hP : va_P (dC, dI) vwCl [(h0, .inr (13, ((((fs.set 5 (.int (-1))).set 0 (.ref st)).set 1 (.ref q_3)).set 2 (.ref q_7)))), (q_3, .inl (cA_4, 1, .inl (fun _ => 0))), (q_7, .inl (cA_8, 1, .inl (fun _ => 0))), (st, .inr (0, gs))] H := hP
  have hD : va_D A [(h0, .inr (13, ((((fs.set 5 (.int (-1))).set 0 (.ref st)).set 1 (.ref q_3)).set 2 (.ref q_7)))), (q_3, .inl (cA_4, 1, .inl (fun _ => 0))), (q_7, .inl (cA_8, 1, .inl (fun _ => 0))), (st, .inr (0, gs))] := hD
  refine lv_iconst (v := 1) hx hb dX11_init_43 (by decide) ?_
  refine lv_iadd hx hb dX11_init_44 ?_
  refine lv_topi (fun z_10 ez_10 => ?_)
  have fz_10 : z_10 = 1 := ez_10.trans (by decide)
  clear ez_10
  subst fz_10
  refine va_newa (atype := .int) (ty := .int) (N' := 1) (a0 := (1, (.inl (fun _ => 0)))) hx hb (hts (.arrayClass .int) (by decide +kernel)) rfl hK hP hD hS hA (fun cA => rfl) (by decide) (by decide) (Nat.le_of_ble_eq_true rfl) (Nat.le_of_ble_eq_true rfl) (Nat.le_of_ble_eq_true rfl) dX11_init_45 (fun q_11 cA_12 H hK hP hD hS => ?_)
  have hP : va_P (dC, dI) vwCl [(h0, .inr (13, ((((fs.set 5 (.int (-1))).set 0 (.ref st)).set 1 (.ref q_3)).set 2 (.ref q_7)))), (q_3, .inl (cA_4, 1, .inl (fun _ => 0))), (q_7, .inl (cA_8, 1, .inl (fun _ => 0))), (st, .inr (0, gs)), (q_11, .inl (cA_12, 1, .inl (fun _ => 0)))] H := hP
  have hD : va_D A [(h0, .inr (13, ((((fs.set 5 (.int (-1))).set 0 (.ref st)).set 1 (.ref q_3)).set 2 (.ref q_7)))), (q_3, .inl (cA_4, 1, .inl (fun _ => 0))), (q_7, .inl (cA_8, 1, .inl (fun _ => 0))), (st, .inr (0, gs)), (q_11, .inl (cA_12, 1, .inl (fun _ => 0)))] := hD
  have hK : va_K (dC, dI) vwCl [(cA_4, .int), (cA_8, .int), (cA_12, .int)] s := hK
  refine W.widen (k := 3) (n := 3) (Nat.le_of_ble_eq_true rfl) (Nat.le_of_ble_eq_true rfl) ?_
  refine va_putF (D := (dC, dI)) (ci := 13) (v := .ref q_11) (ty := .array .int) (C := RX11) (T := TX11) (N := 6) hx hb hts iwC_X11 tyX11 tyX11_ok nmX11 hown hK hP hD hS 0 rfl rfl 3 (by decide) (hts (.fieldLink RX11 32 "LiquidTongue$Words" "ends" "[I") (by decide +kernel)) (fun _ h9 => h9) rfl hin rfl (by decide +kernel) rfl rfl (zs_lt (zs_len (zs_len (zs_len (zs_len hfl)))) (by decide)) dX11_init_47 (fun H locs hP hD hS => ?_)
  have hP : va_P (dC, dI) vwCl [(h0, .inr (13, (((((fs.set 5 (.int (-1))).set 0 (.ref st)).set 1 (.ref q_3)).set 2 (.ref q_7)).set 3 (.ref q_11)))), (q_3, .inl (cA_4, 1, .inl (fun _ => 0))), (q_7, .inl (cA_8, 1, .inl (fun _ => 0))), (st, .inr (0, gs)), (q_11, .inl (cA_12, 1, .inl (fun _ => 0)))] H := hP
  have hD : va_D A [(h0, .inr (13, (((((fs.set 5 (.int (-1))).set 0 (.ref st)).set 1 (.ref q_3)).set 2 (.ref q_7)).set 3 (.ref q_11)))), (q_3, .inl (cA_4, 1, .inl (fun _ => 0))), (q_7, .inl (cA_8, 1, .inl (fun _ => 0))), (st, .inr (0, gs)), (q_11, .inl (cA_12, 1, .inl (fun _ => 0)))] := hD
  refine lv_aload_n hx hb dX11_init_50 rfl (lv_at hl 0 rfl) ?_
  have hPc := hP.sub (ws' := [(h0, .inr (13, (((((fs.set 5 (.int (-1))).set 0 (.ref st)).set 1 (.ref q_3)).set 2 (.ref q_7)).set 3 (.ref q_11)))), (st, .inr (0, gs)), (q_7, .inl (cA_8, 1, .inl (fun _ => 0))), (q_11, .inl (cA_12, 1, .inl (fun _ => 0)))]) [0, 3, 2, 4] rfl
  have hDc := hD.sub (ws' := [(h0, .inr (13, (((((fs.set 5 (.int (-1))).set 0 (.ref st)).set 1 (.ref q_3)).set 2 (.ref q_7)).set 3 (.ref q_11)))), (st, .inr (0, gs)), (q_7, .inl (cA_8, 1, .inl (fun _ => 0))), (q_11, .inl (cA_12, 1, .inl (fun _ => 0)))]) [0, 3, 2, 4] (by decide) rfl
  have hKc := hK.sub (tys' := [(cA_8, .int), (cA_12, .int)]) [1, 2] rfl
  have hFc := va_free (wc := [(h0, .inr (13, (((((fs.set 5 (.int (-1))).set 0 (.ref st)).set 1 (.ref q_3)).set 2 (.ref q_7)).set 3 (.ref q_11)))), (st, .inr (0, gs)), (q_7, .inl (cA_8, 1, .inl (fun _ => 0))), (q_11, .inl (cA_12, 1, .inl (fun _ => 0)))]) hD hS hA [0, 3, 2, 4] rfl
  refine va_callv (va_runV (As := []) (rest := []) ⟨hx, hb, hml, hown, hts⟩ (c_X11_split_e l dC dI H.size sz0 e0 k0 v0 h0 st q_7 q_11 cA_8 cA_12 (((((fs.set 5 (.int (-1))).set 0 (.ref st)).set 1 (.ref q_3)).set 2 (.ref q_7)).set 3 (.ref q_11)) gs (fun _ => 0) (fun _ => 0) (zs_len (zs_len (zs_len (zs_len (zs_len hfl))))) hgl (zs_ne (by decide) (zs_ne (by decide) (zs_ne (by decide) (zs_eq (zs_lt (zs_len hfl) (by decide)))))) (zs_ne (by decide) (zs_eq (zs_lt (zs_len (zs_len (zs_len hfl))) (by decide)))) (zs_eq (zs_lt (zs_len (zs_len (zs_len (zs_len hfl)))) (by decide))) (zs_ne (by decide) (zs_ne (by decide) (zs_ne (by decide) (zs_ne (by decide) (zs_ne (by decide) hfc))))) hg0 hg1) (cwV 0 hts (gi_tail gC_X11_35_X11_split) rfl rfl rfl (by decide +kernel) ⟨Nat.le_of_ble_eq_true rfl, Nat.le_of_ble_eq_true rfl⟩) ⟨zPs_blind, va_recv hKc hPc (ci := 13) (q0 := 0) rfl rfl, fun U hU hW => zPs_at hPc hKc hDc hS hA0 hz0 hES hU hW⟩ rfl rfl hl.1 rfl (lv_room (Nat.le_of_ble_eq_true rfl)) dX11_init_51 ⟨Nat.le_of_ble_eq_true rfl, Nat.le_of_ble_eq_true rfl⟩) hS (fun q _ h => hFc q h) hFc (fun u t H1 locs ht hvm hw hB hz1 hk1 hS => ?_)
  obtain ⟨hP1, hK1, hD1⟩ := hB
  rw [ht] at hP1
  have hK1 := va_K.moved hvm.symm hK1
  obtain ⟨hP, hD⟩ := va_join (wr := [(q_3, .inl (cA_4, 1, .inl (fun _ => 0)))]) (w1 := [(h0, .inr (13, (((((fs.set 5 (.int (-1))).set 0 (.ref st)).set 1 (.ref q_3)).set 2 (.ref q_7)).set 3 (.ref q_11)))), (st, .inr (0, gs)), (q_7, .inl (cA_8, 1, .inl (upd (fun _ => 0) 0 0))), (q_11, .inl (cA_12, 1, .inl (upd (fun _ => 0) 0 0)))]) hP hD [0, 3, 2, 4] [1] rfl rfl (by decide) (by decide) hk1 hFc hP1 hD1
  generalize H1 = H at hP hS ⊢
  have hP : va_P (dC, dI) vwCl [(q_3, .inl (cA_4, 1, .inl (fun _ => 0))), (h0, .inr (13, (((((fs.set 5 (.int (-1))).set 0 (.ref st)).set 1 (.ref q_3)).set 2 (.ref q_7)).set 3 (.ref q_11)))), (st, .inr (0, gs)), (q_7, .inl (cA_8, 1, .inl (upd (fun _ => 0) 0 0))), (q_11, .inl (cA_12, 1, .inl (upd (fun _ => 0) 0 0)))] H := hP
  have hD : va_D A [(q_3, .inl (cA_4, 1, .inl (fun _ => 0))), (h0, .inr (13, (((((fs.set 5 (.int (-1))).set 0 (.ref st)).set 1 (.ref q_3)).set 2 (.ref q_7)).set 3 (.ref q_11)))), (st, .inr (0, gs)), (q_7, .inl (cA_8, 1, .inl (upd (fun _ => 0) 0 0))), (q_11, .inl (cA_12, 1, .inl (upd (fun _ => 0) 0 0)))] := hD
  have hP9 := hP.sub (ws' := [(h0, .inr (13, (((((fs.set 5 (.int (-1))).set 0 (.ref st)).set 1 (.ref q_3)).set 2 (.ref q_7)).set 3 (.ref q_11)))), (st, .inr (0, gs)), (q_3, .inl (cA_4, 1, .inl (fun _ => 0))), (q_7, .inl (cA_8, 1, .inl (upd (fun _ => 0) 0 0))), (q_11, .inl (cA_12, 1, .inl (upd (fun _ => 0) 0 0)))]) [1, 2, 0, 3, 4] rfl
  have hD9 := hD.sub (ws' := [(h0, .inr (13, (((((fs.set 5 (.int (-1))).set 0 (.ref st)).set 1 (.ref q_3)).set 2 (.ref q_7)).set 3 (.ref q_11)))), (st, .inr (0, gs)), (q_3, .inl (cA_4, 1, .inl (fun _ => 0))), (q_7, .inl (cA_8, 1, .inl (upd (fun _ => 0) 0 0))), (q_11, .inl (cA_12, 1, .inl (upd (fun _ => 0) 0 0)))]) [1, 2, 0, 3, 4] (by decide) rfl
  have hK9 := hK.sub (tys' := [(cA_4, .int), (cA_8, .int), (cA_12, .int)]) [0, 1, 2] rfl
  exact W.vret hx hb hr (fun t ht hW => ⟨⟨(fun k => [q_3, q_7, q_11].getD k 0, fun k => [cA_4, cA_8, cA_12].getD k 0), rfl, trivial, (zB_mk (by rw [ht]; exact hP9) (va_K.moved hW.alike hK9) hD9)⟩, hS.F ht⟩) hS.2.2 dX11_init_54
