/-! feed of both: twenty bytes behind the tape, or refused -/
/-- the byte of v that k bits lie behind -/
def zby (v k : Int32) : Int32 := (v >>> (k &&& 31)).toInt8.toInt32
/-- the four bytes of v from t on, the highest first -/
def z4 (f : Nat → Int32) (t : Nat) (v : Int32) : Nat → Int32 := upd (upd (upd (upd f t (zby v 24)) (t + 1) (zby v 16)) (t + 2) (zby v 8)) (t + 3) (zby v 0)
def z20 (f : Nat → Int32) (t : Nat) (a b c d e : Int32) : Nat → Int32 := z4 (z4 (z4 (z4 (z4 f t a) (t + 4) b) (t + 8) c) (t + 12) d) (t + 16) e
theorem iw_X12_lay_X12 : ∀ w ∈ wsX120, w ∈ wsX12_lay := fun w h => List.mem_cons_of_mem _ (List.mem_append_right _ h)
set_option maxHeartbeats 4000000 in
set_option maxRecDepth 100000 in
/-- lay(v): four bytes behind the tape -/
theorem c_X12_lay (l : Launch) (dC : Nat → ClassId) (dI : Nat → Nat → Nat) (sz : Nat) (h0 h1 : Nat) (cB : ClassId) (fs : List Value) (f : Nat → Int32) (tl : Nat) (p0 : Int32) (hfl : fs.length = 13) (hf : fs[1]? = some (.int (nI tl))) (hm : fs[0]? = some (.ref h1)) (htl : tl + 4 ≤ 2000) : Met l yX12_lay wsX12_lay ({ frames := 0, cells := 0, slots := 0, locals := 0 }) (zPc dC dI sz [.ref h0, .int p0] [(h0, .inr (14, fs)), (h1, .inl (cB, 2000, .inl f))] [(cB, .byte)]) (va_Qv (fun u : List Value × (Nat → Int32) => u = (fs.set 1 (.int (nI (tl + 4))), z4 f tl p0)) (zB dC dI (fun _ => [(cB, .byte)]) (fun u : List Value × (Nat → Int32) => [(h0, .inr (14, u.1)), (h1, .inl (cB, 2000, .inl u.2))]) (va_A [(h0, .inr (14, fs)), (h1, .inl (cB, 2000, .inl f))] sz)) (va_A [(h0, .inr (14, fs)), (h1, .inl (cB, 2000, .inl f))] sz)) 0 0 (va_A [(h0, .inr (14, fs)), (h1, .inl (cB, 2000, .inl f))] sz) := by
  refine Met.ofW (cc := cX12_lay) (maxL := 3) (ret := none) (by decide) rfl ?_
  intro p e s m args below meth c s₁ B hml hv
  obtain ⟨rfl, hsz, hP, hK, hD0⟩ := hv
  have hx := B.exec
  have hb := B.bytes
  have hr := B.returns
  have hts := atoms_spec (ws := wsX12_lay) B.pre
  have hown : s.vm.findClass RX12 = some m.cls := findClass_of_methodNamed B.named
  have hlocks := B.notSynchronized
  subst hsz
  have hD := hD0.self (sz := s.heap.size)
  generalize hAe : va_A [(h0, .inr (14, fs)), (h1, .inl (cB, 2000, .inl f))] s.heap.size = A at hD ⊢
  have hA : ∀ q : Nat, s.heap.size ≤ q → A q := fun q h => by rw [← hAe]; exact Or.inr h
  have hS : va_S A s.heap s.heap [] := va_S.rf
  have hP : va_P (dC, dI) vwCl [(h0, .inr (14, fs)), (h1, .inl (cB, 2000, .inl f))] s.heap := hP
  have hl := lv_entry ([.ref h0, .int p0]) (n := 3) (Nat.le_of_ble_eq_true rfl)
  rw [lg_entry_eq]
  generalize (lg_sl ([.ref h0, .int p0]) ++ List.replicate (3 - (lg_sl ([.ref h0, .int p0])).length) Slot.unset).toArray = ls at hl ⊢
  have hl : lv_has ls 3 [(0, .ref h0), (1, .int p0)] := hl
  refine lv_bipush (v := 24) hx hb dX12_lay_0 (by decide) ?_
  refine lv_istore_n (lv' := [(2, .int 24), (0, .ref h0), (1, .int p0)]) hx hb dX12_lay_2 rfl hl (by decide) rfl (fun ls hl => ?_)
  refine lv_iload_n hx hb dX12_lay_3 rfl (lv_at hl 0 rfl) ?_
  refine lv_if_lt (tgt := 46) hx hb dX12_lay_4 (by decide) (fun c_1 => absurd c_1 (by decide)) (fun c_1 => ?_)
  refine lv_aload_n hx hb dX12_lay_7 rfl (lv_at hl 1 rfl) ?_
  refine va_get (D := (dC, dI)) (ci := 14) (v := .int (nI tl)) (C := RX12) (T := TX12) (N := 13) hx hb hts iw_X12_lay_X12 hown hK hP 0 rfl rfl 1 (by decide) (hts (.fieldLink RX12 44 "LiquidTongue" "tapeLength" "I") (by decide +kernel)) (fun _ h9 => h9) hf dX12_lay_8 ?_
  refine lv_sipush (v := 2000) hx hb dX12_lay_11 (by decide) ?_
  refine lv_icmp_ge (tgt := 46) hx hb dX12_lay_14 (by decide) (fun c_2 => absurd c_2 (nI_ge (a := tl) (b := 2000) (by omega) (by decide))) (fun c_2 => ?_)
  refine lv_aload_n hx hb dX12_lay_17 rfl (lv_at hl 1 rfl) ?_
  refine va_get (D := (dC, dI)) (ci := 14) (v := .ref h1) (C := RX12) (T := TX12) (N := 13) hx hb hts iw_X12_lay_X12 hown hK hP 0 rfl rfl 0 (by decide) (hts (.fieldLink RX12 9 "LiquidTongue" "tape" "[B") (by decide +kernel)) (fun _ h9 => h9) hm dX12_lay_18 ?_
  refine lv_aload_n hx hb dX12_lay_21 rfl (lv_at hl 1 rfl) ?_
  refine va_get (D := (dC, dI)) (ci := 14) (v := .int (nI tl)) (C := RX12) (T := TX12) (N := 13) hx hb hts iw_X12_lay_X12 hown hK hP 0 rfl rfl 1 (by decide) (hts (.fieldLink RX12 44 "LiquidTongue" "tapeLength" "I") (by decide +kernel)) (fun _ h9 => h9) hf dX12_lay_22 ?_
  refine lv_iload_n hx hb dX12_lay_25 rfl (lv_at hl 2 rfl) ?_
  refine lv_iload_n hx hb dX12_lay_26 rfl (lv_at hl 0 rfl) ?_
  refine lv_ishr hx hb dX12_lay_27 ?_
  refine lv_topi (fun z_1 ez_1 => ?_)
  obtain ⟨z_2, ez_2⟩ : ∃ y : Int32, y = (z_1).toInt8.toInt32 := ⟨_, rfl⟩
  refine lv_i2b (v := z_2) hx hb dX12_lay_28 ez_2.symm ?_
  refine va_bast hx hb hK hP hD hS 1 0 rfl rfl (vp_in_nI (by omega) (by decide)) dX12_lay_29 (fun H locs hP hD hS => ?_)
  rw [nI_clamp (n := tl) (by omega), show vp_nar .byte z_2 = zby p0 24 from by rw [ez_2, ez_1]; exact pk_vb _] at hP hD
  have hP : va_P (dC, dI) vwCl [(h0, .inr (14, fs)), (h1, .inl (cB, 2000, .inl (upd f (tl) (zby p0 24))))] H := hP
  have hD : va_D A [(h0, .inr (14, fs)), (h1, .inl (cB, 2000, .inl (upd f (tl) (zby p0 24))))] := hD
  refine lv_aload_n hx hb dX12_lay_30 rfl (lv_at hl 1 rfl) ?_
  refine lv_dup hx hb dX12_lay_31 rfl ?_
  refine va_get (D := (dC, dI)) (ci := 14) (v := .int (nI tl)) (C := RX12) (T := TX12) (N := 13) hx hb hts iw_X12_lay_X12 hown hK hP 0 rfl rfl 1 (by decide) (hts (.fieldLink RX12 44 "LiquidTongue" "tapeLength" "I") (by decide +kernel)) (fun _ h9 => h9) hf dX12_lay_32 ?_
  refine lv_iconst (v := 1) hx hb dX12_lay_35 (by decide) ?_
  refine lv_iadd hx hb dX12_lay_36 ?_
  refine lv_topi (fun z_3 ez_3 => ?_)
  have fz_3 : z_3 = nI (tl + 1) := ez_3.trans (nI_1 _)
  clear ez_3
  subst fz_3
  refine va_put (D := (dC, dI)) (ci := 14) (v := .int (nI (tl + 1))) (ty := .int) (C := RX12) (T := TX12) (N := 13) hx hb hts iw_X12_lay_X12 tyX12 tyX12_ok nmX12 hown hK hP hD hS 0 rfl rfl 1 (by decide) (hts (.fieldLink RX12 44 "LiquidTongue" "tapeLength" "I") (by decide +kernel)) (fun _ h9 => h9) rfl (by decide +kernel) rfl rfl (zs_lt hfl (by decide)) dX12_lay_37 (fun H locs hP hD hS => ?_)
  have hP : va_P (dC, dI) vwCl [(h0, .inr (14, (fs.set 1 (.int (nI (tl + 1)))))), (h1, .inl (cB, 2000, .inl (upd f (tl) (zby p0 24))))] H := hP
  have hD : va_D A [(h0, .inr (14, (fs.set 1 (.int (nI (tl + 1)))))), (h1, .inl (cB, 2000, .inl (upd f (tl) (zby p0 24))))] := hD
  refine lv_iinc (v := 16) (lv' := [(2, .int 16), (0, .ref h0), (1, .int p0)]) hx hb dX12_lay_40 hl (k := 0) rfl (by decide) (by decide) rfl (fun ls hl => ?_)
  refine lv_goto (tgt := 3) hx hb dX12_lay_43 (by decide) ?_
  refine lv_iload_n hx hb dX12_lay_3 rfl (lv_at hl 0 rfl) ?_
  refine lv_if_lt (tgt := 46) hx hb dX12_lay_4 (by decide) (fun c_3 => absurd c_3 (by decide)) (fun c_3 => ?_)
  refine lv_aload_n hx hb dX12_lay_7 rfl (lv_at hl 1 rfl) ?_
  refine va_get (D := (dC, dI)) (ci := 14) (v := .int (nI (tl + 1))) (C := RX12) (T := TX12) (N := 13) hx hb hts iw_X12_lay_X12 hown hK hP 0 rfl rfl 1 (by decide) (hts (.fieldLink RX12 44 "LiquidTongue" "tapeLength" "I") (by decide +kernel)) (fun _ h9 => h9) (zs_eq (zs_lt hfl (by decide))) dX12_lay_8 ?_
  refine lv_sipush (v := 2000) hx hb dX12_lay_11 (by decide) ?_
  refine lv_icmp_ge (tgt := 46) hx hb dX12_lay_14 (by decide) (fun c_4 => absurd c_4 (nI_ge (a := (tl + 1)) (b := 2000) (by omega) (by decide))) (fun c_4 => ?_)
  refine lv_aload_n hx hb dX12_lay_17 rfl (lv_at hl 1 rfl) ?_
  refine va_get (D := (dC, dI)) (ci := 14) (v := .ref h1) (C := RX12) (T := TX12) (N := 13) hx hb hts iw_X12_lay_X12 hown hK hP 0 rfl rfl 0 (by decide) (hts (.fieldLink RX12 9 "LiquidTongue" "tape" "[B") (by decide +kernel)) (fun _ h9 => h9) (zs_ne (by decide) hm) dX12_lay_18 ?_
  refine lv_aload_n hx hb dX12_lay_21 rfl (lv_at hl 1 rfl) ?_
  refine va_get (D := (dC, dI)) (ci := 14) (v := .int (nI (tl + 1))) (C := RX12) (T := TX12) (N := 13) hx hb hts iw_X12_lay_X12 hown hK hP 0 rfl rfl 1 (by decide) (hts (.fieldLink RX12 44 "LiquidTongue" "tapeLength" "I") (by decide +kernel)) (fun _ h9 => h9) (zs_eq (zs_lt hfl (by decide))) dX12_lay_22 ?_
  refine lv_iload_n hx hb dX12_lay_25 rfl (lv_at hl 2 rfl) ?_
  refine lv_iload_n hx hb dX12_lay_26 rfl (lv_at hl 0 rfl) ?_
  refine lv_ishr hx hb dX12_lay_27 ?_
  refine lv_topi (fun z_5 ez_5 => ?_)
  obtain ⟨z_6, ez_6⟩ : ∃ y : Int32, y = (z_5).toInt8.toInt32 := ⟨_, rfl⟩
  refine lv_i2b (v := z_6) hx hb dX12_lay_28 ez_6.symm ?_
  refine va_bast hx hb hK hP hD hS 1 0 rfl rfl (vp_in_nI (by omega) (by decide)) dX12_lay_29 (fun H locs hP hD hS => ?_)
  rw [nI_clamp (n := (tl + 1)) (by omega), show vp_nar .byte z_6 = zby p0 16 from by rw [ez_6, ez_5]; exact pk_vb _] at hP hD
  have hP : va_P (dC, dI) vwCl [(h0, .inr (14, (fs.set 1 (.int (nI (tl + 1)))))), (h1, .inl (cB, 2000, .inl (upd (upd f (tl) (zby p0 24)) ((tl + 1)) (zby p0 16))))] H := hP
  have hD : va_D A [(h0, .inr (14, (fs.set 1 (.int (nI (tl + 1)))))), (h1, .inl (cB, 2000, .inl (upd (upd f (tl) (zby p0 24)) ((tl + 1)) (zby p0 16))))] := hD
  refine lv_aload_n hx hb dX12_lay_30 rfl (lv_at hl 1 rfl) ?_
  refine lv_dup hx hb dX12_lay_31 rfl ?_
  refine va_get (D := (dC, dI)) (ci := 14) (v := .int (nI (tl + 1))) (C := RX12) (T := TX12) (N := 13) hx hb hts iw_X12_lay_X12 hown hK hP 0 rfl rfl 1 (by decide) (hts (.fieldLink RX12 44 "LiquidTongue" "tapeLength" "I") (by decide +kernel)) (fun _ h9 => h9) (zs_eq (zs_lt hfl (by decide))) dX12_lay_32 ?_
  refine lv_iconst (v := 1) hx hb dX12_lay_35 (by decide) ?_
  refine lv_iadd hx hb dX12_lay_36 ?_
  refine lv_topi (fun z_7 ez_7 => ?_)
  have fz_7 : z_7 = nI ((tl + 1) + 1) := ez_7.trans (nI_1 _)
  clear ez_7
  subst fz_7
  refine va_put (D := (dC, dI)) (ci := 14) (v := .int (nI ((tl + 1) + 1))) (ty := .int) (C := RX12) (T := TX12) (N := 13) hx hb hts iw_X12_lay_X12 tyX12 tyX12_ok nmX12 hown hK hP hD hS 0 rfl rfl 1 (by decide) (hts (.fieldLink RX12 44 "LiquidTongue" "tapeLength" "I") (by decide +kernel)) (fun _ h9 => h9) rfl (by decide +kernel) rfl rfl (zs_lt (zs_len hfl) (by decide)) dX12_lay_37 (fun H locs hP hD hS => ?_)
  rw [List.set_set] at hP hD
  have hP : va_P (dC, dI) vwCl [(h0, .inr (14, (fs.set 1 (.int (nI ((tl + 1) + 1)))))), (h1, .inl (cB, 2000, .inl (upd (upd f (tl) (zby p0 24)) ((tl + 1)) (zby p0 16))))] H := hP
  have hD : va_D A [(h0, .inr (14, (fs.set 1 (.int (nI ((tl + 1) + 1)))))), (h1, .inl (cB, 2000, .inl (upd (upd f (tl) (zby p0 24)) ((tl + 1)) (zby p0 16))))] := hD
  refine lv_iinc (v := 8) (lv' := [(2, .int 8), (0, .ref h0), (1, .int p0)]) hx hb dX12_lay_40 hl (k := 0) rfl (by decide) (by decide) rfl (fun ls hl => ?_)
  refine lv_goto (tgt := 3) hx hb dX12_lay_43 (by decide) ?_
  refine lv_iload_n hx hb dX12_lay_3 rfl (lv_at hl 0 rfl) ?_
  refine lv_if_lt (tgt := 46) hx hb dX12_lay_4 (by decide) (fun c_5 => absurd c_5 (by decide)) (fun c_5 => ?_)
  refine lv_aload_n hx hb dX12_lay_7 rfl (lv_at hl 1 rfl) ?_
  refine va_get (D := (dC, dI)) (ci := 14) (v := .int (nI ((tl + 1) + 1))) (C := RX12) (T := TX12) (N := 13) hx hb hts iw_X12_lay_X12 hown hK hP 0 rfl rfl 1 (by decide) (hts (.fieldLink RX12 44 "LiquidTongue" "tapeLength" "I") (by decide +kernel)) (fun _ h9 => h9) (zs_eq (zs_lt hfl (by decide))) dX12_lay_8 ?_
  refine lv_sipush (v := 2000) hx hb dX12_lay_11 (by decide) ?_
  refine lv_icmp_ge (tgt := 46) hx hb dX12_lay_14 (by decide) (fun c_6 => absurd c_6 (nI_ge (a := ((tl + 1) + 1)) (b := 2000) (by omega) (by decide))) (fun c_6 => ?_)
  refine lv_aload_n hx hb dX12_lay_17 rfl (lv_at hl 1 rfl) ?_
  refine va_get (D := (dC, dI)) (ci := 14) (v := .ref h1) (C := RX12) (T := TX12) (N := 13) hx hb hts iw_X12_lay_X12 hown hK hP 0 rfl rfl 0 (by decide) (hts (.fieldLink RX12 9 "LiquidTongue" "tape" "[B") (by decide +kernel)) (fun _ h9 => h9) (zs_ne (by decide) hm) dX12_lay_18 ?_
  refine lv_aload_n hx hb dX12_lay_21 rfl (lv_at hl 1 rfl) ?_
  refine va_get (D := (dC, dI)) (ci := 14) (v := .int (nI ((tl + 1) + 1))) (C := RX12) (T := TX12) (N := 13) hx hb hts iw_X12_lay_X12 hown hK hP 0 rfl rfl 1 (by decide) (hts (.fieldLink RX12 44 "LiquidTongue" "tapeLength" "I") (by decide +kernel)) (fun _ h9 => h9) (zs_eq (zs_lt hfl (by decide))) dX12_lay_22 ?_
  refine lv_iload_n hx hb dX12_lay_25 rfl (lv_at hl 2 rfl) ?_
  refine lv_iload_n hx hb dX12_lay_26 rfl (lv_at hl 0 rfl) ?_
  refine lv_ishr hx hb dX12_lay_27 ?_
  refine lv_topi (fun z_9 ez_9 => ?_)
  obtain ⟨z_10, ez_10⟩ : ∃ y : Int32, y = (z_9).toInt8.toInt32 := ⟨_, rfl⟩
  refine lv_i2b (v := z_10) hx hb dX12_lay_28 ez_10.symm ?_
  refine va_bast hx hb hK hP hD hS 1 0 rfl rfl (vp_in_nI (by omega) (by decide)) dX12_lay_29 (fun H locs hP hD hS => ?_)
  rw [nI_clamp (n := ((tl + 1) + 1)) (by omega), show vp_nar .byte z_10 = zby p0 8 from by rw [ez_10, ez_9]; exact pk_vb _] at hP hD
  have hP : va_P (dC, dI) vwCl [(h0, .inr (14, (fs.set 1 (.int (nI ((tl + 1) + 1)))))), (h1, .inl (cB, 2000, .inl (upd (upd (upd f (tl) (zby p0 24)) ((tl + 1)) (zby p0 16)) (((tl + 1) + 1)) (zby p0 8))))] H := hP
  have hD : va_D A [(h0, .inr (14, (fs.set 1 (.int (nI ((tl + 1) + 1)))))), (h1, .inl (cB, 2000, .inl (upd (upd (upd f (tl) (zby p0 24)) ((tl + 1)) (zby p0 16)) (((tl + 1) + 1)) (zby p0 8))))] := hD
  refine lv_aload_n hx hb dX12_lay_30 rfl (lv_at hl 1 rfl) ?_
  refine lv_dup hx hb dX12_lay_31 rfl ?_
  refine va_get (D := (dC, dI)) (ci := 14) (v := .int (nI ((tl + 1) + 1))) (C := RX12) (T := TX12) (N := 13) hx hb hts iw_X12_lay_X12 hown hK hP 0 rfl rfl 1 (by decide) (hts (.fieldLink RX12 44 "LiquidTongue" "tapeLength" "I") (by decide +kernel)) (fun _ h9 => h9) (zs_eq (zs_lt hfl (by decide))) dX12_lay_32 ?_
  refine lv_iconst (v := 1) hx hb dX12_lay_35 (by decide) ?_
  refine lv_iadd hx hb dX12_lay_36 ?_
  refine lv_topi (fun z_11 ez_11 => ?_)
  have fz_11 : z_11 = nI (((tl + 1) + 1) + 1) := ez_11.trans (nI_1 _)
  clear ez_11
  subst fz_11
  refine va_put (D := (dC, dI)) (ci := 14) (v := .int (nI (((tl + 1) + 1) + 1))) (ty := .int) (C := RX12) (T := TX12) (N := 13) hx hb hts iw_X12_lay_X12 tyX12 tyX12_ok nmX12 hown hK hP hD hS 0 rfl rfl 1 (by decide) (hts (.fieldLink RX12 44 "LiquidTongue" "tapeLength" "I") (by decide +kernel)) (fun _ h9 => h9) rfl (by decide +kernel) rfl rfl (zs_lt (zs_len hfl) (by decide)) dX12_lay_37 (fun H locs hP hD hS => ?_)
  rw [List.set_set] at hP hD
  have hP : va_P (dC, dI) vwCl [(h0, .inr (14, (fs.set 1 (.int (nI (((tl + 1) + 1) + 1)))))), (h1, .inl (cB, 2000, .inl (upd (upd (upd f (tl) (zby p0 24)) ((tl + 1)) (zby p0 16)) (((tl + 1) + 1)) (zby p0 8))))] H := hP
  have hD : va_D A [(h0, .inr (14, (fs.set 1 (.int (nI (((tl + 1) + 1) + 1)))))), (h1, .inl (cB, 2000, .inl (upd (upd (upd f (tl) (zby p0 24)) ((tl + 1)) (zby p0 16)) (((tl + 1) + 1)) (zby p0 8))))] := hD
  refine lv_iinc (v := 0) (lv' := [(2, .int 0), (0, .ref h0), (1, .int p0)]) hx hb dX12_lay_40 hl (k := 0) rfl (by decide) (by decide) rfl (fun ls hl => ?_)
  refine lv_goto (tgt := 3) hx hb dX12_lay_43 (by decide) ?_
  refine lv_iload_n hx hb dX12_lay_3 rfl (lv_at hl 0 rfl) ?_
  refine lv_if_lt (tgt := 46) hx hb dX12_lay_4 (by decide) (fun c_7 => absurd c_7 (by decide)) (fun c_7 => ?_)
  refine lv_aload_n hx hb dX12_lay_7 rfl (lv_at hl 1 rfl) ?_
  refine va_get (D := (dC, dI)) (ci := 14) (v := .int (nI (((tl + 1) + 1) + 1))) (C := RX12) (T := TX12) (N := 13) hx hb hts iw_X12_lay_X12 hown hK hP 0 rfl rfl 1 (by decide) (hts (.fieldLink RX12 44 "LiquidTongue" "tapeLength" "I") (by decide +kernel)) (fun _ h9 => h9) (zs_eq (zs_lt hfl (by decide))) dX12_lay_8 ?_
  refine lv_sipush (v := 2000) hx hb dX12_lay_11 (by decide) ?_
  refine lv_icmp_ge (tgt := 46) hx hb dX12_lay_14 (by decide) (fun c_8 => absurd c_8 (nI_ge (a := (((tl + 1) + 1) + 1)) (b := 2000) (by omega) (by decide))) (fun c_8 => ?_)
  refine lv_aload_n hx hb dX12_lay_17 rfl (lv_at hl 1 rfl) ?_
  refine va_get (D := (dC, dI)) (ci := 14) (v := .ref h1) (C := RX12) (T := TX12) (N := 13) hx hb hts iw_X12_lay_X12 hown hK hP 0 rfl rfl 0 (by decide) (hts (.fieldLink RX12 9 "LiquidTongue" "tape" "[B") (by decide +kernel)) (fun _ h9 => h9) (zs_ne (by decide) hm) dX12_lay_18 ?_
  refine lv_aload_n hx hb dX12_lay_21 rfl (lv_at hl 1 rfl) ?_
  refine va_get (D := (dC, dI)) (ci := 14) (v := .int (nI (((tl + 1) + 1) + 1))) (C := RX12) (T := TX12) (N := 13) hx hb hts iw_X12_lay_X12 hown hK hP 0 rfl rfl 1 (by decide) (hts (.fieldLink RX12 44 "LiquidTongue" "tapeLength" "I") (by decide +kernel)) (fun _ h9 => h9) (zs_eq (zs_lt hfl (by decide))) dX12_lay_22 ?_
  refine lv_iload_n hx hb dX12_lay_25 rfl (lv_at hl 2 rfl) ?_
  refine lv_iload_n hx hb dX12_lay_26 rfl (lv_at hl 0 rfl) ?_
  refine lv_ishr hx hb dX12_lay_27 ?_
  refine lv_topi (fun z_13 ez_13 => ?_)
  obtain ⟨z_14, ez_14⟩ : ∃ y : Int32, y = (z_13).toInt8.toInt32 := ⟨_, rfl⟩
  refine lv_i2b (v := z_14) hx hb dX12_lay_28 ez_14.symm ?_
  refine va_bast hx hb hK hP hD hS 1 0 rfl rfl (vp_in_nI (by omega) (by decide)) dX12_lay_29 (fun H locs hP hD hS => ?_)
  rw [nI_clamp (n := (((tl + 1) + 1) + 1)) (by omega), show vp_nar .byte z_14 = zby p0 0 from by rw [ez_14, ez_13]; exact pk_vb _] at hP hD
  have hP : va_P (dC, dI) vwCl [(h0, .inr (14, (fs.set 1 (.int (nI (((tl + 1) + 1) + 1)))))), (h1, .inl (cB, 2000, .inl (upd (upd (upd (upd f (tl) (zby p0 24)) ((tl + 1)) (zby p0 16)) (((tl + 1) + 1)) (zby p0 8)) ((((tl + 1) + 1) + 1)) (zby p0 0))))] H := hP
  have hD : va_D A [(h0, .inr (14, (fs.set 1 (.int (nI (((tl + 1) + 1) + 1)))))), (h1, .inl (cB, 2000, .inl (upd (upd (upd (upd f (tl) (zby p0 24)) ((tl + 1)) (zby p0 16)) (((tl + 1) + 1)) (zby p0 8)) ((((tl + 1) + 1) + 1)) (zby p0 0))))] := hD
  refine lv_aload_n hx hb dX12_lay_30 rfl (lv_at hl 1 rfl) ?_
  refine lv_dup hx hb dX12_lay_31 rfl ?_
  refine va_get (D := (dC, dI)) (ci := 14) (v := .int (nI (((tl + 1) + 1) + 1))) (C := RX12) (T := TX12) (N := 13) hx hb hts iw_X12_lay_X12 hown hK hP 0 rfl rfl 1 (by decide) (hts (.fieldLink RX12 44 "LiquidTongue" "tapeLength" "I") (by decide +kernel)) (fun _ h9 => h9) (zs_eq (zs_lt hfl (by decide))) dX12_lay_32 ?_
  refine lv_iconst (v := 1) hx hb dX12_lay_35 (by decide) ?_
  refine lv_iadd hx hb dX12_lay_36 ?_
  refine lv_topi (fun z_15 ez_15 => ?_)
  have fz_15 : z_15 = nI ((((tl + 1) + 1) + 1) + 1) := ez_15.trans (nI_1 _)
  clear ez_15
  subst fz_15
  refine va_put (D := (dC, dI)) (ci := 14) (v := .int (nI ((((tl + 1) + 1) + 1) + 1))) (ty := .int) (C := RX12) (T := TX12) (N := 13) hx hb hts iw_X12_lay_X12 tyX12 tyX12_ok nmX12 hown hK hP hD hS 0 rfl rfl 1 (by decide) (hts (.fieldLink RX12 44 "LiquidTongue" "tapeLength" "I") (by decide +kernel)) (fun _ h9 => h9) rfl (by decide +kernel) rfl rfl (zs_lt (zs_len hfl) (by decide)) dX12_lay_37 (fun H locs hP hD hS => ?_)
  rw [List.set_set] at hP hD
  have hP : va_P (dC, dI) vwCl [(h0, .inr (14, (fs.set 1 (.int (nI ((((tl + 1) + 1) + 1) + 1)))))), (h1, .inl (cB, 2000, .inl (upd (upd (upd (upd f (tl) (zby p0 24)) ((tl + 1)) (zby p0 16)) (((tl + 1) + 1)) (zby p0 8)) ((((tl + 1) + 1) + 1)) (zby p0 0))))] H := hP
  have hD : va_D A [(h0, .inr (14, (fs.set 1 (.int (nI ((((tl + 1) + 1) + 1) + 1)))))), (h1, .inl (cB, 2000, .inl (upd (upd (upd (upd f (tl) (zby p0 24)) ((tl + 1)) (zby p0 16)) (((tl + 1) + 1)) (zby p0 8)) ((((tl + 1) + 1) + 1)) (zby p0 0))))] := hD
  refine lv_iinc (v := (-8)) (lv' := [(2, .int (-8)), (0, .ref h0), (1, .int p0)]) hx hb dX12_lay_40 hl (k := 0) rfl (by decide) (by decide) rfl (fun ls hl => ?_)
  refine lv_goto (tgt := 3) hx hb dX12_lay_43 (by decide) ?_
  refine lv_iload_n hx hb dX12_lay_3 rfl (lv_at hl 0 rfl) ?_
  refine lv_if_lt (tgt := 46) hx hb dX12_lay_4 (by decide) (fun c_9 => ?_) (fun c_9 => absurd (by decide) c_9)
  have hP9 := hP.sub (ws' := [(h0, .inr (14, (fs.set 1 (.int (nI ((((tl + 1) + 1) + 1) + 1)))))), (h1, .inl (cB, 2000, .inl (upd (upd (upd (upd f (tl) (zby p0 24)) ((tl + 1)) (zby p0 16)) (((tl + 1) + 1)) (zby p0 8)) ((((tl + 1) + 1) + 1)) (zby p0 0))))]) [0, 1] rfl
  have hD9 := hD.sub (ws' := [(h0, .inr (14, (fs.set 1 (.int (nI ((((tl + 1) + 1) + 1) + 1)))))), (h1, .inl (cB, 2000, .inl (upd (upd (upd (upd f (tl) (zby p0 24)) ((tl + 1)) (zby p0 16)) (((tl + 1) + 1)) (zby p0 8)) ((((tl + 1) + 1) + 1)) (zby p0 0))))]) [0, 1] (by decide) rfl
  have hK9 := hK.sub (tys' := [(cB, .byte)]) [0] rfl
  exact W.vret hx hb hr (fun t ht hW => ⟨⟨((fs.set 1 (.int (nI ((((tl + 1) + 1) + 1) + 1)))), (upd (upd (upd (upd f (tl) (zby p0 24)) ((tl + 1)) (zby p0 16)) (((tl + 1) + 1)) (zby p0 8)) ((((tl + 1) + 1) + 1)) (zby p0 0))), rfl, rfl, (zB_mk (by rw [ht]; exact hP9) (va_K.moved hW.alike hK9) hD9)⟩, hS.F ht⟩) hS.2.2 dX12_lay_46
theorem iw_X12_feed_X12 : ∀ w ∈ wsX120, w ∈ wsX12_feed := fun w h => List.mem_cons_of_mem _ (List.mem_append_right _ h)
set_option maxHeartbeats 4000000 in
set_option maxRecDepth 100000 in
/-- feed(..), taken -/
theorem c_X12_feed_ok (l : Launch) (dC : Nat → ClassId) (dI : Nat → Nat → Nat) (sz : Nat) (h0 h1 : Nat) (cB : ClassId) (fs : List Value) (f : Nat → Int32) (tl : Nat) (p0 p1 p2 p3 p4 : Int32) (hfl : fs.length = 13) (hf : fs[1]? = some (.int (nI tl))) (hm : fs[0]? = some (.ref h1)) (htl : tl + 20 ≤ 2000) : Met l yX12_feed wsX12_feed ({ frames := 1, cells := 0, slots := 0, locals := 22 }) (zPc dC dI sz [.ref h0, .int p0, .int p1, .int p2, .int p3, .int p4] [(h0, .inr (14, fs)), (h1, .inl (cB, 2000, .inl f))] [(cB, .byte)]) (va_Qi (fun (r : Int32) (u : List Value × (Nat → Int32)) => r = 1 ∧ u = (fs.set 1 (.int (nI (tl + 20))), z20 f tl p0 p1 p2 p3 p4)) (zB dC dI (fun _ => [(cB, .byte)]) (fun u : List Value × (Nat → Int32) => [(h0, .inr (14, u.1)), (h1, .inl (cB, 2000, .inl u.2))]) (va_A [(h0, .inr (14, fs)), (h1, .inl (cB, 2000, .inl f))] sz)) (va_A [(h0, .inr (14, fs)), (h1, .inl (cB, 2000, .inl f))] sz)) 0 0 (va_A [(h0, .inr (14, fs)), (h1, .inl (cB, 2000, .inl f))] sz) := by
  refine Met.ofW (cc := cX12_feed) (maxL := 6) (ret := (some .boolean)) (by decide) rfl ?_
  intro p e s m args below meth c s₁ B hml hv
  obtain ⟨rfl, hsz, hP, hK, hD0⟩ := hv
  have hx := B.exec
  have hb := B.bytes
  have hr := B.returns
  have hts := atoms_spec (ws := wsX12_feed) B.pre
  have hown : s.vm.findClass RX12 = some m.cls := findClass_of_methodNamed B.named
  have hlocks := B.notSynchronized
  subst hsz
  have hD := hD0.self (sz := s.heap.size)
  generalize hAe : va_A [(h0, .inr (14, fs)), (h1, .inl (cB, 2000, .inl f))] s.heap.size = A at hD ⊢
  have hA : ∀ q : Nat, s.heap.size ≤ q → A q := fun q h => by rw [← hAe]; exact Or.inr h
  have hS : va_S A s.heap s.heap [] := va_S.rf
  have hP : va_P (dC, dI) vwCl [(h0, .inr (14, fs)), (h1, .inl (cB, 2000, .inl f))] s.heap := hP
  have hl := lv_entry ([.ref h0, .int p0, .int p1, .int p2, .int p3, .int p4]) (n := 6) (Nat.le_of_ble_eq_true rfl)
  rw [lg_entry_eq]
  generalize (lg_sl ([.ref h0, .int p0, .int p1, .int p2, .int p3, .int p4]) ++ List.replicate (6 - (lg_sl ([.ref h0, .int p0, .int p1, .int p2, .int p3, .int p4])).length) Slot.unset).toArray = ls at hl ⊢
  have hl : lv_has ls 6 [(0, .ref h0), (1, .int p0), (2, .int p1), (3, .int p2), (4, .int p3), (5, .int p4)] := hl
  refine lv_aload_n hx hb dX12_feed_0 rfl (lv_at hl 0 rfl) ?_
  refine va_get (D := (dC, dI)) (ci := 14) (v := .int (nI tl)) (C := RX12) (T := TX12) (N := 13) hx hb hts iw_X12_feed_X12 hown hK hP 0 rfl rfl 1 (by decide) (hts (.fieldLink RX12 44 "LiquidTongue" "tapeLength" "I") (by decide +kernel)) (fun _ h9 => h9) hf dX12_feed_1 ?_
  refine lv_sipush (v := 1980) hx hb dX12_feed_4 (by decide) ?_
  refine lv_icmp_le (tgt := 12) hx hb dX12_feed_7 (by decide) (fun c_1 => ?_) (fun c_1 => absurd (nI_le (a := tl) (b := 1980) (by omega) (by decide)) c_1)
  refine lv_aload_n hx hb dX12_feed_12 rfl (lv_at hl 0 rfl) ?_
  refine lv_iload_n hx hb dX12_feed_13 rfl (lv_at hl 1 rfl) ?_
  have hPc := hP.sub (ws' := [(h0, .inr (14, fs)), (h1, .inl (cB, 2000, .inl f))]) [0, 1] rfl
  have hDc := hD.sub (ws' := [(h0, .inr (14, fs)), (h1, .inl (cB, 2000, .inl f))]) [0, 1] (by decide) rfl
  have hKc := hK.sub (tys' := [(cB, .byte)]) [0] rfl
  have hFc := va_free (wc := [(h0, .inr (14, fs)), (h1, .inl (cB, 2000, .inl f))]) hD hS hA [0, 1] rfl
  refine va_callv (va_runV (As := [.int p0]) (rest := []) ⟨hx, hb, hml, hown, hts⟩ (c_X12_lay l dC dI s.heap.size h0 h1 cB fs f tl p0 hfl hf hm (by omega)) (cwV 1 hts gX12_feed_X12_lay rfl rfl rfl (by decide +kernel) ⟨Nat.le_of_ble_eq_true rfl, Nat.le_of_ble_eq_true rfl⟩) ⟨zPc_blind, va_recv hKc hPc (ci := 14) (q0 := 0) rfl rfl, fun U hU hW => zPc_at hPc hKc hDc hU hW⟩ rfl rfl hl.1 rfl (lv_room (Nat.le_of_ble_eq_true rfl)) dX12_feed_14 ⟨Nat.le_of_ble_eq_true rfl, Nat.le_of_ble_eq_true rfl⟩) hS (fun q _ h => hFc q h) hFc (fun u t H1 locs ht hvm hw hB hz1 hk1 hS => ?_)
  obtain ⟨hP1, hK1, hD1⟩ := hB
  obtain rfl := hw
  dsimp only at hP1 hD1
  rw [ht] at hP1
  have hK1 := va_K.moved hvm.symm hK1
  obtain ⟨hP, hD⟩ := va_join (wr := []) (w1 := [(h0, .inr (14, (fs.set 1 (.int (nI (tl + 4)))))), (h1, .inl (cB, 2000, .inl (z4 f tl p0)))]) hP hD [0, 1] [] rfl rfl (by decide) (by decide) hk1 hFc hP1 hD1
  have hK := (hK.sub (tys' := [(cB, .byte)]) [0] rfl).app hK1
  generalize H1 = H at hP hS ⊢
  have hP : va_P (dC, dI) vwCl [(h0, .inr (14, (fs.set 1 (.int (nI (tl + 4)))))), (h1, .inl (cB, 2000, .inl (z4 f tl p0)))] H := hP
  have hD : va_D A [(h0, .inr (14, (fs.set 1 (.int (nI (tl + 4)))))), (h1, .inl (cB, 2000, .inl (z4 f tl p0)))] := hD
  have hK : va_K (dC, dI) vwCl [(cB, .byte), (cB, .byte)] s := hK
  refine lv_aload_n hx hb dX12_feed_17 rfl (lv_at hl 0 rfl) ?_
  refine lv_iload_n hx hb dX12_feed_18 rfl (lv_at hl 2 rfl) ?_
  have hPc := hP.sub (ws' := [(h0, .inr (14, (fs.set 1 (.int (nI (tl + 4)))))), (h1, .inl (cB, 2000, .inl (z4 f tl p0)))]) [0, 1] rfl
  have hDc := hD.sub (ws' := [(h0, .inr (14, (fs.set 1 (.int (nI (tl + 4)))))), (h1, .inl (cB, 2000, .inl (z4 f tl p0)))]) [0, 1] (by decide) rfl
  have hKc := hK.sub (tys' := [(cB, .byte)]) [0] rfl
  have hFc := va_free (wc := [(h0, .inr (14, (fs.set 1 (.int (nI (tl + 4)))))), (h1, .inl (cB, 2000, .inl (z4 f tl p0)))]) hD hS hA [0, 1] rfl
  refine va_callv (va_runV (As := [.int p1]) (rest := []) ⟨hx, hb, hml, hown, hts⟩ (c_X12_lay l dC dI H.size h0 h1 cB (fs.set 1 (.int (nI (tl + 4)))) (z4 f tl p0) (tl + 4) p1 (zs_len hfl) (zs_eq (zs_lt hfl (by decide))) (zs_ne (by decide) hm) (by omega)) (cwV 1 hts gX12_feed_X12_lay rfl rfl rfl (by decide +kernel) ⟨Nat.le_of_ble_eq_true rfl, Nat.le_of_ble_eq_true rfl⟩) ⟨zPc_blind, va_recv hKc hPc (ci := 14) (q0 := 0) rfl rfl, fun U hU hW => zPc_at hPc hKc hDc hU hW⟩ rfl rfl hl.1 rfl (lv_room (Nat.le_of_ble_eq_true rfl)) dX12_feed_19 ⟨Nat.le_of_ble_eq_true rfl, Nat.le_of_ble_eq_true rfl⟩) hS (fun q _ h => hFc q h) hFc (fun u t H1 locs ht hvm hw hB hz1 hk1 hS => ?_)
  obtain ⟨hP1, hK1, hD1⟩ := hB
  obtain rfl := hw
  dsimp only at hP1 hD1
  rw [List.set_set] at hP1 hD1
  rw [ht] at hP1
  have hK1 := va_K.moved hvm.symm hK1
  obtain ⟨hP, hD⟩ := va_join (wr := []) (w1 := [(h0, .inr (14, (fs.set 1 (.int (nI (tl + 8)))))), (h1, .inl (cB, 2000, .inl (z4 (z4 f tl p0) (tl + 4) p1)))]) hP hD [0, 1] [] rfl rfl (by decide) (by decide) hk1 hFc hP1 hD1
  have hK := (hK.sub (tys' := [(cB, .byte), (cB, .byte)]) [0, 1] rfl).app hK1
  generalize H1 = H at hP hS ⊢
  have hP : va_P (dC, dI) vwCl [(h0, .inr (14, (fs.set 1 (.int (nI (tl + 8)))))), (h1, .inl (cB, 2000, .inl (z4 (z4 f tl p0) (tl + 4) p1)))] H := hP
  have hD : va_D A [(h0, .inr (14, (fs.set 1 (.int (nI (tl + 8)))))), (h1, .inl (cB, 2000, .inl (z4 (z4 f tl p0) (tl + 4) p1)))] := hD
  have hK : va_K (dC, dI) vwCl [(cB, .byte), (cB, .byte), (cB, .byte)] s := hK
  refine lv_aload_n hx hb dX12_feed_22 rfl (lv_at hl 0 rfl) ?_
  refine lv_iload_n hx hb dX12_feed_23 rfl (lv_at hl 3 rfl) ?_
  have hPc := hP.sub (ws' := [(h0, .inr (14, (fs.set 1 (.int (nI (tl + 8)))))), (h1, .inl (cB, 2000, .inl (z4 (z4 f tl p0) (tl + 4) p1)))]) [0, 1] rfl
  have hDc := hD.sub (ws' := [(h0, .inr (14, (fs.set 1 (.int (nI (tl + 8)))))), (h1, .inl (cB, 2000, .inl (z4 (z4 f tl p0) (tl + 4) p1)))]) [0, 1] (by decide) rfl
  have hKc := hK.sub (tys' := [(cB, .byte)]) [0] rfl
  have hFc := va_free (wc := [(h0, .inr (14, (fs.set 1 (.int (nI (tl + 8)))))), (h1, .inl (cB, 2000, .inl (z4 (z4 f tl p0) (tl + 4) p1)))]) hD hS hA [0, 1] rfl
  refine va_callv (va_runV (As := [.int p2]) (rest := []) ⟨hx, hb, hml, hown, hts⟩ (c_X12_lay l dC dI H.size h0 h1 cB (fs.set 1 (.int (nI (tl + 8)))) (z4 (z4 f tl p0) (tl + 4) p1) (tl + 8) p2 (zs_len hfl) (zs_eq (zs_lt hfl (by decide))) (zs_ne (by decide) hm) (by omega)) (cwV 1 hts gX12_feed_X12_lay rfl rfl rfl (by decide +kernel) ⟨Nat.le_of_ble_eq_true rfl, Nat.le_of_ble_eq_true rfl⟩) ⟨zPc_blind, va_recv hKc hPc (ci := 14) (q0 := 0) rfl rfl, fun U hU hW => zPc_at hPc hKc hDc hU hW⟩ rfl rfl hl.1 rfl (lv_room (Nat.le_of_ble_eq_true rfl)) dX12_feed_24 ⟨Nat.le_of_ble_eq_true rfl, Nat.le_of_ble_eq_true rfl⟩) hS (fun q _ h => hFc q h) hFc (fun u t H1 locs ht hvm hw hB hz1 hk1 hS => ?_)
  obtain ⟨hP1, hK1, hD1⟩ := hB
  obtain rfl := hw
  dsimp only at hP1 hD1
  rw [List.set_set] at hP1 hD1
  rw [ht] at hP1
  have hK1 := va_K.moved hvm.symm hK1
  obtain ⟨hP, hD⟩ := va_join (wr := []) (w1 := [(h0, .inr (14, (fs.set 1 (.int (nI (tl + 12)))))), (h1, .inl (cB, 2000, .inl (z4 (z4 (z4 f tl p0) (tl + 4) p1) (tl + 8) p2)))]) hP hD [0, 1] [] rfl rfl (by decide) (by decide) hk1 hFc hP1 hD1
  have hK := (hK.sub (tys' := [(cB, .byte), (cB, .byte), (cB, .byte)]) [0, 1, 2] rfl).app hK1
  generalize H1 = H at hP hS ⊢
  have hP : va_P (dC, dI) vwCl [(h0, .inr (14, (fs.set 1 (.int (nI (tl + 12)))))), (h1, .inl (cB, 2000, .inl (z4 (z4 (z4 f tl p0) (tl + 4) p1) (tl + 8) p2)))] H := hP
  have hD : va_D A [(h0, .inr (14, (fs.set 1 (.int (nI (tl + 12)))))), (h1, .inl (cB, 2000, .inl (z4 (z4 (z4 f tl p0) (tl + 4) p1) (tl + 8) p2)))] := hD
  have hK : va_K (dC, dI) vwCl [(cB, .byte), (cB, .byte), (cB, .byte), (cB, .byte)] s := hK
  refine lv_aload_n hx hb dX12_feed_27 rfl (lv_at hl 0 rfl) ?_
  refine lv_iload hx hb dX12_feed_28 (lv_at hl 4 rfl) ?_
  have hPc := hP.sub (ws' := [(h0, .inr (14, (fs.set 1 (.int (nI (tl + 12)))))), (h1, .inl (cB, 2000, .inl (z4 (z4 (z4 f tl p0) (tl + 4) p1) (tl + 8) p2)))]) [0, 1] rfl
  have hDc := hD.sub (ws' := [(h0, .inr (14, (fs.set 1 (.int (nI (tl + 12)))))), (h1, .inl (cB, 2000, .inl (z4 (z4 (z4 f tl p0) (tl + 4) p1) (tl + 8) p2)))]) [0, 1] (by decide) rfl
  have hKc := hK.sub (tys' := [(cB, .byte)]) [0] rfl
  have hFc := va_free (wc := [(h0, .inr (14, (fs.set 1 (.int (nI (tl + 12)))))), (h1, .inl (cB, 2000, .inl (z4 (z4 (z4 f tl p0) (tl + 4) p1) (tl + 8) p2)))]) hD hS hA [0, 1] rfl
  refine va_callv (va_runV (As := [.int p3]) (rest := []) ⟨hx, hb, hml, hown, hts⟩ (c_X12_lay l dC dI H.size h0 h1 cB (fs.set 1 (.int (nI (tl + 12)))) (z4 (z4 (z4 f tl p0) (tl + 4) p1) (tl + 8) p2) (tl + 12) p3 (zs_len hfl) (zs_eq (zs_lt hfl (by decide))) (zs_ne (by decide) hm) (by omega)) (cwV 1 hts gX12_feed_X12_lay rfl rfl rfl (by decide +kernel) ⟨Nat.le_of_ble_eq_true rfl, Nat.le_of_ble_eq_true rfl⟩) ⟨zPc_blind, va_recv hKc hPc (ci := 14) (q0 := 0) rfl rfl, fun U hU hW => zPc_at hPc hKc hDc hU hW⟩ rfl rfl hl.1 rfl (lv_room (Nat.le_of_ble_eq_true rfl)) dX12_feed_30 ⟨Nat.le_of_ble_eq_true rfl, Nat.le_of_ble_eq_true rfl⟩) hS (fun q _ h => hFc q h) hFc (fun u t H1 locs ht hvm hw hB hz1 hk1 hS => ?_)
  obtain ⟨hP1, hK1, hD1⟩ := hB
  obtain rfl := hw
  dsimp only at hP1 hD1
  rw [List.set_set] at hP1 hD1
  rw [ht] at hP1
  have hK1 := va_K.moved hvm.symm hK1
  obtain ⟨hP, hD⟩ := va_join (wr := []) (w1 := [(h0, .inr (14, (fs.set 1 (.int (nI (tl + 16)))))), (h1, .inl (cB, 2000, .inl (z4 (z4 (z4 (z4 f tl p0) (tl + 4) p1) (tl + 8) p2) (tl + 12) p3)))]) hP hD [0, 1] [] rfl rfl (by decide) (by decide) hk1 hFc hP1 hD1
  have hK := (hK.sub (tys' := [(cB, .byte), (cB, .byte), (cB, .byte), (cB, .byte)]) [0, 1, 2, 3] rfl).app hK1
  generalize H1 = H at hP hS ⊢
  have hP : va_P (dC, dI) vwCl [(h0, .inr (14, (fs.set 1 (.int (nI (tl + 16)))))), (h1, .inl (cB, 2000, .inl (z4 (z4 (z4 (z4 f tl p0) (tl + 4) p1) (tl + 8) p2) (tl + 12) p3)))] H := hP
  have hD : va_D A [(h0, .inr (14, (fs.set 1 (.int (nI (tl + 16)))))), (h1, .inl (cB, 2000, .inl (z4 (z4 (z4 (z4 f tl p0) (tl + 4) p1) (tl + 8) p2) (tl + 12) p3)))] := hD
  have hK : va_K (dC, dI) vwCl [(cB, .byte), (cB, .byte), (cB, .byte), (cB, .byte), (cB, .byte)] s := hK
  refine lv_aload_n hx hb dX12_feed_33 rfl (lv_at hl 0 rfl) ?_
  refine lv_iload hx hb dX12_feed_34 (lv_at hl 5 rfl) ?_
  have hPc := hP.sub (ws' := [(h0, .inr (14, (fs.set 1 (.int (nI (tl + 16)))))), (h1, .inl (cB, 2000, .inl (z4 (z4 (z4 (z4 f tl p0) (tl + 4) p1) (tl + 8) p2) (tl + 12) p3)))]) [0, 1] rfl
  have hDc := hD.sub (ws' := [(h0, .inr (14, (fs.set 1 (.int (nI (tl + 16)))))), (h1, .inl (cB, 2000, .inl (z4 (z4 (z4 (z4 f tl p0) (tl + 4) p1) (tl + 8) p2) (tl + 12) p3)))]) [0, 1] (by decide) rfl
  have hKc := hK.sub (tys' := [(cB, .byte)]) [0] rfl
  have hFc := va_free (wc := [(h0, .inr (14, (fs.set 1 (.int (nI (tl + 16)))))), (h1, .inl (cB, 2000, .inl (z4 (z4 (z4 (z4 f tl p0) (tl + 4) p1) (tl + 8) p2) (tl + 12) p3)))]) hD hS hA [0, 1] rfl
  refine va_callv (va_runV (As := [.int p4]) (rest := []) ⟨hx, hb, hml, hown, hts⟩ (c_X12_lay l dC dI H.size h0 h1 cB (fs.set 1 (.int (nI (tl + 16)))) (z4 (z4 (z4 (z4 f tl p0) (tl + 4) p1) (tl + 8) p2) (tl + 12) p3) (tl + 16) p4 (zs_len hfl) (zs_eq (zs_lt hfl (by decide))) (zs_ne (by decide) hm) (by omega)) (cwV 1 hts gX12_feed_X12_lay rfl rfl rfl (by decide +kernel) ⟨Nat.le_of_ble_eq_true rfl, Nat.le_of_ble_eq_true rfl⟩) ⟨zPc_blind, va_recv hKc hPc (ci := 14) (q0 := 0) rfl rfl, fun U hU hW => zPc_at hPc hKc hDc hU hW⟩ rfl rfl hl.1 rfl (lv_room (Nat.le_of_ble_eq_true rfl)) dX12_feed_36 ⟨Nat.le_of_ble_eq_true rfl, Nat.le_of_ble_eq_true rfl⟩) hS (fun q _ h => hFc q h) hFc (fun u t H1 locs ht hvm hw hB hz1 hk1 hS => ?_)
  obtain ⟨hP1, hK1, hD1⟩ := hB
  obtain rfl := hw
  dsimp only at hP1 hD1
  rw [List.set_set] at hP1 hD1
  rw [ht] at hP1
  have hK1 := va_K.moved hvm.symm hK1
  obtain ⟨hP, hD⟩ := va_join (wr := []) (w1 := [(h0, .inr (14, (fs.set 1 (.int (nI (tl + 20)))))), (h1, .inl (cB, 2000, .inl (z4 (z4 (z4 (z4 (z4 f tl p0) (tl + 4) p1) (tl + 8) p2) (tl + 12) p3) (tl + 16) p4)))]) hP hD [0, 1] [] rfl rfl (by decide) (by decide) hk1 hFc hP1 hD1
  have hK := (hK.sub (tys' := [(cB, .byte), (cB, .byte), (cB, .byte), (cB, .byte), (cB, .byte)]) [0, 1, 2, 3, 4] rfl).app hK1
  generalize H1 = H at hP hS ⊢
  have hP : va_P (dC, dI) vwCl [(h0, .inr (14, (fs.set 1 (.int (nI (tl + 20)))))), (h1, .inl (cB, 2000, .inl (z4 (z4 (z4 (z4 (z4 f tl p0) (tl + 4) p1) (tl + 8) p2) (tl + 12) p3) (tl + 16) p4)))] H := hP
  have hD : va_D A [(h0, .inr (14, (fs.set 1 (.int (nI (tl + 20)))))), (h1, .inl (cB, 2000, .inl (z4 (z4 (z4 (z4 (z4 f tl p0) (tl + 4) p1) (tl + 8) p2) (tl + 12) p3) (tl + 16) p4)))] := hD
  have hK : va_K (dC, dI) vwCl [(cB, .byte), (cB, .byte), (cB, .byte), (cB, .byte), (cB, .byte), (cB, .byte)] s := hK
  refine lv_iconst (v := 1) hx hb dX12_feed_39 (by decide) ?_
  have hP9 := hP.sub (ws' := [(h0, .inr (14, (fs.set 1 (.int (nI (tl + 20)))))), (h1, .inl (cB, 2000, .inl (z4 (z4 (z4 (z4 (z4 f tl p0) (tl + 4) p1) (tl + 8) p2) (tl + 12) p3) (tl + 16) p4)))]) [0, 1] rfl
  have hD9 := hD.sub (ws' := [(h0, .inr (14, (fs.set 1 (.int (nI (tl + 20)))))), (h1, .inl (cB, 2000, .inl (z4 (z4 (z4 (z4 (z4 f tl p0) (tl + 4) p1) (tl + 8) p2) (tl + 12) p3) (tl + 16) p4)))]) [0, 1] (by decide) rfl
  have hK9 := hK.sub (tys' := [(cB, .byte)]) [0] rfl
  exact W.zret (v := 1) hx hb hr (by first | rfl | decide) (fun t ht hW => ⟨⟨1, ((fs.set 1 (.int (nI (tl + 20)))), (z4 (z4 (z4 (z4 (z4 f tl p0) (tl + 4) p1) (tl + 8) p2) (tl + 12) p3) (tl + 16) p4)), rfl, ⟨rfl, rfl⟩, (zB_mk (by rw [ht]; exact hP9) (va_K.moved hW.alike hK9) hD9)⟩, hS.F ht⟩) hS.2.2 dX12_feed_40
set_option maxHeartbeats 4000000 in
set_option maxRecDepth 100000 in
/-- feed(..), refused -/
theorem c_X12_feed_full (l : Launch) (dC : Nat → ClassId) (dI : Nat → Nat → Nat) (sz : Nat) (h0 h1 : Nat) (cB : ClassId) (fs : List Value) (f : Nat → Int32) (tl : Nat) (p0 p1 p2 p3 p4 : Int32) (hfl : fs.length = 13) (hf : fs[1]? = some (.int (nI tl))) (hm : fs[0]? = some (.ref h1)) (htl : 1980 < tl ∧ tl ≤ 2000) : Met l yX12_feed wsX12_feed ({ frames := 1, cells := 0, slots := 0, locals := 22 }) (zPc dC dI sz [.ref h0, .int p0, .int p1, .int p2, .int p3, .int p4] [(h0, .inr (14, fs)), (h1, .inl (cB, 2000, .inl f))] [(cB, .byte)]) (va_Qi (fun (r : Int32) (u : List Value × (Nat → Int32)) => r = 0 ∧ u = (fs, f)) (zB dC dI (fun _ => [(cB, .byte)]) (fun u : List Value × (Nat → Int32) => [(h0, .inr (14, u.1)), (h1, .inl (cB, 2000, .inl u.2))]) (va_A [(h0, .inr (14, fs)), (h1, .inl (cB, 2000, .inl f))] sz)) (va_A [(h0, .inr (14, fs)), (h1, .inl (cB, 2000, .inl f))] sz)) 0 0 (va_A [(h0, .inr (14, fs)), (h1, .inl (cB, 2000, .inl f))] sz) := by
  refine Met.ofW (cc := cX12_feed) (maxL := 6) (ret := (some .boolean)) (by decide) rfl ?_
  intro p e s m args below meth c s₁ B hml hv
  obtain ⟨rfl, hsz, hP, hK, hD0⟩ := hv
  have hx := B.exec
  have hb := B.bytes
  have hr := B.returns
  have hts := atoms_spec (ws := wsX12_feed) B.pre
  have hown : s.vm.findClass RX12 = some m.cls := findClass_of_methodNamed B.named
  have hlocks := B.notSynchronized
  subst hsz
  have hD := hD0.self (sz := s.heap.size)
  generalize hAe : va_A [(h0, .inr (14, fs)), (h1, .inl (cB, 2000, .inl f))] s.heap.size = A at hD ⊢
  have hA : ∀ q : Nat, s.heap.size ≤ q → A q := fun q h => by rw [← hAe]; exact Or.inr h
  have hS : va_S A s.heap s.heap [] := va_S.rf
  have hP : va_P (dC, dI) vwCl [(h0, .inr (14, fs)), (h1, .inl (cB, 2000, .inl f))] s.heap := hP
  have hl := lv_entry ([.ref h0, .int p0, .int p1, .int p2, .int p3, .int p4]) (n := 6) (Nat.le_of_ble_eq_true rfl)
  rw [lg_entry_eq]
  generalize (lg_sl ([.ref h0, .int p0, .int p1, .int p2, .int p3, .int p4]) ++ List.replicate (6 - (lg_sl ([.ref h0, .int p0, .int p1, .int p2, .int p3, .int p4])).length) Slot.unset).toArray = ls at hl ⊢
  have hl : lv_has ls 6 [(0, .ref h0), (1, .int p0), (2, .int p1), (3, .int p2), (4, .int p3), (5, .int p4)] := hl
  refine lv_aload_n hx hb dX12_feed_0 rfl (lv_at hl 0 rfl) ?_
  refine va_get (D := (dC, dI)) (ci := 14) (v := .int (nI tl)) (C := RX12) (T := TX12) (N := 13) hx hb hts iw_X12_feed_X12 hown hK hP 0 rfl rfl 1 (by decide) (hts (.fieldLink RX12 44 "LiquidTongue" "tapeLength" "I") (by decide +kernel)) (fun _ h9 => h9) hf dX12_feed_1 ?_
  refine lv_sipush (v := 1980) hx hb dX12_feed_4 (by decide) ?_
  refine lv_icmp_le (tgt := 12) hx hb dX12_feed_7 (by decide) (fun c_1 => absurd c_1 (nI_ge (a := 1980) (b := tl) (by omega) (by omega))) (fun c_1 => ?_)
  refine lv_iconst (v := 0) hx hb dX12_feed_10 (by decide) ?_
  have hP9 := hP.sub (ws' := [(h0, .inr (14, fs)), (h1, .inl (cB, 2000, .inl f))]) [0, 1] rfl
  have hD9 := hD.sub (ws' := [(h0, .inr (14, fs)), (h1, .inl (cB, 2000, .inl f))]) [0, 1] (by decide) rfl
  have hK9 := hK.sub (tys' := [(cB, .byte)]) [0] rfl
  exact W.zret (v := 0) hx hb hr (by first | rfl | decide) (fun t ht hW => ⟨⟨0, (fs, f), rfl, ⟨rfl, rfl⟩, (zB_mk (by rw [ht]; exact hP9) (va_K.moved hW.alike hK9) hD9)⟩, hS.F ht⟩) hS.2.2 dX12_feed_11
