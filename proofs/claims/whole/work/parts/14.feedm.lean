/-! feed of the reference -/
theorem iw_X13_feed_X13 : ∀ w ∈ wsX130, w ∈ wsX13_feed := fun w h => List.mem_cons_of_mem _ (List.mem_append_right _ h)
set_option maxHeartbeats 4000000 in
set_option maxRecDepth 100000 in
/-- feed(..) of the reference, taken -/
theorem c_X13_feed_ok (l : Launch) (dC : Nat → ClassId) (dI : Nat → Nat → Nat) (sz : Nat) (h0 h1 : Nat) (cB : ClassId) (fs : List Value) (f : Nat → Int32) (tl : Nat) (p0 p1 p2 p3 p4 : Int32) (hfl : fs.length = 196) (hf : fs[3]? = some (.int (nI tl))) (hm : fs[0]? = some (.ref h1)) (htl : tl + 20 ≤ 2000) : Met l yX13_feed wsX13_feed ({ frames := 0, cells := 0, slots := 0, locals := 0 }) (zPc dC dI sz [.ref h0, .int p0, .int p1, .int p2, .int p3, .int p4] [(h0, .inr (15, fs)), (h1, .inl (cB, 2000, .inl f))] [(cB, .byte)]) (va_Qi (fun (r : Int32) (u : List Value × (Nat → Int32)) => r = 1 ∧ u = (fs.set 3 (.int (nI (tl + 20))), z20 f tl p0 p1 p2 p3 p4)) (zB dC dI (fun _ => [(cB, .byte)]) (fun u : List Value × (Nat → Int32) => [(h0, .inr (15, u.1)), (h1, .inl (cB, 2000, .inl u.2))]) (va_A [(h0, .inr (15, fs)), (h1, .inl (cB, 2000, .inl f))] sz)) (va_A [(h0, .inr (15, fs)), (h1, .inl (cB, 2000, .inl f))] sz)) 0 0 (va_A [(h0, .inr (15, fs)), (h1, .inl (cB, 2000, .inl f))] sz) := by
  refine Met.ofW (cc := cX13_feed) (maxL := 8) (ret := (some .boolean)) (by decide) rfl ?_
  intro p e s m args below meth c s₁ B hml hv
  obtain ⟨rfl, hsz, hP, hK, hD0⟩ := hv
  have hx := B.exec
  have hb := B.bytes
  have hr := B.returns
  have hts := atoms_spec (ws := wsX13_feed) B.pre
  have hown : s.vm.findClass RX13 = some m.cls := findClass_of_methodNamed B.named
  have hlocks := B.notSynchronized
  subst hsz
  have hD := hD0.self (sz := s.heap.size)
  generalize hAe : va_A [(h0, .inr (15, fs)), (h1, .inl (cB, 2000, .inl f))] s.heap.size = A at hD ⊢
  have hA : ∀ q : Nat, s.heap.size ≤ q → A q := fun q h => by rw [← hAe]; exact Or.inr h
  have hS : va_S A s.heap s.heap [] := va_S.rf
  have hP : va_P (dC, dI) vwCl [(h0, .inr (15, fs)), (h1, .inl (cB, 2000, .inl f))] s.heap := hP
  have hl := lv_entry ([.ref h0, .int p0, .int p1, .int p2, .int p3, .int p4]) (n := 8) (Nat.le_of_ble_eq_true rfl)
  rw [lg_entry_eq]
  generalize (lg_sl ([.ref h0, .int p0, .int p1, .int p2, .int p3, .int p4]) ++ List.replicate (8 - (lg_sl ([.ref h0, .int p0, .int p1, .int p2, .int p3, .int p4])).length) Slot.unset).toArray = ls at hl ⊢
  have hl : lv_has ls 8 [(0, .ref h0), (1, .int p0), (2, .int p1), (3, .int p2), (4, .int p3), (5, .int p4)] := hl
  refine lv_aload_n hx hb dX13_feed_0 rfl (lv_at hl 0 rfl) ?_
  refine va_get (D := (dC, dI)) (ci := 15) (v := .int (nI tl)) (C := RX13) (T := TX13) (N := 196) hx hb hts iw_X13_feed_X13 hown hK hP 0 rfl rfl 3 (by decide) (hts (.fieldLink RX13 386 "LiquidTongueModel" "length" "I") (by decide +kernel)) (fun _ h9 => h9) hf dX13_feed_1 ?_
  refine lv_bipush (v := 20) hx hb dX13_feed_4 (by decide) ?_
  refine lv_iadd hx hb dX13_feed_6 ?_
  refine lv_topi (fun z_1 ez_1 => ?_)
  refine lv_sipush (v := 2000) hx hb dX13_feed_7 (by decide) ?_
  refine lv_icmp_le (tgt := 15) hx hb dX13_feed_10 (by decide) (fun c_1 => ?_) (fun c_1 => absurd (show z_1 ≤ 2000 from by rw [ez_1]; exact (show nI tl + nI 20 ≤ nI 2000 from by rw [nI_add]; exact nI_le (by omega) (by decide))) c_1)
  refine lv_iconst (v := 0) hx hb dX13_feed_15 (by decide) ?_
  refine lv_istore (lv' := [(6, .int 0), (0, .ref h0), (1, .int p0), (2, .int p1), (3, .int p2), (4, .int p3), (5, .int p4)]) hx hb dX13_feed_16 hl (by decide) rfl (fun ls hl => ?_)
  refine lv_iload hx hb dX13_feed_18 (lv_at hl 0 rfl) ?_
  refine lv_bipush (v := 20) hx hb dX13_feed_20 (by decide) ?_
  refine lv_icmp_ge (tgt := 112) hx hb dX13_feed_22 (by decide) (fun c_2 => absurd c_2 (by decide)) (fun c_2 => ?_)
  refine lv_iload hx hb dX13_feed_25 (lv_at hl 0 rfl) ?_
  refine lv_iconst (v := 4) hx hb dX13_feed_27 (by decide) ?_
  refine lv_icmp_ge (tgt := 35) hx hb dX13_feed_28 (by decide) (fun c_3 => absurd c_3 (by decide)) (fun c_3 => ?_)
  refine lv_iload_n hx hb dX13_feed_31 rfl (lv_at hl 2 rfl) ?_
  refine lv_goto (tgt := 71) hx hb dX13_feed_32 (by decide) ?_
  refine lv_istore (lv' := [(7, .int p0), (6, .int 0), (0, .ref h0), (1, .int p0), (2, .int p1), (3, .int p2), (4, .int p3), (5, .int p4)]) hx hb dX13_feed_71 hl (by decide) rfl (fun ls hl => ?_)
  refine lv_aload_n hx hb dX13_feed_73 rfl (lv_at hl 2 rfl) ?_
  refine va_get (D := (dC, dI)) (ci := 15) (v := .ref h1) (C := RX13) (T := TX13) (N := 196) hx hb hts iw_X13_feed_X13 hown hK hP 0 rfl rfl 0 (by decide) (hts (.fieldLink RX13 9 "LiquidTongueModel" "tape" "[B") (by decide +kernel)) (fun _ h9 => h9) hm dX13_feed_74 ?_
  refine lv_aload_n hx hb dX13_feed_77 rfl (lv_at hl 2 rfl) ?_
  refine va_get (D := (dC, dI)) (ci := 15) (v := .int (nI tl)) (C := RX13) (T := TX13) (N := 196) hx hb hts iw_X13_feed_X13 hown hK hP 0 rfl rfl 3 (by decide) (hts (.fieldLink RX13 386 "LiquidTongueModel" "length" "I") (by decide +kernel)) (fun _ h9 => h9) hf dX13_feed_78 ?_
  refine lv_iload hx hb dX13_feed_81 (lv_at hl 0 rfl) ?_
  refine lv_bipush (v := 24) hx hb dX13_feed_83 (by decide) ?_
  refine lv_bipush (v := 8) hx hb dX13_feed_85 (by decide) ?_
  refine lv_iload hx hb dX13_feed_87 (lv_at hl 1 rfl) ?_
  refine lv_iconst (v := 4) hx hb dX13_feed_89 (by decide) ?_
  refine lv_irem hx hb dX13_feed_90 (by decide) ?_
  refine lv_topi (fun z_2 ez_2 => ?_)
  have fz_2 : z_2 = 0 := ez_2.trans (by decide)
  clear ez_2
  subst fz_2
  refine lv_imul hx hb dX13_feed_91 ?_
  refine lv_topi (fun z_3 ez_3 => ?_)
  have fz_3 : z_3 = 0 := ez_3.trans (by decide)
  clear ez_3
  subst fz_3
  refine lv_isub hx hb dX13_feed_92 ?_
  refine lv_topi (fun z_4 ez_4 => ?_)
  have fz_4 : z_4 = 24 := ez_4.trans (by decide)
  clear ez_4
  subst fz_4
  refine lv_ishr hx hb dX13_feed_93 ?_
  refine lv_topi (fun z_5 ez_5 => ?_)
  obtain ⟨z_6, ez_6⟩ : ∃ y : Int32, y = (z_5).toInt8.toInt32 := ⟨_, rfl⟩
  refine lv_i2b (v := z_6) hx hb dX13_feed_94 ez_6.symm ?_
  refine va_bast hx hb hK hP hD hS 1 0 rfl rfl (vp_in_nI (by omega) (by decide)) dX13_feed_95 (fun H locs hP hD hS => ?_)
  rw [nI_clamp (n := tl) (by omega), show vp_nar .byte z_6 = zby p0 24 from by rw [ez_6, ez_5]; exact pk_vb _] at hP hD
  have hP : va_P (dC, dI) vwCl [(h0, .inr (15, fs)), (h1, .inl (cB, 2000, .inl (upd f (tl) (zby p0 24))))] H := hP
  have hD : va_D A [(h0, .inr (15, fs)), (h1, .inl (cB, 2000, .inl (upd f (tl) (zby p0 24))))] := hD
  refine lv_aload_n hx hb dX13_feed_96 rfl (lv_at hl 2 rfl) ?_
  refine lv_dup hx hb dX13_feed_97 rfl ?_
  refine va_get (D := (dC, dI)) (ci := 15) (v := .int (nI tl)) (C := RX13) (T := TX13) (N := 196) hx hb hts iw_X13_feed_X13 hown hK hP 0 rfl rfl 3 (by decide) (hts (.fieldLink RX13 386 "LiquidTongueModel" "length" "I") (by decide +kernel)) (fun _ h9 => h9) hf dX13_feed_98 ?_
  refine lv_iconst (v := 1) hx hb dX13_feed_101 (by decide) ?_
  refine lv_iadd hx hb dX13_feed_102 ?_
  refine lv_topi (fun z_7 ez_7 => ?_)
  have fz_7 : z_7 = nI (tl + 1) := ez_7.trans (nI_1 _)
  clear ez_7
  subst fz_7
  refine va_put (D := (dC, dI)) (ci := 15) (v := .int (nI (tl + 1))) (ty := .int) (C := RX13) (T := TX13) (N := 196) hx hb hts iw_X13_feed_X13 tyX13 tyX13_ok nmX13 hown hK hP hD hS 0 rfl rfl 3 (by decide) (hts (.fieldLink RX13 386 "LiquidTongueModel" "length" "I") (by decide +kernel)) (fun _ h9 => h9) rfl (by decide +kernel) rfl rfl (zs_lt hfl (by decide)) dX13_feed_103 (fun H locs hP hD hS => ?_)
  have hP : va_P (dC, dI) vwCl [(h0, .inr (15, (fs.set 3 (.int (nI (tl + 1)))))), (h1, .inl (cB, 2000, .inl (upd f (tl) (zby p0 24))))] H := hP
  have hD : va_D A [(h0, .inr (15, (fs.set 3 (.int (nI (tl + 1)))))), (h1, .inl (cB, 2000, .inl (upd f (tl) (zby p0 24))))] := hD
  refine lv_iinc (v := 1) (lv' := [(6, .int 1), (7, .int p0), (0, .ref h0), (1, .int p0), (2, .int p1), (3, .int p2), (4, .int p3), (5, .int p4)]) hx hb dX13_feed_106 hl (k := 1) rfl (by decide) (by decide) rfl (fun ls hl => ?_)
  refine lv_goto (tgt := 18) hx hb dX13_feed_109 (by decide) ?_
  refine lv_iload hx hb dX13_feed_18 (lv_at hl 0 rfl) ?_
  refine lv_bipush (v := 20) hx hb dX13_feed_20 (by decide) ?_
  refine lv_icmp_ge (tgt := 112) hx hb dX13_feed_22 (by decide) (fun c_4 => absurd c_4 (by decide)) (fun c_4 => ?_)
  refine lv_iload hx hb dX13_feed_25 (lv_at hl 0 rfl) ?_
  refine lv_iconst (v := 4) hx hb dX13_feed_27 (by decide) ?_
  refine lv_icmp_ge (tgt := 35) hx hb dX13_feed_28 (by decide) (fun c_5 => absurd c_5 (by decide)) (fun c_5 => ?_)
  refine lv_iload_n hx hb dX13_feed_31 rfl (lv_at hl 3 rfl) ?_
  refine lv_goto (tgt := 71) hx hb dX13_feed_32 (by decide) ?_
  refine lv_istore (lv' := [(7, .int p0), (6, .int 1), (0, .ref h0), (1, .int p0), (2, .int p1), (3, .int p2), (4, .int p3), (5, .int p4)]) hx hb dX13_feed_71 hl (by decide) rfl (fun ls hl => ?_)
  refine lv_aload_n hx hb dX13_feed_73 rfl (lv_at hl 2 rfl) ?_
  refine va_get (D := (dC, dI)) (ci := 15) (v := .ref h1) (C := RX13) (T := TX13) (N := 196) hx hb hts iw_X13_feed_X13 hown hK hP 0 rfl rfl 0 (by decide) (hts (.fieldLink RX13 9 "LiquidTongueModel" "tape" "[B") (by decide +kernel)) (fun _ h9 => h9) (zs_ne (by decide) hm) dX13_feed_74 ?_
  refine lv_aload_n hx hb dX13_feed_77 rfl (lv_at hl 2 rfl) ?_
  refine va_get (D := (dC, dI)) (ci := 15) (v := .int (nI (tl + 1))) (C := RX13) (T := TX13) (N := 196) hx hb hts iw_X13_feed_X13 hown hK hP 0 rfl rfl 3 (by decide) (hts (.fieldLink RX13 386 "LiquidTongueModel" "length" "I") (by decide +kernel)) (fun _ h9 => h9) (zs_eq (zs_lt hfl (by decide))) dX13_feed_78 ?_
  refine lv_iload hx hb dX13_feed_81 (lv_at hl 0 rfl) ?_
  refine lv_bipush (v := 24) hx hb dX13_feed_83 (by decide) ?_
  refine lv_bipush (v := 8) hx hb dX13_feed_85 (by decide) ?_
  refine lv_iload hx hb dX13_feed_87 (lv_at hl 1 rfl) ?_
  refine lv_iconst (v := 4) hx hb dX13_feed_89 (by decide) ?_
  refine lv_irem hx hb dX13_feed_90 (by decide) ?_
  refine lv_topi (fun z_9 ez_9 => ?_)
  have fz_9 : z_9 = 1 := ez_9.trans (by decide)
  clear ez_9
  subst fz_9
  refine lv_imul hx hb dX13_feed_91 ?_
  refine lv_topi (fun z_10 ez_10 => ?_)
  have fz_10 : z_10 = 8 := ez_10.trans (by decide)
  clear ez_10
  subst fz_10
  refine lv_isub hx hb dX13_feed_92 ?_
  refine lv_topi (fun z_11 ez_11 => ?_)
  have fz_11 : z_11 = 16 := ez_11.trans (by decide)
  clear ez_11
  subst fz_11
  refine lv_ishr hx hb dX13_feed_93 ?_
  refine lv_topi (fun z_12 ez_12 => ?_)
  obtain ⟨z_13, ez_13⟩ : ∃ y : Int32, y = (z_12).toInt8.toInt32 := ⟨_, rfl⟩
  refine lv_i2b (v := z_13) hx hb dX13_feed_94 ez_13.symm ?_
  refine va_bast hx hb hK hP hD hS 1 0 rfl rfl (vp_in_nI (by omega) (by decide)) dX13_feed_95 (fun H locs hP hD hS => ?_)
  rw [nI_clamp (n := (tl + 1)) (by omega), show vp_nar .byte z_13 = zby p0 16 from by rw [ez_13, ez_12]; exact pk_vb _] at hP hD
  have hP : va_P (dC, dI) vwCl [(h0, .inr (15, (fs.set 3 (.int (nI (tl + 1)))))), (h1, .inl (cB, 2000, .inl (upd (upd f (tl) (zby p0 24)) ((tl + 1)) (zby p0 16))))] H := hP
  have hD : va_D A [(h0, .inr (15, (fs.set 3 (.int (nI (tl + 1)))))), (h1, .inl (cB, 2000, .inl (upd (upd f (tl) (zby p0 24)) ((tl + 1)) (zby p0 16))))] := hD
  refine lv_aload_n hx hb dX13_feed_96 rfl (lv_at hl 2 rfl) ?_
  refine lv_dup hx hb dX13_feed_97 rfl ?_
  refine va_get (D := (dC, dI)) (ci := 15) (v := .int (nI (tl + 1))) (C := RX13) (T := TX13) (N := 196) hx hb hts iw_X13_feed_X13 hown hK hP 0 rfl rfl 3 (by decide) (hts (.fieldLink RX13 386 "LiquidTongueModel" "length" "I") (by decide +kernel)) (fun _ h9 => h9) (zs_eq (zs_lt hfl (by decide))) dX13_feed_98 ?_
  refine lv_iconst (v := 1) hx hb dX13_feed_101 (by decide) ?_
  refine lv_iadd hx hb dX13_feed_102 ?_
  refine lv_topi (fun z_14 ez_14 => ?_)
  have fz_14 : z_14 = nI ((tl + 1) + 1) := ez_14.trans (nI_1 _)
  clear ez_14
  subst fz_14
  refine va_put (D := (dC, dI)) (ci := 15) (v := .int (nI ((tl + 1) + 1))) (ty := .int) (C := RX13) (T := TX13) (N := 196) hx hb hts iw_X13_feed_X13 tyX13 tyX13_ok nmX13 hown hK hP hD hS 0 rfl rfl 3 (by decide) (hts (.fieldLink RX13 386 "LiquidTongueModel" "length" "I") (by decide +kernel)) (fun _ h9 => h9) rfl (by decide +kernel) rfl rfl (zs_lt (zs_len hfl) (by decide)) dX13_feed_103 (fun H locs hP hD hS => ?_)
  rw [List.set_set] at hP hD
  have hP : va_P (dC, dI) vwCl [(h0, .inr (15, (fs.set 3 (.int (nI ((tl + 1) + 1)))))), (h1, .inl (cB, 2000, .inl (upd (upd f (tl) (zby p0 24)) ((tl + 1)) (zby p0 16))))] H := hP
  have hD : va_D A [(h0, .inr (15, (fs.set 3 (.int (nI ((tl + 1) + 1)))))), (h1, .inl (cB, 2000, .inl (upd (upd f (tl) (zby p0 24)) ((tl + 1)) (zby p0 16))))] := hD
  refine lv_iinc (v := 2) (lv' := [(6, .int 2), (7, .int p0), (0, .ref h0), (1, .int p0), (2, .int p1), (3, .int p2), (4, .int p3), (5, .int p4)]) hx hb dX13_feed_106 hl (k := 1) rfl (by decide) (by decide) rfl (fun ls hl => ?_)
  refine lv_goto (tgt := 18) hx hb dX13_feed_109 (by decide) ?_
  refine lv_iload hx hb dX13_feed_18 (lv_at hl 0 rfl) ?_
  refine lv_bipush (v := 20) hx hb dX13_feed_20 (by decide) ?_
  refine lv_icmp_ge (tgt := 112) hx hb dX13_feed_22 (by decide) (fun c_6 => absurd c_6 (by decide)) (fun c_6 => ?_)
  refine lv_iload hx hb dX13_feed_25 (lv_at hl 0 rfl) ?_
  refine lv_iconst (v := 4) hx hb dX13_feed_27 (by decide) ?_
  refine lv_icmp_ge (tgt := 35) hx hb dX13_feed_28 (by decide) (fun c_7 => absurd c_7 (by decide)) (fun c_7 => ?_)
  refine lv_iload_n hx hb dX13_feed_31 rfl (lv_at hl 3 rfl) ?_
  refine lv_goto (tgt := 71) hx hb dX13_feed_32 (by decide) ?_
  refine lv_istore (lv' := [(7, .int p0), (6, .int 2), (0, .ref h0), (1, .int p0), (2, .int p1), (3, .int p2), (4, .int p3), (5, .int p4)]) hx hb dX13_feed_71 hl (by decide) rfl (fun ls hl => ?_)
  refine lv_aload_n hx hb dX13_feed_73 rfl (lv_at hl 2 rfl) ?_
  refine va_get (D := (dC, dI)) (ci := 15) (v := .ref h1) (C := RX13) (T := TX13) (N := 196) hx hb hts iw_X13_feed_X13 hown hK hP 0 rfl rfl 0 (by decide) (hts (.fieldLink RX13 9 "LiquidTongueModel" "tape" "[B") (by decide +kernel)) (fun _ h9 => h9) (zs_ne (by decide) hm) dX13_feed_74 ?_
  refine lv_aload_n hx hb dX13_feed_77 rfl (lv_at hl 2 rfl) ?_
  refine va_get (D := (dC, dI)) (ci := 15) (v := .int (nI ((tl + 1) + 1))) (C := RX13) (T := TX13) (N := 196) hx hb hts iw_X13_feed_X13 hown hK hP 0 rfl rfl 3 (by decide) (hts (.fieldLink RX13 386 "LiquidTongueModel" "length" "I") (by decide +kernel)) (fun _ h9 => h9) (zs_eq (zs_lt hfl (by decide))) dX13_feed_78 ?_
  refine lv_iload hx hb dX13_feed_81 (lv_at hl 0 rfl) ?_
  refine lv_bipush (v := 24) hx hb dX13_feed_83 (by decide) ?_
  refine lv_bipush (v := 8) hx hb dX13_feed_85 (by decide) ?_
  refine lv_iload hx hb dX13_feed_87 (lv_at hl 1 rfl) ?_
  refine lv_iconst (v := 4) hx hb dX13_feed_89 (by decide) ?_
  refine lv_irem hx hb dX13_feed_90 (by decide) ?_
  refine lv_topi (fun z_16 ez_16 => ?_)
  have fz_16 : z_16 = 2 := ez_16.trans (by decide)
  clear ez_16
  subst fz_16
  refine lv_imul hx hb dX13_feed_91 ?_
  refine lv_topi (fun z_17 ez_17 => ?_)
  have fz_17 : z_17 = 16 := ez_17.trans (by decide)
  clear ez_17
  subst fz_17
  refine lv_isub hx hb dX13_feed_92 ?_
  refine lv_topi (fun z_18 ez_18 => ?_)
  have fz_18 : z_18 = 8 := ez_18.trans (by decide)
  clear ez_18
  subst fz_18
  refine lv_ishr hx hb dX13_feed_93 ?_
  refine lv_topi (fun z_19 ez_19 => ?_)
  obtain ⟨z_20, ez_20⟩ : ∃ y : Int32, y = (z_19).toInt8.toInt32 := ⟨_, rfl⟩
  refine lv_i2b (v := z_20) hx hb dX13_feed_94 ez_20.symm ?_
  refine va_bast hx hb hK hP hD hS 1 0 rfl rfl (vp_in_nI (by omega) (by decide)) dX13_feed_95 (fun H locs hP hD hS => ?_)
  rw [nI_clamp (n := ((tl + 1) + 1)) (by omega), show vp_nar .byte z_20 = zby p0 8 from by rw [ez_20, ez_19]; exact pk_vb _] at hP hD
  have hP : va_P (dC, dI) vwCl [(h0, .inr (15, (fs.set 3 (.int (nI ((tl + 1) + 1)))))), (h1, .inl (cB, 2000, .inl (upd (upd (upd f (tl) (zby p0 24)) ((tl + 1)) (zby p0 16)) (((tl + 1) + 1)) (zby p0 8))))] H := hP
  have hD : va_D A [(h0, .inr (15, (fs.set 3 (.int (nI ((tl + 1) + 1)))))), (h1, .inl (cB, 2000, .inl (upd (upd (upd f (tl) (zby p0 24)) ((tl + 1)) (zby p0 16)) (((tl + 1) + 1)) (zby p0 8))))] := hD
  refine lv_aload_n hx hb dX13_feed_96 rfl (lv_at hl 2 rfl) ?_
  refine lv_dup hx hb dX13_feed_97 rfl ?_
  refine va_get (D := (dC, dI)) (ci := 15) (v := .int (nI ((tl + 1) + 1))) (C := RX13) (T := TX13) (N := 196) hx hb hts iw_X13_feed_X13 hown hK hP 0 rfl rfl 3 (by decide) (hts (.fieldLink RX13 386 "LiquidTongueModel" "length" "I") (by decide +kernel)) (fun _ h9 => h9) (zs_eq (zs_lt hfl (by decide))) dX13_feed_98 ?_
  refine lv_iconst (v := 1) hx hb dX13_feed_101 (by decide) ?_
  refine lv_iadd hx hb dX13_feed_102 ?_
  refine lv_topi (fun z_21 ez_21 => ?_)
  have fz_21 : z_21 = nI (((tl + 1) + 1) + 1) := ez_21.trans (nI_1 _)
  clear ez_21
  subst fz_21
  refine va_put (D := (dC, dI)) (ci := 15) (v := .int (nI (((tl + 1) + 1) + 1))) (ty := .int) (C := RX13) (T := TX13) (N := 196) hx hb hts iw_X13_feed_X13 tyX13 tyX13_ok nmX13 hown hK hP hD hS 0 rfl rfl 3 (by decide) (hts (.fieldLink RX13 386 "LiquidTongueModel" "length" "I") (by decide +kernel)) (fun _ h9 => h9) rfl (by decide +kernel) rfl rfl (zs_lt (zs_len hfl) (by decide)) dX13_feed_103 (fun H locs hP hD hS => ?_)
  rw [List.set_set] at hP hD
  have hP : va_P (dC, dI) vwCl [(h0, .inr (15, (fs.set 3 (.int (nI (((tl + 1) + 1) + 1)))))), (h1, .inl (cB, 2000, .inl (upd (upd (upd f (tl) (zby p0 24)) ((tl + 1)) (zby p0 16)) (((tl + 1) + 1)) (zby p0 8))))] H := hP
  have hD : va_D A [(h0, .inr (15, (fs.set 3 (.int (nI (((tl + 1) + 1) + 1)))))), (h1, .inl (cB, 2000, .inl (upd (upd (upd f (tl) (zby p0 24)) ((tl + 1)) (zby p0 16)) (((tl + 1) + 1)) (zby p0 8))))] := hD
  refine lv_iinc (v := 3) (lv' := [(6, .int 3), (7, .int p0), (0, .ref h0), (1, .int p0), (2, .int p1), (3, .int p2), (4, .int p3), (5, .int p4)]) hx hb dX13_feed_106 hl (k := 1) rfl (by decide) (by decide) rfl (fun ls hl => ?_)
  refine lv_goto (tgt := 18) hx hb dX13_feed_109 (by decide) ?_
  refine lv_iload hx hb dX13_feed_18 (lv_at hl 0 rfl) ?_
  refine lv_bipush (v := 20) hx hb dX13_feed_20 (by decide) ?_
  refine lv_icmp_ge (tgt := 112) hx hb dX13_feed_22 (by decide) (fun c_8 => absurd c_8 (by decide)) (fun c_8 => ?_)
  refine lv_iload hx hb dX13_feed_25 (lv_at hl 0 rfl) ?_
  refine lv_iconst (v := 4) hx hb dX13_feed_27 (by decide) ?_
  refine lv_icmp_ge (tgt := 35) hx hb dX13_feed_28 (by decide) (fun c_9 => absurd c_9 (by decide)) (fun c_9 => ?_)
  refine lv_iload_n hx hb dX13_feed_31 rfl (lv_at hl 3 rfl) ?_
  refine lv_goto (tgt := 71) hx hb dX13_feed_32 (by decide) ?_
  refine lv_istore (lv' := [(7, .int p0), (6, .int 3), (0, .ref h0), (1, .int p0), (2, .int p1), (3, .int p2), (4, .int p3), (5, .int p4)]) hx hb dX13_feed_71 hl (by decide) rfl (fun ls hl => ?_)
  refine lv_aload_n hx hb dX13_feed_73 rfl (lv_at hl 2 rfl) ?_
  refine va_get (D := (dC, dI)) (ci := 15) (v := .ref h1) (C := RX13) (T := TX13) (N := 196) hx hb hts iw_X13_feed_X13 hown hK hP 0 rfl rfl 0 (by decide) (hts (.fieldLink RX13 9 "LiquidTongueModel" "tape" "[B") (by decide +kernel)) (fun _ h9 => h9) (zs_ne (by decide) hm) dX13_feed_74 ?_
  refine lv_aload_n hx hb dX13_feed_77 rfl (lv_at hl 2 rfl) ?_
  refine va_get (D := (dC, dI)) (ci := 15) (v := .int (nI (((tl + 1) + 1) + 1))) (C := RX13) (T := TX13) (N := 196) hx hb hts iw_X13_feed_X13 hown hK hP 0 rfl rfl 3 (by decide) (hts (.fieldLink RX13 386 "LiquidTongueModel" "length" "I") (by decide +kernel)) (fun _ h9 => h9) (zs_eq (zs_lt hfl (by decide))) dX13_feed_78 ?_
  refine lv_iload hx hb dX13_feed_81 (lv_at hl 0 rfl) ?_
  refine lv_bipush (v := 24) hx hb dX13_feed_83 (by decide) ?_
  refine lv_bipush (v := 8) hx hb dX13_feed_85 (by decide) ?_
  refine lv_iload hx hb dX13_feed_87 (lv_at hl 1 rfl) ?_
  refine lv_iconst (v := 4) hx hb dX13_feed_89 (by decide) ?_
  refine lv_irem hx hb dX13_feed_90 (by decide) ?_
  refine lv_topi (fun z_23 ez_23 => ?_)
  have fz_23 : z_23 = 3 := ez_23.trans (by decide)
  clear ez_23
  subst fz_23
  refine lv_imul hx hb dX13_feed_91 ?_
  refine lv_topi (fun z_24 ez_24 => ?_)
  have fz_24 : z_24 = 24 := ez_24.trans (by decide)
  clear ez_24
  subst fz_24
  refine lv_isub hx hb dX13_feed_92 ?_
  refine lv_topi (fun z_25 ez_25 => ?_)
  have fz_25 : z_25 = 0 := ez_25.trans (by decide)
  clear ez_25
  subst fz_25
  refine lv_ishr hx hb dX13_feed_93 ?_
  refine lv_topi (fun z_26 ez_26 => ?_)
  obtain ⟨z_27, ez_27⟩ : ∃ y : Int32, y = (z_26).toInt8.toInt32 := ⟨_, rfl⟩
  refine lv_i2b (v := z_27) hx hb dX13_feed_94 ez_27.symm ?_
  refine va_bast hx hb hK hP hD hS 1 0 rfl rfl (vp_in_nI (by omega) (by decide)) dX13_feed_95 (fun H locs hP hD hS => ?_)
  rw [nI_clamp (n := (((tl + 1) + 1) + 1)) (by omega), show vp_nar .byte z_27 = zby p0 0 from by rw [ez_27, ez_26]; exact pk_vb _] at hP hD
  have hP : va_P (dC, dI) vwCl [(h0, .inr (15, (fs.set 3 (.int (nI (((tl + 1) + 1) + 1)))))), (h1, .inl (cB, 2000, .inl (upd (upd (upd (upd f (tl) (zby p0 24)) ((tl + 1)) (zby p0 16)) (((tl + 1) + 1)) (zby p0 8)) ((((tl + 1) + 1) + 1)) (zby p0 0))))] H := hP
  have hD : va_D A [(h0, .inr (15, (fs.set 3 (.int (nI (((tl + 1) + 1) + 1)))))), (h1, .inl (cB, 2000, .inl (upd (upd (upd (upd f (tl) (zby p0 24)) ((tl + 1)) (zby p0 16)) (((tl + 1) + 1)) (zby p0 8)) ((((tl + 1) + 1) + 1)) (zby p0 0))))] := hD
  refine lv_aload_n hx hb dX13_feed_96 rfl (lv_at hl 2 rfl) ?_
  refine lv_dup hx hb dX13_feed_97 rfl ?_
  refine va_get (D := (dC, dI)) (ci := 15) (v := .int (nI (((tl + 1) + 1) + 1))) (C := RX13) (T := TX13) (N := 196) hx hb hts iw_X13_feed_X13 hown hK hP 0 rfl rfl 3 (by decide) (hts (.fieldLink RX13 386 "LiquidTongueModel" "length" "I") (by decide +kernel)) (fun _ h9 => h9) (zs_eq (zs_lt hfl (by decide))) dX13_feed_98 ?_
  refine lv_iconst (v := 1) hx hb dX13_feed_101 (by decide) ?_
  refine lv_iadd hx hb dX13_feed_102 ?_
  refine lv_topi (fun z_28 ez_28 => ?_)
  have fz_28 : z_28 = nI ((((tl + 1) + 1) + 1) + 1) := ez_28.trans (nI_1 _)
  clear ez_28
  subst fz_28
  refine va_put (D := (dC, dI)) (ci := 15) (v := .int (nI ((((tl + 1) + 1) + 1) + 1))) (ty := .int) (C := RX13) (T := TX13) (N := 196) hx hb hts iw_X13_feed_X13 tyX13 tyX13_ok nmX13 hown hK hP hD hS 0 rfl rfl 3 (by decide) (hts (.fieldLink RX13 386 "LiquidTongueModel" "length" "I") (by decide +kernel)) (fun _ h9 => h9) rfl (by decide +kernel) rfl rfl (zs_lt (zs_len hfl) (by decide)) dX13_feed_103 (fun H locs hP hD hS => ?_)
  rw [List.set_set] at hP hD
  have hP : va_P (dC, dI) vwCl [(h0, .inr (15, (fs.set 3 (.int (nI ((((tl + 1) + 1) + 1) + 1)))))), (h1, .inl (cB, 2000, .inl (upd (upd (upd (upd f (tl) (zby p0 24)) ((tl + 1)) (zby p0 16)) (((tl + 1) + 1)) (zby p0 8)) ((((tl + 1) + 1) + 1)) (zby p0 0))))] H := hP
  have hD : va_D A [(h0, .inr (15, (fs.set 3 (.int (nI ((((tl + 1) + 1) + 1) + 1)))))), (h1, .inl (cB, 2000, .inl (upd (upd (upd (upd f (tl) (zby p0 24)) ((tl + 1)) (zby p0 16)) (((tl + 1) + 1)) (zby p0 8)) ((((tl + 1) + 1) + 1)) (zby p0 0))))] := hD
  refine lv_iinc (v := 4) (lv' := [(6, .int 4), (7, .int p0), (0, .ref h0), (1, .int p0), (2, .int p1), (3, .int p2), (4, .int p3), (5, .int p4)]) hx hb dX13_feed_106 hl (k := 1) rfl (by decide) (by decide) rfl (fun ls hl => ?_)
  refine lv_goto (tgt := 18) hx hb dX13_feed_109 (by decide) ?_
  refine lv_iload hx hb dX13_feed_18 (lv_at hl 0 rfl) ?_
  refine lv_bipush (v := 20) hx hb dX13_feed_20 (by decide) ?_
  refine lv_icmp_ge (tgt := 112) hx hb dX13_feed_22 (by decide) (fun c_10 => absurd c_10 (by decide)) (fun c_10 => ?_)
  refine lv_iload hx hb dX13_feed_25 (lv_at hl 0 rfl) ?_
  refine lv_iconst (v := 4) hx hb dX13_feed_27 (by decide) ?_
  refine lv_icmp_ge (tgt := 35) hx hb dX13_feed_28 (by decide) (fun c_11 => ?_) (fun c_11 => absurd (by decide) c_11)
  refine lv_iload hx hb dX13_feed_35 (lv_at hl 0 rfl) ?_
  refine lv_bipush (v := 8) hx hb dX13_feed_37 (by decide) ?_
  refine lv_icmp_ge (tgt := 46) hx hb dX13_feed_39 (by decide) (fun c_12 => absurd c_12 (by decide)) (fun c_12 => ?_)
  refine lv_iload_n hx hb dX13_feed_42 rfl (lv_at hl 4 rfl) ?_
  refine lv_goto (tgt := 71) hx hb dX13_feed_43 (by decide) ?_
  refine lv_istore (lv' := [(7, .int p1), (6, .int 4), (0, .ref h0), (1, .int p0), (2, .int p1), (3, .int p2), (4, .int p3), (5, .int p4)]) hx hb dX13_feed_71 hl (by decide) rfl (fun ls hl => ?_)
  refine lv_aload_n hx hb dX13_feed_73 rfl (lv_at hl 2 rfl) ?_
  refine va_get (D := (dC, dI)) (ci := 15) (v := .ref h1) (C := RX13) (T := TX13) (N := 196) hx hb hts iw_X13_feed_X13 hown hK hP 0 rfl rfl 0 (by decide) (hts (.fieldLink RX13 9 "LiquidTongueModel" "tape" "[B") (by decide +kernel)) (fun _ h9 => h9) (zs_ne (by decide) hm) dX13_feed_74 ?_
  refine lv_aload_n hx hb dX13_feed_77 rfl (lv_at hl 2 rfl) ?_
  refine va_get (D := (dC, dI)) (ci := 15) (v := .int (nI ((((tl + 1) + 1) + 1) + 1))) (C := RX13) (T := TX13) (N := 196) hx hb hts iw_X13_feed_X13 hown hK hP 0 rfl rfl 3 (by decide) (hts (.fieldLink RX13 386 "LiquidTongueModel" "length" "I") (by decide +kernel)) (fun _ h9 => h9) (zs_eq (zs_lt hfl (by decide))) dX13_feed_78 ?_
  refine lv_iload hx hb dX13_feed_81 (lv_at hl 0 rfl) ?_
  refine lv_bipush (v := 24) hx hb dX13_feed_83 (by decide) ?_
  refine lv_bipush (v := 8) hx hb dX13_feed_85 (by decide) ?_
  refine lv_iload hx hb dX13_feed_87 (lv_at hl 1 rfl) ?_
  refine lv_iconst (v := 4) hx hb dX13_feed_89 (by decide) ?_
  refine lv_irem hx hb dX13_feed_90 (by decide) ?_
  refine lv_topi (fun z_30 ez_30 => ?_)
  have fz_30 : z_30 = 0 := ez_30.trans (by decide)
  clear ez_30
  subst fz_30
  refine lv_imul hx hb dX13_feed_91 ?_
  refine lv_topi (fun z_31 ez_31 => ?_)
  have fz_31 : z_31 = 0 := ez_31.trans (by decide)
  clear ez_31
  subst fz_31
  refine lv_isub hx hb dX13_feed_92 ?_
  refine lv_topi (fun z_32 ez_32 => ?_)
  have fz_32 : z_32 = 24 := ez_32.trans (by decide)
  clear ez_32
  subst fz_32
  refine lv_ishr hx hb dX13_feed_93 ?_
  refine lv_topi (fun z_33 ez_33 => ?_)
  obtain ⟨z_34, ez_34⟩ : ∃ y : Int32, y = (z_33).toInt8.toInt32 := ⟨_, rfl⟩
  refine lv_i2b (v := z_34) hx hb dX13_feed_94 ez_34.symm ?_
  refine va_bast hx hb hK hP hD hS 1 0 rfl rfl (vp_in_nI (by omega) (by decide)) dX13_feed_95 (fun H locs hP hD hS => ?_)
  rw [nI_clamp (n := ((((tl + 1) + 1) + 1) + 1)) (by omega), show vp_nar .byte z_34 = zby p1 24 from by rw [ez_34, ez_33]; exact pk_vb _] at hP hD
  have hP : va_P (dC, dI) vwCl [(h0, .inr (15, (fs.set 3 (.int (nI ((((tl + 1) + 1) + 1) + 1)))))), (h1, .inl (cB, 2000, .inl (upd (upd (upd (upd (upd f (tl) (zby p0 24)) ((tl + 1)) (zby p0 16)) (((tl + 1) + 1)) (zby p0 8)) ((((tl + 1) + 1) + 1)) (zby p0 0)) (((((tl + 1) + 1) + 1) + 1)) (zby p1 24))))] H := hP
  have hD : va_D A [(h0, .inr (15, (fs.set 3 (.int (nI ((((tl + 1) + 1) + 1) + 1)))))), (h1, .inl (cB, 2000, .inl (upd (upd (upd (upd (upd f (tl) (zby p0 24)) ((tl + 1)) (zby p0 16)) (((tl + 1) + 1)) (zby p0 8)) ((((tl + 1) + 1) + 1)) (zby p0 0)) (((((tl + 1) + 1) + 1) + 1)) (zby p1 24))))] := hD
  refine lv_aload_n hx hb dX13_feed_96 rfl (lv_at hl 2 rfl) ?_
  refine lv_dup hx hb dX13_feed_97 rfl ?_
  refine va_get (D := (dC, dI)) (ci := 15) (v := .int (nI ((((tl + 1) + 1) + 1) + 1))) (C := RX13) (T := TX13) (N := 196) hx hb hts iw_X13_feed_X13 hown hK hP 0 rfl rfl 3 (by decide) (hts (.fieldLink RX13 386 "LiquidTongueModel" "length" "I") (by decide +kernel)) (fun _ h9 => h9) (zs_eq (zs_lt hfl (by decide))) dX13_feed_98 ?_
  refine lv_iconst (v := 1) hx hb dX13_feed_101 (by decide) ?_
  refine lv_iadd hx hb dX13_feed_102 ?_
  refine lv_topi (fun z_35 ez_35 => ?_)
  have fz_35 : z_35 = nI (((((tl + 1) + 1) + 1) + 1) + 1) := ez_35.trans (nI_1 _)
  clear ez_35
  subst fz_35
  refine va_put (D := (dC, dI)) (ci := 15) (v := .int (nI (((((tl + 1) + 1) + 1) + 1) + 1))) (ty := .int) (C := RX13) (T := TX13) (N := 196) hx hb hts iw_X13_feed_X13 tyX13 tyX13_ok nmX13 hown hK hP hD hS 0 rfl rfl 3 (by decide) (hts (.fieldLink RX13 386 "LiquidTongueModel" "length" "I") (by decide +kernel)) (fun _ h9 => h9) rfl (by decide +kernel) rfl rfl (zs_lt (zs_len hfl) (by decide)) dX13_feed_103 (fun H locs hP hD hS => ?_)
  rw [List.set_set] at hP hD
  have hP : va_P (dC, dI) vwCl [(h0, .inr (15, (fs.set 3 (.int (nI (((((tl + 1) + 1) + 1) + 1) + 1)))))), (h1, .inl (cB, 2000, .inl (upd (upd (upd (upd (upd f (tl) (zby p0 24)) ((tl + 1)) (zby p0 16)) (((tl + 1) + 1)) (zby p0 8)) ((((tl + 1) + 1) + 1)) (zby p0 0)) (((((tl + 1) + 1) + 1) + 1)) (zby p1 24))))] H := hP
  have hD : va_D A [(h0, .inr (15, (fs.set 3 (.int (nI (((((tl + 1) + 1) + 1) + 1) + 1)))))), (h1, .inl (cB, 2000, .inl (upd (upd (upd (upd (upd f (tl) (zby p0 24)) ((tl + 1)) (zby p0 16)) (((tl + 1) + 1)) (zby p0 8)) ((((tl + 1) + 1) + 1)) (zby p0 0)) (((((tl + 1) + 1) + 1) + 1)) (zby p1 24))))] := hD
  refine lv_iinc (v := 5) (lv' := [(6, .int 5), (7, .int p1), (0, .ref h0), (1, .int p0), (2, .int p1), (3, .int p2), (4, .int p3), (5, .int p4)]) hx hb dX13_feed_106 hl (k := 1) rfl (by decide) (by decide) rfl (fun ls hl => ?_)
  refine lv_goto (tgt := 18) hx hb dX13_feed_109 (by decide) ?_
  refine lv_iload hx hb dX13_feed_18 (lv_at hl 0 rfl) ?_
  refine lv_bipush (v := 20) hx hb dX13_feed_20 (by decide) ?_
  refine lv_icmp_ge (tgt := 112) hx hb dX13_feed_22 (by decide) (fun c_13 => absurd c_13 (by decide)) (fun c_13 => ?_)
  refine lv_iload hx hb dX13_feed_25 (lv_at hl 0 rfl) ?_
  refine lv_iconst (v := 4) hx hb dX13_feed_27 (by decide) ?_
  refine lv_icmp_ge (tgt := 35) hx hb dX13_feed_28 (by decide) (fun c_14 => ?_) (fun c_14 => absurd (by decide) c_14)
  refine lv_iload hx hb dX13_feed_35 (lv_at hl 0 rfl) ?_
  refine lv_bipush (v := 8) hx hb dX13_feed_37 (by decide) ?_
  refine lv_icmp_ge (tgt := 46) hx hb dX13_feed_39 (by decide) (fun c_15 => absurd c_15 (by decide)) (fun c_15 => ?_)
  refine lv_iload_n hx hb dX13_feed_42 rfl (lv_at hl 4 rfl) ?_
  refine lv_goto (tgt := 71) hx hb dX13_feed_43 (by decide) ?_
  refine lv_istore (lv' := [(7, .int p1), (6, .int 5), (0, .ref h0), (1, .int p0), (2, .int p1), (3, .int p2), (4, .int p3), (5, .int p4)]) hx hb dX13_feed_71 hl (by decide) rfl (fun ls hl => ?_)
  refine lv_aload_n hx hb dX13_feed_73 rfl (lv_at hl 2 rfl) ?_
  refine va_get (D := (dC, dI)) (ci := 15) (v := .ref h1) (C := RX13) (T := TX13) (N := 196) hx hb hts iw_X13_feed_X13 hown hK hP 0 rfl rfl 0 (by decide) (hts (.fieldLink RX13 9 "LiquidTongueModel" "tape" "[B") (by decide +kernel)) (fun _ h9 => h9) (zs_ne (by decide) hm) dX13_feed_74 ?_
  refine lv_aload_n hx hb dX13_feed_77 rfl (lv_at hl 2 rfl) ?_
  refine va_get (D := (dC, dI)) (ci := 15) (v := .int (nI (((((tl + 1) + 1) + 1) + 1) + 1))) (C := RX13) (T := TX13) (N := 196) hx hb hts iw_X13_feed_X13 hown hK hP 0 rfl rfl 3 (by decide) (hts (.fieldLink RX13 386 "LiquidTongueModel" "length" "I") (by decide +kernel)) (fun _ h9 => h9) (zs_eq (zs_lt hfl (by decide))) dX13_feed_78 ?_
  refine lv_iload hx hb dX13_feed_81 (lv_at hl 0 rfl) ?_
  refine lv_bipush (v := 24) hx hb dX13_feed_83 (by decide) ?_
  refine lv_bipush (v := 8) hx hb dX13_feed_85 (by decide) ?_
  refine lv_iload hx hb dX13_feed_87 (lv_at hl 1 rfl) ?_
  refine lv_iconst (v := 4) hx hb dX13_feed_89 (by decide) ?_
  refine lv_irem hx hb dX13_feed_90 (by decide) ?_
  refine lv_topi (fun z_37 ez_37 => ?_)
  have fz_37 : z_37 = 1 := ez_37.trans (by decide)
  clear ez_37
  subst fz_37
  refine lv_imul hx hb dX13_feed_91 ?_
  refine lv_topi (fun z_38 ez_38 => ?_)
  have fz_38 : z_38 = 8 := ez_38.trans (by decide)
  clear ez_38
  subst fz_38
  refine lv_isub hx hb dX13_feed_92 ?_
  refine lv_topi (fun z_39 ez_39 => ?_)
  have fz_39 : z_39 = 16 := ez_39.trans (by decide)
  clear ez_39
  subst fz_39
  refine lv_ishr hx hb dX13_feed_93 ?_
  refine lv_topi (fun z_40 ez_40 => ?_)
  obtain ⟨z_41, ez_41⟩ : ∃ y : Int32, y = (z_40).toInt8.toInt32 := ⟨_, rfl⟩
  refine lv_i2b (v := z_41) hx hb dX13_feed_94 ez_41.symm ?_
  refine va_bast hx hb hK hP hD hS 1 0 rfl rfl (vp_in_nI (by omega) (by decide)) dX13_feed_95 (fun H locs hP hD hS => ?_)
  rw [nI_clamp (n := (((((tl + 1) + 1) + 1) + 1) + 1)) (by omega), show vp_nar .byte z_41 = zby p1 16 from by rw [ez_41, ez_40]; exact pk_vb _] at hP hD
  have hP : va_P (dC, dI) vwCl [(h0, .inr (15, (fs.set 3 (.int (nI (((((tl + 1) + 1) + 1) + 1) + 1)))))), (h1, .inl (cB, 2000, .inl (upd (upd (upd (upd (upd (upd f (tl) (zby p0 24)) ((tl + 1)) (zby p0 16)) (((tl + 1) + 1)) (zby p0 8)) ((((tl + 1) + 1) + 1)) (zby p0 0)) (((((tl + 1) + 1) + 1) + 1)) (zby p1 24)) ((((((tl + 1) + 1) + 1) + 1) + 1)) (zby p1 16))))] H := hP
  have hD : va_D A [(h0, .inr (15, (fs.set 3 (.int (nI (((((tl + 1) + 1) + 1) + 1) + 1)))))), (h1, .inl (cB, 2000, .inl (upd (upd (upd (upd (upd (upd f (tl) (zby p0 24)) ((tl + 1)) (zby p0 16)) (((tl + 1) + 1)) (zby p0 8)) ((((tl + 1) + 1) + 1)) (zby p0 0)) (((((tl + 1) + 1) + 1) + 1)) (zby p1 24)) ((((((tl + 1) + 1) + 1) + 1) + 1)) (zby p1 16))))] := hD
  refine lv_aload_n hx hb dX13_feed_96 rfl (lv_at hl 2 rfl) ?_
  refine lv_dup hx hb dX13_feed_97 rfl ?_
  refine va_get (D := (dC, dI)) (ci := 15) (v := .int (nI (((((tl + 1) + 1) + 1) + 1) + 1))) (C := RX13) (T := TX13) (N := 196) hx hb hts iw_X13_feed_X13 hown hK hP 0 rfl rfl 3 (by decide) (hts (.fieldLink RX13 386 "LiquidTongueModel" "length" "I") (by decide +kernel)) (fun _ h9 => h9) (zs_eq (zs_lt hfl (by decide))) dX13_feed_98 ?_
  refine lv_iconst (v := 1) hx hb dX13_feed_101 (by decide) ?_
  refine lv_iadd hx hb dX13_feed_102 ?_
  refine lv_topi (fun z_42 ez_42 => ?_)
  have fz_42 : z_42 = nI ((((((tl + 1) + 1) + 1) + 1) + 1) + 1) := ez_42.trans (nI_1 _)
  clear ez_42
  subst fz_42
  refine va_put (D := (dC, dI)) (ci := 15) (v := .int (nI ((((((tl + 1) + 1) + 1) + 1) + 1) + 1))) (ty := .int) (C := RX13) (T := TX13) (N := 196) hx hb hts iw_X13_feed_X13 tyX13 tyX13_ok nmX13 hown hK hP hD hS 0 rfl rfl 3 (by decide) (hts (.fieldLink RX13 386 "LiquidTongueModel" "length" "I") (by decide +kernel)) (fun _ h9 => h9) rfl (by decide +kernel) rfl rfl (zs_lt (zs_len hfl) (by decide)) dX13_feed_103 (fun H locs hP hD hS => ?_)
  rw [List.set_set] at hP hD
  have hP : va_P (dC, dI) vwCl [(h0, .inr (15, (fs.set 3 (.int (nI ((((((tl + 1) + 1) + 1) + 1) + 1) + 1)))))), (h1, .inl (cB, 2000, .inl (upd (upd (upd (upd (upd (upd f (tl) (zby p0 24)) ((tl + 1)) (zby p0 16)) (((tl + 1) + 1)) (zby p0 8)) ((((tl + 1) + 1) + 1)) (zby p0 0)) (((((tl + 1) + 1) + 1) + 1)) (zby p1 24)) ((((((tl + 1) + 1) + 1) + 1) + 1)) (zby p1 16))))] H := hP
  have hD : va_D A [(h0, .inr (15, (fs.set 3 (.int (nI ((((((tl + 1) + 1) + 1) + 1) + 1) + 1)))))), (h1, .inl (cB, 2000, .inl (upd (upd (upd (upd (upd (upd f (tl) (zby p0 24)) ((tl + 1)) (zby p0 16)) (((tl + 1) + 1)) (zby p0 8)) ((((tl + 1) + 1) + 1)) (zby p0 0)) (((((tl + 1) + 1) + 1) + 1)) (zby p1 24)) ((((((tl + 1) + 1) + 1) + 1) + 1)) (zby p1 16))))] := hD
  refine lv_iinc (v := 6) (lv' := [(6, .int 6), (7, .int p1), (0, .ref h0), (1, .int p0), (2, .int p1), (3, .int p2), (4, .int p3), (5, .int p4)]) hx hb dX13_feed_106 hl (k := 1) rfl (by decide) (by decide) rfl (fun ls hl => ?_)
  refine lv_goto (tgt := 18) hx hb dX13_feed_109 (by decide) ?_
  refine lv_iload hx hb dX13_feed_18 (lv_at hl 0 rfl) ?_
  refine lv_bipush (v := 20) hx hb dX13_feed_20 (by decide) ?_
  refine lv_icmp_ge (tgt := 112) hx hb dX13_feed_22 (by decide) (fun c_16 => absurd c_16 (by decide)) (fun c_16 => ?_)
  refine lv_iload hx hb dX13_feed_25 (lv_at hl 0 rfl) ?_
  refine lv_iconst (v := 4) hx hb dX13_feed_27 (by decide) ?_
  refine lv_icmp_ge (tgt := 35) hx hb dX13_feed_28 (by decide) (fun c_17 => ?_) (fun c_17 => absurd (by decide) c_17)
  refine lv_iload hx hb dX13_feed_35 (lv_at hl 0 rfl) ?_
  refine lv_bipush (v := 8) hx hb dX13_feed_37 (by decide) ?_
  refine lv_icmp_ge (tgt := 46) hx hb dX13_feed_39 (by decide) (fun c_18 => absurd c_18 (by decide)) (fun c_18 => ?_)
  refine lv_iload_n hx hb dX13_feed_42 rfl (lv_at hl 4 rfl) ?_
  refine lv_goto (tgt := 71) hx hb dX13_feed_43 (by decide) ?_
  refine lv_istore (lv' := [(7, .int p1), (6, .int 6), (0, .ref h0), (1, .int p0), (2, .int p1), (3, .int p2), (4, .int p3), (5, .int p4)]) hx hb dX13_feed_71 hl (by decide) rfl (fun ls hl => ?_)
  refine lv_aload_n hx hb dX13_feed_73 rfl (lv_at hl 2 rfl) ?_
  refine va_get (D := (dC, dI)) (ci := 15) (v := .ref h1) (C := RX13) (T := TX13) (N := 196) hx hb hts iw_X13_feed_X13 hown hK hP 0 rfl rfl 0 (by decide) (hts (.fieldLink RX13 9 "LiquidTongueModel" "tape" "[B") (by decide +kernel)) (fun _ h9 => h9) (zs_ne (by decide) hm) dX13_feed_74 ?_
  refine lv_aload_n hx hb dX13_feed_77 rfl (lv_at hl 2 rfl) ?_
  refine va_get (D := (dC, dI)) (ci := 15) (v := .int (nI ((((((tl + 1) + 1) + 1) + 1) + 1) + 1))) (C := RX13) (T := TX13) (N := 196) hx hb hts iw_X13_feed_X13 hown hK hP 0 rfl rfl 3 (by decide) (hts (.fieldLink RX13 386 "LiquidTongueModel" "length" "I") (by decide +kernel)) (fun _ h9 => h9) (zs_eq (zs_lt hfl (by decide))) dX13_feed_78 ?_
  refine lv_iload hx hb dX13_feed_81 (lv_at hl 0 rfl) ?_
  refine lv_bipush (v := 24) hx hb dX13_feed_83 (by decide) ?_
  refine lv_bipush (v := 8) hx hb dX13_feed_85 (by decide) ?_
  refine lv_iload hx hb dX13_feed_87 (lv_at hl 1 rfl) ?_
  refine lv_iconst (v := 4) hx hb dX13_feed_89 (by decide) ?_
  refine lv_irem hx hb dX13_feed_90 (by decide) ?_
  refine lv_topi (fun z_44 ez_44 => ?_)
  have fz_44 : z_44 = 2 := ez_44.trans (by decide)
  clear ez_44
  subst fz_44
  refine lv_imul hx hb dX13_feed_91 ?_
  refine lv_topi (fun z_45 ez_45 => ?_)
  have fz_45 : z_45 = 16 := ez_45.trans (by decide)
  clear ez_45
  subst fz_45
  refine lv_isub hx hb dX13_feed_92 ?_
  refine lv_topi (fun z_46 ez_46 => ?_)
  have fz_46 : z_46 = 8 := ez_46.trans (by decide)
  clear ez_46
  subst fz_46
  refine lv_ishr hx hb dX13_feed_93 ?_
  refine lv_topi (fun z_47 ez_47 => ?_)
  obtain ⟨z_48, ez_48⟩ : ∃ y : Int32, y = (z_47).toInt8.toInt32 := ⟨_, rfl⟩
  refine lv_i2b (v := z_48) hx hb dX13_feed_94 ez_48.symm ?_
  refine va_bast hx hb hK hP hD hS 1 0 rfl rfl (vp_in_nI (by omega) (by decide)) dX13_feed_95 (fun H locs hP hD hS => ?_)
  rw [nI_clamp (n := ((((((tl + 1) + 1) + 1) + 1) + 1) + 1)) (by omega), show vp_nar .byte z_48 = zby p1 8 from by rw [ez_48, ez_47]; exact pk_vb _] at hP hD
  have hP : va_P (dC, dI) vwCl [(h0, .inr (15, (fs.set 3 (.int (nI ((((((tl + 1) + 1) + 1) + 1) + 1) + 1)))))), (h1, .inl (cB, 2000, .inl (upd (upd (upd (upd (upd (upd (upd f (tl) (zby p0 24)) ((tl + 1)) (zby p0 16)) (((tl + 1) + 1)) (zby p0 8)) ((((tl + 1) + 1) + 1)) (zby p0 0)) (((((tl + 1) + 1) + 1) + 1)) (zby p1 24)) ((((((tl + 1) + 1) + 1) + 1) + 1)) (zby p1 16)) (((((((tl + 1) + 1) + 1) + 1) + 1) + 1)) (zby p1 8))))] H := hP
  have hD : va_D A [(h0, .inr (15, (fs.set 3 (.int (nI ((((((tl + 1) + 1) + 1) + 1) + 1) + 1)))))), (h1, .inl (cB, 2000, .inl (upd (upd (upd (upd (upd (upd (upd f (tl) (zby p0 24)) ((tl + 1)) (zby p0 16)) (((tl + 1) + 1)) (zby p0 8)) ((((tl + 1) + 1) + 1)) (zby p0 0)) (((((tl + 1) + 1) + 1) + 1)) (zby p1 24)) ((((((tl + 1) + 1) + 1) + 1) + 1)) (zby p1 16)) (((((((tl + 1) + 1) + 1) + 1) + 1) + 1)) (zby p1 8))))] := hD
  refine lv_aload_n hx hb dX13_feed_96 rfl (lv_at hl 2 rfl) ?_
  refine lv_dup hx hb dX13_feed_97 rfl ?_
  refine va_get (D := (dC, dI)) (ci := 15) (v := .int (nI ((((((tl + 1) + 1) + 1) + 1) + 1) + 1))) (C := RX13) (T := TX13) (N := 196) hx hb hts iw_X13_feed_X13 hown hK hP 0 rfl rfl 3 (by decide) (hts (.fieldLink RX13 386 "LiquidTongueModel" "length" "I") (by decide +kernel)) (fun _ h9 => h9) (zs_eq (zs_lt hfl (by decide))) dX13_feed_98 ?_
  refine lv_iconst (v := 1) hx hb dX13_feed_101 (by decide) ?_
  refine lv_iadd hx hb dX13_feed_102 ?_
  refine lv_topi (fun z_49 ez_49 => ?_)
  have fz_49 : z_49 = nI (((((((tl + 1) + 1) + 1) + 1) + 1) + 1) + 1) := ez_49.trans (nI_1 _)
  clear ez_49
  subst fz_49
  refine va_put (D := (dC, dI)) (ci := 15) (v := .int (nI (((((((tl + 1) + 1) + 1) + 1) + 1) + 1) + 1))) (ty := .int) (C := RX13) (T := TX13) (N := 196) hx hb hts iw_X13_feed_X13 tyX13 tyX13_ok nmX13 hown hK hP hD hS 0 rfl rfl 3 (by decide) (hts (.fieldLink RX13 386 "LiquidTongueModel" "length" "I") (by decide +kernel)) (fun _ h9 => h9) rfl (by decide +kernel) rfl rfl (zs_lt (zs_len hfl) (by decide)) dX13_feed_103 (fun H locs hP hD hS => ?_)
  rw [List.set_set] at hP hD
  have hP : va_P (dC, dI) vwCl [(h0, .inr (15, (fs.set 3 (.int (nI (((((((tl + 1) + 1) + 1) + 1) + 1) + 1) + 1)))))), (h1, .inl (cB, 2000, .inl (upd (upd (upd (upd (upd (upd (upd f (tl) (zby p0 24)) ((tl + 1)) (zby p0 16)) (((tl + 1) + 1)) (zby p0 8)) ((((tl + 1) + 1) + 1)) (zby p0 0)) (((((tl + 1) + 1) + 1) + 1)) (zby p1 24)) ((((((tl + 1) + 1) + 1) + 1) + 1)) (zby p1 16)) (((((((tl + 1) + 1) + 1) + 1) + 1) + 1)) (zby p1 8))))] H := hP
  have hD : va_D A [(h0, .inr (15, (fs.set 3 (.int (nI (((((((tl + 1) + 1) + 1) + 1) + 1) + 1) + 1)))))), (h1, .inl (cB, 2000, .inl (upd (upd (upd (upd (upd (upd (upd f (tl) (zby p0 24)) ((tl + 1)) (zby p0 16)) (((tl + 1) + 1)) (zby p0 8)) ((((tl + 1) + 1) + 1)) (zby p0 0)) (((((tl + 1) + 1) + 1) + 1)) (zby p1 24)) ((((((tl + 1) + 1) + 1) + 1) + 1)) (zby p1 16)) (((((((tl + 1) + 1) + 1) + 1) + 1) + 1)) (zby p1 8))))] := hD
  refine lv_iinc (v := 7) (lv' := [(6, .int 7), (7, .int p1), (0, .ref h0), (1, .int p0), (2, .int p1), (3, .int p2), (4, .int p3), (5, .int p4)]) hx hb dX13_feed_106 hl (k := 1) rfl (by decide) (by decide) rfl (fun ls hl => ?_)
  refine lv_goto (tgt := 18) hx hb dX13_feed_109 (by decide) ?_
  refine lv_iload hx hb dX13_feed_18 (lv_at hl 0 rfl) ?_
  refine lv_bipush (v := 20) hx hb dX13_feed_20 (by decide) ?_
  refine lv_icmp_ge (tgt := 112) hx hb dX13_feed_22 (by decide) (fun c_19 => absurd c_19 (by decide)) (fun c_19 => ?_)
  refine lv_iload hx hb dX13_feed_25 (lv_at hl 0 rfl) ?_
  refine lv_iconst (v := 4) hx hb dX13_feed_27 (by decide) ?_
  refine lv_icmp_ge (tgt := 35) hx hb dX13_feed_28 (by decide) (fun c_20 => ?_) (fun c_20 => absurd (by decide) c_20)
  refine lv_iload hx hb dX13_feed_35 (lv_at hl 0 rfl) ?_
  refine lv_bipush (v := 8) hx hb dX13_feed_37 (by decide) ?_
  refine lv_icmp_ge (tgt := 46) hx hb dX13_feed_39 (by decide) (fun c_21 => absurd c_21 (by decide)) (fun c_21 => ?_)
  refine lv_iload_n hx hb dX13_feed_42 rfl (lv_at hl 4 rfl) ?_
  refine lv_goto (tgt := 71) hx hb dX13_feed_43 (by decide) ?_
  refine lv_istore (lv' := [(7, .int p1), (6, .int 7), (0, .ref h0), (1, .int p0), (2, .int p1), (3, .int p2), (4, .int p3), (5, .int p4)]) hx hb dX13_feed_71 hl (by decide) rfl (fun ls hl => ?_)
  refine lv_aload_n hx hb dX13_feed_73 rfl (lv_at hl 2 rfl) ?_
  refine va_get (D := (dC, dI)) (ci := 15) (v := .ref h1) (C := RX13) (T := TX13) (N := 196) hx hb hts iw_X13_feed_X13 hown hK hP 0 rfl rfl 0 (by decide) (hts (.fieldLink RX13 9 "LiquidTongueModel" "tape" "[B") (by decide +kernel)) (fun _ h9 => h9) (zs_ne (by decide) hm) dX13_feed_74 ?_
  refine lv_aload_n hx hb dX13_feed_77 rfl (lv_at hl 2 rfl) ?_
  refine va_get (D := (dC, dI)) (ci := 15) (v := .int (nI (((((((tl + 1) + 1) + 1) + 1) + 1) + 1) + 1))) (C := RX13) (T := TX13) (N := 196) hx hb hts iw_X13_feed_X13 hown hK hP 0 rfl rfl 3 (by decide) (hts (.fieldLink RX13 386 "LiquidTongueModel" "length" "I") (by decide +kernel)) (fun _ h9 => h9) (zs_eq (zs_lt hfl (by decide))) dX13_feed_78 ?_
  refine lv_iload hx hb dX13_feed_81 (lv_at hl 0 rfl) ?_
  refine lv_bipush (v := 24) hx hb dX13_feed_83 (by decide) ?_
  refine lv_bipush (v := 8) hx hb dX13_feed_85 (by decide) ?_
  refine lv_iload hx hb dX13_feed_87 (lv_at hl 1 rfl) ?_
  refine lv_iconst (v := 4) hx hb dX13_feed_89 (by decide) ?_
  refine lv_irem hx hb dX13_feed_90 (by decide) ?_
  refine lv_topi (fun z_51 ez_51 => ?_)
  have fz_51 : z_51 = 3 := ez_51.trans (by decide)
  clear ez_51
  subst fz_51
  refine lv_imul hx hb dX13_feed_91 ?_
  refine lv_topi (fun z_52 ez_52 => ?_)
  have fz_52 : z_52 = 24 := ez_52.trans (by decide)
  clear ez_52
  subst fz_52
  refine lv_isub hx hb dX13_feed_92 ?_
  refine lv_topi (fun z_53 ez_53 => ?_)
  have fz_53 : z_53 = 0 := ez_53.trans (by decide)
  clear ez_53
  subst fz_53
  refine lv_ishr hx hb dX13_feed_93 ?_
  refine lv_topi (fun z_54 ez_54 => ?_)
  obtain ⟨z_55, ez_55⟩ : ∃ y : Int32, y = (z_54).toInt8.toInt32 := ⟨_, rfl⟩
  refine lv_i2b (v := z_55) hx hb dX13_feed_94 ez_55.symm ?_
  refine va_bast hx hb hK hP hD hS 1 0 rfl rfl (vp_in_nI (by omega) (by decide)) dX13_feed_95 (fun H locs hP hD hS => ?_)
  rw [nI_clamp (n := (((((((tl + 1) + 1) + 1) + 1) + 1) + 1) + 1)) (by omega), show vp_nar .byte z_55 = zby p1 0 from by rw [ez_55, ez_54]; exact pk_vb _] at hP hD
  have hP : va_P (dC, dI) vwCl [(h0, .inr (15, (fs.set 3 (.int (nI (((((((tl + 1) + 1) + 1) + 1) + 1) + 1) + 1)))))), (h1, .inl (cB, 2000, .inl (upd (upd (upd (upd (upd (upd (upd (upd f (tl) (zby p0 24)) ((tl + 1)) (zby p0 16)) (((tl + 1) + 1)) (zby p0 8)) ((((tl + 1) + 1) + 1)) (zby p0 0)) (((((tl + 1) + 1) + 1) + 1)) (zby p1 24)) ((((((tl + 1) + 1) + 1) + 1) + 1)) (zby p1 16)) (((((((tl + 1) + 1) + 1) + 1) + 1) + 1)) (zby p1 8)) ((((((((tl + 1) + 1) + 1) + 1) + 1) + 1) + 1)) (zby p1 0))))] H := hP
  have hD : va_D A [(h0, .inr (15, (fs.set 3 (.int (nI (((((((tl + 1) + 1) + 1) + 1) + 1) + 1) + 1)))))), (h1, .inl (cB, 2000, .inl (upd (upd (upd (upd (upd (upd (upd (upd f (tl) (zby p0 24)) ((tl + 1)) (zby p0 16)) (((tl + 1) + 1)) (zby p0 8)) ((((tl + 1) + 1) + 1)) (zby p0 0)) (((((tl + 1) + 1) + 1) + 1)) (zby p1 24)) ((((((tl + 1) + 1) + 1) + 1) + 1)) (zby p1 16)) (((((((tl + 1) + 1) + 1) + 1) + 1) + 1)) (zby p1 8)) ((((((((tl + 1) + 1) + 1) + 1) + 1) + 1) + 1)) (zby p1 0))))] := hD
  refine lv_aload_n hx hb dX13_feed_96 rfl (lv_at hl 2 rfl) ?_
  refine lv_dup hx hb dX13_feed_97 rfl ?_
  refine va_get (D := (dC, dI)) (ci := 15) (v := .int (nI (((((((tl + 1) + 1) + 1) + 1) + 1) + 1) + 1))) (C := RX13) (T := TX13) (N := 196) hx hb hts iw_X13_feed_X13 hown hK hP 0 rfl rfl 3 (by decide) (hts (.fieldLink RX13 386 "LiquidTongueModel" "length" "I") (by decide +kernel)) (fun _ h9 => h9) (zs_eq (zs_lt hfl (by decide))) dX13_feed_98 ?_
  refine lv_iconst (v := 1) hx hb dX13_feed_101 (by decide) ?_
  refine lv_iadd hx hb dX13_feed_102 ?_
  refine lv_topi (fun z_56 ez_56 => ?_)
  have fz_56 : z_56 = nI ((((((((tl + 1) + 1) + 1) + 1) + 1) + 1) + 1) + 1) := ez_56.trans (nI_1 _)
  clear ez_56
  subst fz_56
  refine va_put (D := (dC, dI)) (ci := 15) (v := .int (nI ((((((((tl + 1) + 1) + 1) + 1) + 1) + 1) + 1) + 1))) (ty := .int) (C := RX13) (T := TX13) (N := 196) hx hb hts iw_X13_feed_X13 tyX13 tyX13_ok nmX13 hown hK hP hD hS 0 rfl rfl 3 (by decide) (hts (.fieldLink RX13 386 "LiquidTongueModel" "length" "I") (by decide +kernel)) (fun _ h9 => h9) rfl (by decide +kernel) rfl rfl (zs_lt (zs_len hfl) (by decide)) dX13_feed_103 (fun H locs hP hD hS => ?_)
  rw [List.set_set] at hP hD
  have hP : va_P (dC, dI) vwCl [(h0, .inr (15, (fs.set 3 (.int (nI ((((((((tl + 1) + 1) + 1) + 1) + 1) + 1) + 1) + 1)))))), (h1, .inl (cB, 2000, .inl (upd (upd (upd (upd (upd (upd (upd (upd f (tl) (zby p0 24)) ((tl + 1)) (zby p0 16)) (((tl + 1) + 1)) (zby p0 8)) ((((tl + 1) + 1) + 1)) (zby p0 0)) (((((tl + 1) + 1) + 1) + 1)) (zby p1 24)) ((((((tl + 1) + 1) + 1) + 1) + 1)) (zby p1 16)) (((((((tl + 1) + 1) + 1) + 1) + 1) + 1)) (zby p1 8)) ((((((((tl + 1) + 1) + 1) + 1) + 1) + 1) + 1)) (zby p1 0))))] H := hP
  have hD : va_D A [(h0, .inr (15, (fs.set 3 (.int (nI ((((((((tl + 1) + 1) + 1) + 1) + 1) + 1) + 1) + 1)))))), (h1, .inl (cB, 2000, .inl (upd (upd (upd (upd (upd (upd (upd (upd f (tl) (zby p0 24)) ((tl + 1)) (zby p0 16)) (((tl + 1) + 1)) (zby p0 8)) ((((tl + 1) + 1) + 1)) (zby p0 0)) (((((tl + 1) + 1) + 1) + 1)) (zby p1 24)) ((((((tl + 1) + 1) + 1) + 1) + 1)) (zby p1 16)) (((((((tl + 1) + 1) + 1) + 1) + 1) + 1)) (zby p1 8)) ((((((((tl + 1) + 1) + 1) + 1) + 1) + 1) + 1)) (zby p1 0))))] := hD
  refine lv_iinc (v := 8) (lv' := [(6, .int 8), (7, .int p1), (0, .ref h0), (1, .int p0), (2, .int p1), (3, .int p2), (4, .int p3), (5, .int p4)]) hx hb dX13_feed_106 hl (k := 1) rfl (by decide) (by decide) rfl (fun ls hl => ?_)
  refine lv_goto (tgt := 18) hx hb dX13_feed_109 (by decide) ?_
  refine lv_iload hx hb dX13_feed_18 (lv_at hl 0 rfl) ?_
  refine lv_bipush (v := 20) hx hb dX13_feed_20 (by decide) ?_
  refine lv_icmp_ge (tgt := 112) hx hb dX13_feed_22 (by decide) (fun c_22 => absurd c_22 (by decide)) (fun c_22 => ?_)
  refine lv_iload hx hb dX13_feed_25 (lv_at hl 0 rfl) ?_
  refine lv_iconst (v := 4) hx hb dX13_feed_27 (by decide) ?_
  refine lv_icmp_ge (tgt := 35) hx hb dX13_feed_28 (by decide) (fun c_23 => ?_) (fun c_23 => absurd (by decide) c_23)
  refine lv_iload hx hb dX13_feed_35 (lv_at hl 0 rfl) ?_
  refine lv_bipush (v := 8) hx hb dX13_feed_37 (by decide) ?_
  refine lv_icmp_ge (tgt := 46) hx hb dX13_feed_39 (by decide) (fun c_24 => ?_) (fun c_24 => absurd (by decide) c_24)
  refine lv_iload hx hb dX13_feed_46 (lv_at hl 0 rfl) ?_
  refine lv_bipush (v := 12) hx hb dX13_feed_48 (by decide) ?_
  refine lv_icmp_ge (tgt := 57) hx hb dX13_feed_50 (by decide) (fun c_25 => absurd c_25 (by decide)) (fun c_25 => ?_)
  refine lv_iload_n hx hb dX13_feed_53 rfl (lv_at hl 5 rfl) ?_
  refine lv_goto (tgt := 71) hx hb dX13_feed_54 (by decide) ?_
  refine lv_istore (lv' := [(7, .int p2), (6, .int 8), (0, .ref h0), (1, .int p0), (2, .int p1), (3, .int p2), (4, .int p3), (5, .int p4)]) hx hb dX13_feed_71 hl (by decide) rfl (fun ls hl => ?_)
  refine lv_aload_n hx hb dX13_feed_73 rfl (lv_at hl 2 rfl) ?_
  refine va_get (D := (dC, dI)) (ci := 15) (v := .ref h1) (C := RX13) (T := TX13) (N := 196) hx hb hts iw_X13_feed_X13 hown hK hP 0 rfl rfl 0 (by decide) (hts (.fieldLink RX13 9 "LiquidTongueModel" "tape" "[B") (by decide +kernel)) (fun _ h9 => h9) (zs_ne (by decide) hm) dX13_feed_74 ?_
  refine lv_aload_n hx hb dX13_feed_77 rfl (lv_at hl 2 rfl) ?_
  refine va_get (D := (dC, dI)) (ci := 15) (v := .int (nI ((((((((tl + 1) + 1) + 1) + 1) + 1) + 1) + 1) + 1))) (C := RX13) (T := TX13) (N := 196) hx hb hts iw_X13_feed_X13 hown hK hP 0 rfl rfl 3 (by decide) (hts (.fieldLink RX13 386 "LiquidTongueModel" "length" "I") (by decide +kernel)) (fun _ h9 => h9) (zs_eq (zs_lt hfl (by decide))) dX13_feed_78 ?_
  refine lv_iload hx hb dX13_feed_81 (lv_at hl 0 rfl) ?_
  refine lv_bipush (v := 24) hx hb dX13_feed_83 (by decide) ?_
  refine lv_bipush (v := 8) hx hb dX13_feed_85 (by decide) ?_
  refine lv_iload hx hb dX13_feed_87 (lv_at hl 1 rfl) ?_
  refine lv_iconst (v := 4) hx hb dX13_feed_89 (by decide) ?_
  refine lv_irem hx hb dX13_feed_90 (by decide) ?_
  refine lv_topi (fun z_58 ez_58 => ?_)
  have fz_58 : z_58 = 0 := ez_58.trans (by decide)
  clear ez_58
  subst fz_58
  refine lv_imul hx hb dX13_feed_91 ?_
  refine lv_topi (fun z_59 ez_59 => ?_)
  have fz_59 : z_59 = 0 := ez_59.trans (by decide)
  clear ez_59
  subst fz_59
  refine lv_isub hx hb dX13_feed_92 ?_
  refine lv_topi (fun z_60 ez_60 => ?_)
  have fz_60 : z_60 = 24 := ez_60.trans (by decide)
  clear ez_60
  subst fz_60
  refine lv_ishr hx hb dX13_feed_93 ?_
  refine lv_topi (fun z_61 ez_61 => ?_)
  obtain ⟨z_62, ez_62⟩ : ∃ y : Int32, y = (z_61).toInt8.toInt32 := ⟨_, rfl⟩
  refine lv_i2b (v := z_62) hx hb dX13_feed_94 ez_62.symm ?_
  refine va_bast hx hb hK hP hD hS 1 0 rfl rfl (vp_in_nI (by omega) (by decide)) dX13_feed_95 (fun H locs hP hD hS => ?_)
  rw [nI_clamp (n := ((((((((tl + 1) + 1) + 1) + 1) + 1) + 1) + 1) + 1)) (by omega), show vp_nar .byte z_62 = zby p2 24 from by rw [ez_62, ez_61]; exact pk_vb _] at hP hD
  have hP : va_P (dC, dI) vwCl [(h0, .inr (15, (fs.set 3 (.int (nI ((((((((tl + 1) + 1) + 1) + 1) + 1) + 1) + 1) + 1)))))), (h1, .inl (cB, 2000, .inl (upd (upd (upd (upd (upd (upd (upd (upd (upd f (tl) (zby p0 24)) ((tl + 1)) (zby p0 16)) (((tl + 1) + 1)) (zby p0 8)) ((((tl + 1) + 1) + 1)) (zby p0 0)) (((((tl + 1) + 1) + 1) + 1)) (zby p1 24)) ((((((tl + 1) + 1) + 1) + 1) + 1)) (zby p1 16)) (((((((tl + 1) + 1) + 1) + 1) + 1) + 1)) (zby p1 8)) ((((((((tl + 1) + 1) + 1) + 1) + 1) + 1) + 1)) (zby p1 0)) (((((((((tl + 1) + 1) + 1) + 1) + 1) + 1) + 1) + 1)) (zby p2 24))))] H := hP
  have hD : va_D A [(h0, .inr (15, (fs.set 3 (.int (nI ((((((((tl + 1) + 1) + 1) + 1) + 1) + 1) + 1) + 1)))))), (h1, .inl (cB, 2000, .inl (upd (upd (upd (upd (upd (upd (upd (upd (upd f (tl) (zby p0 24)) ((tl + 1)) (zby p0 16)) (((tl + 1) + 1)) (zby p0 8)) ((((tl + 1) + 1) + 1)) (zby p0 0)) (((((tl + 1) + 1) + 1) + 1)) (zby p1 24)) ((((((tl + 1) + 1) + 1) + 1) + 1)) (zby p1 16)) (((((((tl + 1) + 1) + 1) + 1) + 1) + 1)) (zby p1 8)) ((((((((tl + 1) + 1) + 1) + 1) + 1) + 1) + 1)) (zby p1 0)) (((((((((tl + 1) + 1) + 1) + 1) + 1) + 1) + 1) + 1)) (zby p2 24))))] := hD
  refine lv_aload_n hx hb dX13_feed_96 rfl (lv_at hl 2 rfl) ?_
  refine lv_dup hx hb dX13_feed_97 rfl ?_
  refine va_get (D := (dC, dI)) (ci := 15) (v := .int (nI ((((((((tl + 1) + 1) + 1) + 1) + 1) + 1) + 1) + 1))) (C := RX13) (T := TX13) (N := 196) hx hb hts iw_X13_feed_X13 hown hK hP 0 rfl rfl 3 (by decide) (hts (.fieldLink RX13 386 "LiquidTongueModel" "length" "I") (by decide +kernel)) (fun _ h9 => h9) (zs_eq (zs_lt hfl (by decide))) dX13_feed_98 ?_
  refine lv_iconst (v := 1) hx hb dX13_feed_101 (by decide) ?_
  refine lv_iadd hx hb dX13_feed_102 ?_
  refine lv_topi (fun z_63 ez_63 => ?_)
  have fz_63 : z_63 = nI (((((((((tl + 1) + 1) + 1) + 1) + 1) + 1) + 1) + 1) + 1) := ez_63.trans (nI_1 _)
  clear ez_63
  subst fz_63
  refine va_put (D := (dC, dI)) (ci := 15) (v := .int (nI (((((((((tl + 1) + 1) + 1) + 1) + 1) + 1) + 1) + 1) + 1))) (ty := .int) (C := RX13) (T := TX13) (N := 196) hx hb hts iw_X13_feed_X13 tyX13 tyX13_ok nmX13 hown hK hP hD hS 0 rfl rfl 3 (by decide) (hts (.fieldLink RX13 386 "LiquidTongueModel" "length" "I") (by decide +kernel)) (fun _ h9 => h9) rfl (by decide +kernel) rfl rfl (zs_lt (zs_len hfl) (by decide)) dX13_feed_103 (fun H locs hP hD hS => ?_)
  rw [List.set_set] at hP hD
  have hP : va_P (dC, dI) vwCl [(h0, .inr (15, (fs.set 3 (.int (nI (((((((((tl + 1) + 1) + 1) + 1) + 1) + 1) + 1) + 1) + 1)))))), (h1, .inl (cB, 2000, .inl (upd (upd (upd (upd (upd (upd (upd (upd (upd f (tl) (zby p0 24)) ((tl + 1)) (zby p0 16)) (((tl + 1) + 1)) (zby p0 8)) ((((tl + 1) + 1) + 1)) (zby p0 0)) (((((tl + 1) + 1) + 1) + 1)) (zby p1 24)) ((((((tl + 1) + 1) + 1) + 1) + 1)) (zby p1 16)) (((((((tl + 1) + 1) + 1) + 1) + 1) + 1)) (zby p1 8)) ((((((((tl + 1) + 1) + 1) + 1) + 1) + 1) + 1)) (zby p1 0)) (((((((((tl + 1) + 1) + 1) + 1) + 1) + 1) + 1) + 1)) (zby p2 24))))] H := hP
  have hD : va_D A [(h0, .inr (15, (fs.set 3 (.int (nI (((((((((tl + 1) + 1) + 1) + 1) + 1) + 1) + 1) + 1) + 1)))))), (h1, .inl (cB, 2000, .inl (upd (upd (upd (upd (upd (upd (upd (upd (upd f (tl) (zby p0 24)) ((tl + 1)) (zby p0 16)) (((tl + 1) + 1)) (zby p0 8)) ((((tl + 1) + 1) + 1)) (zby p0 0)) (((((tl + 1) + 1) + 1) + 1)) (zby p1 24)) ((((((tl + 1) + 1) + 1) + 1) + 1)) (zby p1 16)) (((((((tl + 1) + 1) + 1) + 1) + 1) + 1)) (zby p1 8)) ((((((((tl + 1) + 1) + 1) + 1) + 1) + 1) + 1)) (zby p1 0)) (((((((((tl + 1) + 1) + 1) + 1) + 1) + 1) + 1) + 1)) (zby p2 24))))] := hD
  refine lv_iinc (v := 9) (lv' := [(6, .int 9), (7, .int p2), (0, .ref h0), (1, .int p0), (2, .int p1), (3, .int p2), (4, .int p3), (5, .int p4)]) hx hb dX13_feed_106 hl (k := 1) rfl (by decide) (by decide) rfl (fun ls hl => ?_)
  refine lv_goto (tgt := 18) hx hb dX13_feed_109 (by decide) ?_
  refine lv_iload hx hb dX13_feed_18 (lv_at hl 0 rfl) ?_
  refine lv_bipush (v := 20) hx hb dX13_feed_20 (by decide) ?_
  refine lv_icmp_ge (tgt := 112) hx hb dX13_feed_22 (by decide) (fun c_26 => absurd c_26 (by decide)) (fun c_26 => ?_)
  refine lv_iload hx hb dX13_feed_25 (lv_at hl 0 rfl) ?_
  refine lv_iconst (v := 4) hx hb dX13_feed_27 (by decide) ?_
  refine lv_icmp_ge (tgt := 35) hx hb dX13_feed_28 (by decide) (fun c_27 => ?_) (fun c_27 => absurd (by decide) c_27)
  refine lv_iload hx hb dX13_feed_35 (lv_at hl 0 rfl) ?_
  refine lv_bipush (v := 8) hx hb dX13_feed_37 (by decide) ?_
  refine lv_icmp_ge (tgt := 46) hx hb dX13_feed_39 (by decide) (fun c_28 => ?_) (fun c_28 => absurd (by decide) c_28)
  refine lv_iload hx hb dX13_feed_46 (lv_at hl 0 rfl) ?_
  refine lv_bipush (v := 12) hx hb dX13_feed_48 (by decide) ?_
  refine lv_icmp_ge (tgt := 57) hx hb dX13_feed_50 (by decide) (fun c_29 => absurd c_29 (by decide)) (fun c_29 => ?_)
  refine lv_iload_n hx hb dX13_feed_53 rfl (lv_at hl 5 rfl) ?_
  refine lv_goto (tgt := 71) hx hb dX13_feed_54 (by decide) ?_
  refine lv_istore (lv' := [(7, .int p2), (6, .int 9), (0, .ref h0), (1, .int p0), (2, .int p1), (3, .int p2), (4, .int p3), (5, .int p4)]) hx hb dX13_feed_71 hl (by decide) rfl (fun ls hl => ?_)
  refine lv_aload_n hx hb dX13_feed_73 rfl (lv_at hl 2 rfl) ?_
  refine va_get (D := (dC, dI)) (ci := 15) (v := .ref h1) (C := RX13) (T := TX13) (N := 196) hx hb hts iw_X13_feed_X13 hown hK hP 0 rfl rfl 0 (by decide) (hts (.fieldLink RX13 9 "LiquidTongueModel" "tape" "[B") (by decide +kernel)) (fun _ h9 => h9) (zs_ne (by decide) hm) dX13_feed_74 ?_
  refine lv_aload_n hx hb dX13_feed_77 rfl (lv_at hl 2 rfl) ?_
  refine va_get (D := (dC, dI)) (ci := 15) (v := .int (nI (((((((((tl + 1) + 1) + 1) + 1) + 1) + 1) + 1) + 1) + 1))) (C := RX13) (T := TX13) (N := 196) hx hb hts iw_X13_feed_X13 hown hK hP 0 rfl rfl 3 (by decide) (hts (.fieldLink RX13 386 "LiquidTongueModel" "length" "I") (by decide +kernel)) (fun _ h9 => h9) (zs_eq (zs_lt hfl (by decide))) dX13_feed_78 ?_
  refine lv_iload hx hb dX13_feed_81 (lv_at hl 0 rfl) ?_
  refine lv_bipush (v := 24) hx hb dX13_feed_83 (by decide) ?_
  refine lv_bipush (v := 8) hx hb dX13_feed_85 (by decide) ?_
  refine lv_iload hx hb dX13_feed_87 (lv_at hl 1 rfl) ?_
  refine lv_iconst (v := 4) hx hb dX13_feed_89 (by decide) ?_
  refine lv_irem hx hb dX13_feed_90 (by decide) ?_
  refine lv_topi (fun z_65 ez_65 => ?_)
  have fz_65 : z_65 = 1 := ez_65.trans (by decide)
  clear ez_65
  subst fz_65
  refine lv_imul hx hb dX13_feed_91 ?_
  refine lv_topi (fun z_66 ez_66 => ?_)
  have fz_66 : z_66 = 8 := ez_66.trans (by decide)
  clear ez_66
  subst fz_66
  refine lv_isub hx hb dX13_feed_92 ?_
  refine lv_topi (fun z_67 ez_67 => ?_)
  have fz_67 : z_67 = 16 := ez_67.trans (by decide)
  clear ez_67
  subst fz_67
  refine lv_ishr hx hb dX13_feed_93 ?_
  refine lv_topi (fun z_68 ez_68 => ?_)
  obtain ⟨z_69, ez_69⟩ : ∃ y : Int32, y = (z_68).toInt8.toInt32 := ⟨_, rfl⟩
  refine lv_i2b (v := z_69) hx hb dX13_feed_94 ez_69.symm ?_
  refine va_bast hx hb hK hP hD hS 1 0 rfl rfl (vp_in_nI (by omega) (by decide)) dX13_feed_95 (fun H locs hP hD hS => ?_)
  rw [nI_clamp (n := (((((((((tl + 1) + 1) + 1) + 1) + 1) + 1) + 1) + 1) + 1)) (by omega), show vp_nar .byte z_69 = zby p2 16 from by rw [ez_69, ez_68]; exact pk_vb _] at hP hD
  have hP : va_P (dC, dI) vwCl [(h0, .inr (15, (fs.set 3 (.int (nI (((((((((tl + 1) + 1) + 1) + 1) + 1) + 1) + 1) + 1) + 1)))))), (h1, .inl (cB, 2000, .inl (upd (upd (upd (upd (upd (upd (upd (upd (upd (upd f (tl) (zby p0 24)) ((tl + 1)) (zby p0 16)) (((tl + 1) + 1)) (zby p0 8)) ((((tl + 1) + 1) + 1)) (zby p0 0)) (((((tl + 1) + 1) + 1) + 1)) (zby p1 24)) ((((((tl + 1) + 1) + 1) + 1) + 1)) (zby p1 16)) (((((((tl + 1) + 1) + 1) + 1) + 1) + 1)) (zby p1 8)) ((((((((tl + 1) + 1) + 1) + 1) + 1) + 1) + 1)) (zby p1 0)) (((((((((tl + 1) + 1) + 1) + 1) + 1) + 1) + 1) + 1)) (zby p2 24)) ((((((((((tl + 1) + 1) + 1) + 1) + 1) + 1) + 1) + 1) + 1)) (zby p2 16))))] H := hP
  have hD : va_D A [(h0, .inr (15, (fs.set 3 (.int (nI (((((((((tl + 1) + 1) + 1) + 1) + 1) + 1) + 1) + 1) + 1)))))), (h1, .inl (cB, 2000, .inl (upd (upd (upd (upd (upd (upd (upd (upd (upd (upd f (tl) (zby p0 24)) ((tl + 1)) (zby p0 16)) (((tl + 1) + 1)) (zby p0 8)) ((((tl + 1) + 1) + 1)) (zby p0 0)) (((((tl + 1) + 1) + 1) + 1)) (zby p1 24)) ((((((tl + 1) + 1) + 1) + 1) + 1)) (zby p1 16)) (((((((tl + 1) + 1) + 1) + 1) + 1) + 1)) (zby p1 8)) ((((((((tl + 1) + 1) + 1) + 1) + 1) + 1) + 1)) (zby p1 0)) (((((((((tl + 1) + 1) + 1) + 1) + 1) + 1) + 1) + 1)) (zby p2 24)) ((((((((((tl + 1) + 1) + 1) + 1) + 1) + 1) + 1) + 1) + 1)) (zby p2 16))))] := hD
  refine lv_aload_n hx hb dX13_feed_96 rfl (lv_at hl 2 rfl) ?_
  refine lv_dup hx hb dX13_feed_97 rfl ?_
  refine va_get (D := (dC, dI)) (ci := 15) (v := .int (nI (((((((((tl + 1) + 1) + 1) + 1) + 1) + 1) + 1) + 1) + 1))) (C := RX13) (T := TX13) (N := 196) hx hb hts iw_X13_feed_X13 hown hK hP 0 rfl rfl 3 (by decide) (hts (.fieldLink RX13 386 "LiquidTongueModel" "length" "I") (by decide +kernel)) (fun _ h9 => h9) (zs_eq (zs_lt hfl (by decide))) dX13_feed_98 ?_
  refine lv_iconst (v := 1) hx hb dX13_feed_101 (by decide) ?_
  refine lv_iadd hx hb dX13_feed_102 ?_
  refine lv_topi (fun z_70 ez_70 => ?_)
  have fz_70 : z_70 = nI ((((((((((tl + 1) + 1) + 1) + 1) + 1) + 1) + 1) + 1) + 1) + 1) := ez_70.trans (nI_1 _)
  clear ez_70
  subst fz_70
  refine va_put (D := (dC, dI)) (ci := 15) (v := .int (nI ((((((((((tl + 1) + 1) + 1) + 1) + 1) + 1) + 1) + 1) + 1) + 1))) (ty := .int) (C := RX13) (T := TX13) (N := 196) hx hb hts iw_X13_feed_X13 tyX13 tyX13_ok nmX13 hown hK hP hD hS 0 rfl rfl 3 (by decide) (hts (.fieldLink RX13 386 "LiquidTongueModel" "length" "I") (by decide +kernel)) (fun _ h9 => h9) rfl (by decide +kernel) rfl rfl (zs_lt (zs_len hfl) (by decide)) dX13_feed_103 (fun H locs hP hD hS => ?_)
  rw [List.set_set] at hP hD
  have hP : va_P (dC, dI) vwCl [(h0, .inr (15, (fs.set 3 (.int (nI ((((((((((tl + 1) + 1) + 1) + 1) + 1) + 1) + 1) + 1) + 1) + 1)))))), (h1, .inl (cB, 2000, .inl (upd (upd (upd (upd (upd (upd (upd (upd (upd (upd f (tl) (zby p0 24)) ((tl + 1)) (zby p0 16)) (((tl + 1) + 1)) (zby p0 8)) ((((tl + 1) + 1) + 1)) (zby p0 0)) (((((tl + 1) + 1) + 1) + 1)) (zby p1 24)) ((((((tl + 1) + 1) + 1) + 1) + 1)) (zby p1 16)) (((((((tl + 1) + 1) + 1) + 1) + 1) + 1)) (zby p1 8)) ((((((((tl + 1) + 1) + 1) + 1) + 1) + 1) + 1)) (zby p1 0)) (((((((((tl + 1) + 1) + 1) + 1) + 1) + 1) + 1) + 1)) (zby p2 24)) ((((((((((tl + 1) + 1) + 1) + 1) + 1) + 1) + 1) + 1) + 1)) (zby p2 16))))] H := hP
  have hD : va_D A [(h0, .inr (15, (fs.set 3 (.int (nI ((((((((((tl + 1) + 1) + 1) + 1) + 1) + 1) + 1) + 1) + 1) + 1)))))), (h1, .inl (cB, 2000, .inl (upd (upd (upd (upd (upd (upd (upd (upd (upd (upd f (tl) (zby p0 24)) ((tl + 1)) (zby p0 16)) (((tl + 1) + 1)) (zby p0 8)) ((((tl + 1) + 1) + 1)) (zby p0 0)) (((((tl + 1) + 1) + 1) + 1)) (zby p1 24)) ((((((tl + 1) + 1) + 1) + 1) + 1)) (zby p1 16)) (((((((tl + 1) + 1) + 1) + 1) + 1) + 1)) (zby p1 8)) ((((((((tl + 1) + 1) + 1) + 1) + 1) + 1) + 1)) (zby p1 0)) (((((((((tl + 1) + 1) + 1) + 1) + 1) + 1) + 1) + 1)) (zby p2 24)) ((((((((((tl + 1) + 1) + 1) + 1) + 1) + 1) + 1) + 1) + 1)) (zby p2 16))))] := hD
  refine lv_iinc (v := 10) (lv' := [(6, .int 10), (7, .int p2), (0, .ref h0), (1, .int p0), (2, .int p1), (3, .int p2), (4, .int p3), (5, .int p4)]) hx hb dX13_feed_106 hl (k := 1) rfl (by decide) (by decide) rfl (fun ls hl => ?_)
  refine lv_goto (tgt := 18) hx hb dX13_feed_109 (by decide) ?_
  refine lv_iload hx hb dX13_feed_18 (lv_at hl 0 rfl) ?_
  refine lv_bipush (v := 20) hx hb dX13_feed_20 (by decide) ?_
  refine lv_icmp_ge (tgt := 112) hx hb dX13_feed_22 (by decide) (fun c_30 => absurd c_30 (by decide)) (fun c_30 => ?_)
  refine lv_iload hx hb dX13_feed_25 (lv_at hl 0 rfl) ?_
  refine lv_iconst (v := 4) hx hb dX13_feed_27 (by decide) ?_
  refine lv_icmp_ge (tgt := 35) hx hb dX13_feed_28 (by decide) (fun c_31 => ?_) (fun c_31 => absurd (by decide) c_31)
  refine lv_iload hx hb dX13_feed_35 (lv_at hl 0 rfl) ?_
  refine lv_bipush (v := 8) hx hb dX13_feed_37 (by decide) ?_
  refine lv_icmp_ge (tgt := 46) hx hb dX13_feed_39 (by decide) (fun c_32 => ?_) (fun c_32 => absurd (by decide) c_32)
  refine lv_iload hx hb dX13_feed_46 (lv_at hl 0 rfl) ?_
  refine lv_bipush (v := 12) hx hb dX13_feed_48 (by decide) ?_
  refine lv_icmp_ge (tgt := 57) hx hb dX13_feed_50 (by decide) (fun c_33 => absurd c_33 (by decide)) (fun c_33 => ?_)
  refine lv_iload_n hx hb dX13_feed_53 rfl (lv_at hl 5 rfl) ?_
  refine lv_goto (tgt := 71) hx hb dX13_feed_54 (by decide) ?_
  refine lv_istore (lv' := [(7, .int p2), (6, .int 10), (0, .ref h0), (1, .int p0), (2, .int p1), (3, .int p2), (4, .int p3), (5, .int p4)]) hx hb dX13_feed_71 hl (by decide) rfl (fun ls hl => ?_)
  refine lv_aload_n hx hb dX13_feed_73 rfl (lv_at hl 2 rfl) ?_
  refine va_get (D := (dC, dI)) (ci := 15) (v := .ref h1) (C := RX13) (T := TX13) (N := 196) hx hb hts iw_X13_feed_X13 hown hK hP 0 rfl rfl 0 (by decide) (hts (.fieldLink RX13 9 "LiquidTongueModel" "tape" "[B") (by decide +kernel)) (fun _ h9 => h9) (zs_ne (by decide) hm) dX13_feed_74 ?_
  refine lv_aload_n hx hb dX13_feed_77 rfl (lv_at hl 2 rfl) ?_
  refine va_get (D := (dC, dI)) (ci := 15) (v := .int (nI ((((((((((tl + 1) + 1) + 1) + 1) + 1) + 1) + 1) + 1) + 1) + 1))) (C := RX13) (T := TX13) (N := 196) hx hb hts iw_X13_feed_X13 hown hK hP 0 rfl rfl 3 (by decide) (hts (.fieldLink RX13 386 "LiquidTongueModel" "length" "I") (by decide +kernel)) (fun _ h9 => h9) (zs_eq (zs_lt hfl (by decide))) dX13_feed_78 ?_
  refine lv_iload hx hb dX13_feed_81 (lv_at hl 0 rfl) ?_
  refine lv_bipush (v := 24) hx hb dX13_feed_83 (by decide) ?_
  refine lv_bipush (v := 8) hx hb dX13_feed_85 (by decide) ?_
  refine lv_iload hx hb dX13_feed_87 (lv_at hl 1 rfl) ?_
  refine lv_iconst (v := 4) hx hb dX13_feed_89 (by decide) ?_
  refine lv_irem hx hb dX13_feed_90 (by decide) ?_
  refine lv_topi (fun z_72 ez_72 => ?_)
  have fz_72 : z_72 = 2 := ez_72.trans (by decide)
  clear ez_72
  subst fz_72
  refine lv_imul hx hb dX13_feed_91 ?_
  refine lv_topi (fun z_73 ez_73 => ?_)
  have fz_73 : z_73 = 16 := ez_73.trans (by decide)
  clear ez_73
  subst fz_73
  refine lv_isub hx hb dX13_feed_92 ?_
  refine lv_topi (fun z_74 ez_74 => ?_)
  have fz_74 : z_74 = 8 := ez_74.trans (by decide)
  clear ez_74
  subst fz_74
  refine lv_ishr hx hb dX13_feed_93 ?_
  refine lv_topi (fun z_75 ez_75 => ?_)
  obtain ⟨z_76, ez_76⟩ : ∃ y : Int32, y = (z_75).toInt8.toInt32 := ⟨_, rfl⟩
  refine lv_i2b (v := z_76) hx hb dX13_feed_94 ez_76.symm ?_
  refine va_bast hx hb hK hP hD hS 1 0 rfl rfl (vp_in_nI (by omega) (by decide)) dX13_feed_95 (fun H locs hP hD hS => ?_)
  rw [nI_clamp (n := ((((((((((tl + 1) + 1) + 1) + 1) + 1) + 1) + 1) + 1) + 1) + 1)) (by omega), show vp_nar .byte z_76 = zby p2 8 from by rw [ez_76, ez_75]; exact pk_vb _] at hP hD
  have hP : va_P (dC, dI) vwCl [(h0, .inr (15, (fs.set 3 (.int (nI ((((((((((tl + 1) + 1) + 1) + 1) + 1) + 1) + 1) + 1) + 1) + 1)))))), (h1, .inl (cB, 2000, .inl (upd (upd (upd (upd (upd (upd (upd (upd (upd (upd (upd f (tl) (zby p0 24)) ((tl + 1)) (zby p0 16)) (((tl + 1) + 1)) (zby p0 8)) ((((tl + 1) + 1) + 1)) (zby p0 0)) (((((tl + 1) + 1) + 1) + 1)) (zby p1 24)) ((((((tl + 1) + 1) + 1) + 1) + 1)) (zby p1 16)) (((((((tl + 1) + 1) + 1) + 1) + 1) + 1)) (zby p1 8)) ((((((((tl + 1) + 1) + 1) + 1) + 1) + 1) + 1)) (zby p1 0)) (((((((((tl + 1) + 1) + 1) + 1) + 1) + 1) + 1) + 1)) (zby p2 24)) ((((((((((tl + 1) + 1) + 1) + 1) + 1) + 1) + 1) + 1) + 1)) (zby p2 16)) (((((((((((tl + 1) + 1) + 1) + 1) + 1) + 1) + 1) + 1) + 1) + 1)) (zby p2 8))))] H := hP
  have hD : va_D A [(h0, .inr (15, (fs.set 3 (.int (nI ((((((((((tl + 1) + 1) + 1) + 1) + 1) + 1) + 1) + 1) + 1) + 1)))))), (h1, .inl (cB, 2000, .inl (upd (upd (upd (upd (upd (upd (upd (upd (upd (upd (upd f (tl) (zby p0 24)) ((tl + 1)) (zby p0 16)) (((tl + 1) + 1)) (zby p0 8)) ((((tl + 1) + 1) + 1)) (zby p0 0)) (((((tl + 1) + 1) + 1) + 1)) (zby p1 24)) ((((((tl + 1) + 1) + 1) + 1) + 1)) (zby p1 16)) (((((((tl + 1) + 1) + 1) + 1) + 1) + 1)) (zby p1 8)) ((((((((tl + 1) + 1) + 1) + 1) + 1) + 1) + 1)) (zby p1 0)) (((((((((tl + 1) + 1) + 1) + 1) + 1) + 1) + 1) + 1)) (zby p2 24)) ((((((((((tl + 1) + 1) + 1) + 1) + 1) + 1) + 1) + 1) + 1)) (zby p2 16)) (((((((((((tl + 1) + 1) + 1) + 1) + 1) + 1) + 1) + 1) + 1) + 1)) (zby p2 8))))] := hD
  refine lv_aload_n hx hb dX13_feed_96 rfl (lv_at hl 2 rfl) ?_
  refine lv_dup hx hb dX13_feed_97 rfl ?_
  refine va_get (D := (dC, dI)) (ci := 15) (v := .int (nI ((((((((((tl + 1) + 1) + 1) + 1) + 1) + 1) + 1) + 1) + 1) + 1))) (C := RX13) (T := TX13) (N := 196) hx hb hts iw_X13_feed_X13 hown hK hP 0 rfl rfl 3 (by decide) (hts (.fieldLink RX13 386 "LiquidTongueModel" "length" "I") (by decide +kernel)) (fun _ h9 => h9) (zs_eq (zs_lt hfl (by decide))) dX13_feed_98 ?_
  refine lv_iconst (v := 1) hx hb dX13_feed_101 (by decide) ?_
  refine lv_iadd hx hb dX13_feed_102 ?_
  refine lv_topi (fun z_77 ez_77 => ?_)
  have fz_77 : z_77 = nI (((((((((((tl + 1) + 1) + 1) + 1) + 1) + 1) + 1) + 1) + 1) + 1) + 1) := ez_77.trans (nI_1 _)
  clear ez_77
  subst fz_77
  refine va_put (D := (dC, dI)) (ci := 15) (v := .int (nI (((((((((((tl + 1) + 1) + 1) + 1) + 1) + 1) + 1) + 1) + 1) + 1) + 1))) (ty := .int) (C := RX13) (T := TX13) (N := 196) hx hb hts iw_X13_feed_X13 tyX13 tyX13_ok nmX13 hown hK hP hD hS 0 rfl rfl 3 (by decide) (hts (.fieldLink RX13 386 "LiquidTongueModel" "length" "I") (by decide +kernel)) (fun _ h9 => h9) rfl (by decide +kernel) rfl rfl (zs_lt (zs_len hfl) (by decide)) dX13_feed_103 (fun H locs hP hD hS => ?_)
  rw [List.set_set] at hP hD
  have hP : va_P (dC, dI) vwCl [(h0, .inr (15, (fs.set 3 (.int (nI (((((((((((tl + 1) + 1) + 1) + 1) + 1) + 1) + 1) + 1) + 1) + 1) + 1)))))), (h1, .inl (cB, 2000, .inl (upd (upd (upd (upd (upd (upd (upd (upd (upd (upd (upd f (tl) (zby p0 24)) ((tl + 1)) (zby p0 16)) (((tl + 1) + 1)) (zby p0 8)) ((((tl + 1) + 1) + 1)) (zby p0 0)) (((((tl + 1) + 1) + 1) + 1)) (zby p1 24)) ((((((tl + 1) + 1) + 1) + 1) + 1)) (zby p1 16)) (((((((tl + 1) + 1) + 1) + 1) + 1) + 1)) (zby p1 8)) ((((((((tl + 1) + 1) + 1) + 1) + 1) + 1) + 1)) (zby p1 0)) (((((((((tl + 1) + 1) + 1) + 1) + 1) + 1) + 1) + 1)) (zby p2 24)) ((((((((((tl + 1) + 1) + 1) + 1) + 1) + 1) + 1) + 1) + 1)) (zby p2 16)) (((((((((((tl + 1) + 1) + 1) + 1) + 1) + 1) + 1) + 1) + 1) + 1)) (zby p2 8))))] H := hP
  have hD : va_D A [(h0, .inr (15, (fs.set 3 (.int (nI (((((((((((tl + 1) + 1) + 1) + 1) + 1) + 1) + 1) + 1) + 1) + 1) + 1)))))), (h1, .inl (cB, 2000, .inl (upd (upd (upd (upd (upd (upd (upd (upd (upd (upd (upd f (tl) (zby p0 24)) ((tl + 1)) (zby p0 16)) (((tl + 1) + 1)) (zby p0 8)) ((((tl + 1) + 1) + 1)) (zby p0 0)) (((((tl + 1) + 1) + 1) + 1)) (zby p1 24)) ((((((tl + 1) + 1) + 1) + 1) + 1)) (zby p1 16)) (((((((tl + 1) + 1) + 1) + 1) + 1) + 1)) (zby p1 8)) ((((((((tl + 1) + 1) + 1) + 1) + 1) + 1) + 1)) (zby p1 0)) (((((((((tl + 1) + 1) + 1) + 1) + 1) + 1) + 1) + 1)) (zby p2 24)) ((((((((((tl + 1) + 1) + 1) + 1) + 1) + 1) + 1) + 1) + 1)) (zby p2 16)) (((((((((((tl + 1) + 1) + 1) + 1) + 1) + 1) + 1) + 1) + 1) + 1)) (zby p2 8))))] := hD
  refine lv_iinc (v := 11) (lv' := [(6, .int 11), (7, .int p2), (0, .ref h0), (1, .int p0), (2, .int p1), (3, .int p2), (4, .int p3), (5, .int p4)]) hx hb dX13_feed_106 hl (k := 1) rfl (by decide) (by decide) rfl (fun ls hl => ?_)
  refine lv_goto (tgt := 18) hx hb dX13_feed_109 (by decide) ?_
  refine lv_iload hx hb dX13_feed_18 (lv_at hl 0 rfl) ?_
  refine lv_bipush (v := 20) hx hb dX13_feed_20 (by decide) ?_
  refine lv_icmp_ge (tgt := 112) hx hb dX13_feed_22 (by decide) (fun c_34 => absurd c_34 (by decide)) (fun c_34 => ?_)
  refine lv_iload hx hb dX13_feed_25 (lv_at hl 0 rfl) ?_
  refine lv_iconst (v := 4) hx hb dX13_feed_27 (by decide) ?_
  refine lv_icmp_ge (tgt := 35) hx hb dX13_feed_28 (by decide) (fun c_35 => ?_) (fun c_35 => absurd (by decide) c_35)
  refine lv_iload hx hb dX13_feed_35 (lv_at hl 0 rfl) ?_
  refine lv_bipush (v := 8) hx hb dX13_feed_37 (by decide) ?_
  refine lv_icmp_ge (tgt := 46) hx hb dX13_feed_39 (by decide) (fun c_36 => ?_) (fun c_36 => absurd (by decide) c_36)
  refine lv_iload hx hb dX13_feed_46 (lv_at hl 0 rfl) ?_
  refine lv_bipush (v := 12) hx hb dX13_feed_48 (by decide) ?_
  refine lv_icmp_ge (tgt := 57) hx hb dX13_feed_50 (by decide) (fun c_37 => absurd c_37 (by decide)) (fun c_37 => ?_)
  refine lv_iload_n hx hb dX13_feed_53 rfl (lv_at hl 5 rfl) ?_
  refine lv_goto (tgt := 71) hx hb dX13_feed_54 (by decide) ?_
  refine lv_istore (lv' := [(7, .int p2), (6, .int 11), (0, .ref h0), (1, .int p0), (2, .int p1), (3, .int p2), (4, .int p3), (5, .int p4)]) hx hb dX13_feed_71 hl (by decide) rfl (fun ls hl => ?_)
  refine lv_aload_n hx hb dX13_feed_73 rfl (lv_at hl 2 rfl) ?_
  refine va_get (D := (dC, dI)) (ci := 15) (v := .ref h1) (C := RX13) (T := TX13) (N := 196) hx hb hts iw_X13_feed_X13 hown hK hP 0 rfl rfl 0 (by decide) (hts (.fieldLink RX13 9 "LiquidTongueModel" "tape" "[B") (by decide +kernel)) (fun _ h9 => h9) (zs_ne (by decide) hm) dX13_feed_74 ?_
  refine lv_aload_n hx hb dX13_feed_77 rfl (lv_at hl 2 rfl) ?_
  refine va_get (D := (dC, dI)) (ci := 15) (v := .int (nI (((((((((((tl + 1) + 1) + 1) + 1) + 1) + 1) + 1) + 1) + 1) + 1) + 1))) (C := RX13) (T := TX13) (N := 196) hx hb hts iw_X13_feed_X13 hown hK hP 0 rfl rfl 3 (by decide) (hts (.fieldLink RX13 386 "LiquidTongueModel" "length" "I") (by decide +kernel)) (fun _ h9 => h9) (zs_eq (zs_lt hfl (by decide))) dX13_feed_78 ?_
  refine lv_iload hx hb dX13_feed_81 (lv_at hl 0 rfl) ?_
  refine lv_bipush (v := 24) hx hb dX13_feed_83 (by decide) ?_
  refine lv_bipush (v := 8) hx hb dX13_feed_85 (by decide) ?_
  refine lv_iload hx hb dX13_feed_87 (lv_at hl 1 rfl) ?_
  refine lv_iconst (v := 4) hx hb dX13_feed_89 (by decide) ?_
  refine lv_irem hx hb dX13_feed_90 (by decide) ?_
  refine lv_topi (fun z_79 ez_79 => ?_)
  have fz_79 : z_79 = 3 := ez_79.trans (by decide)
  clear ez_79
  subst fz_79
  refine lv_imul hx hb dX13_feed_91 ?_
  refine lv_topi (fun z_80 ez_80 => ?_)
  have fz_80 : z_80 = 24 := ez_80.trans (by decide)
  clear ez_80
  subst fz_80
  refine lv_isub hx hb dX13_feed_92 ?_
  refine lv_topi (fun z_81 ez_81 => ?_)
  have fz_81 : z_81 = 0 := ez_81.trans (by decide)
  clear ez_81
  subst fz_81
  refine lv_ishr hx hb dX13_feed_93 ?_
  refine lv_topi (fun z_82 ez_82 => ?_)
  obtain ⟨z_83, ez_83⟩ : ∃ y : Int32, y = (z_82).toInt8.toInt32 := ⟨_, rfl⟩
  refine lv_i2b (v := z_83) hx hb dX13_feed_94 ez_83.symm ?_
  refine va_bast hx hb hK hP hD hS 1 0 rfl rfl (vp_in_nI (by omega) (by decide)) dX13_feed_95 (fun H locs hP hD hS => ?_)
  rw [nI_clamp (n := (((((((((((tl + 1) + 1) + 1) + 1) + 1) + 1) + 1) + 1) + 1) + 1) + 1)) (by omega), show vp_nar .byte z_83 = zby p2 0 from by rw [ez_83, ez_82]; exact pk_vb _] at hP hD
  have hP : va_P (dC, dI) vwCl [(h0, .inr (15, (fs.set 3 (.int (nI (((((((((((tl + 1) + 1) + 1) + 1) + 1) + 1) + 1) + 1) + 1) + 1) + 1)))))), (h1, .inl (cB, 2000, .inl (upd (upd (upd (upd (upd (upd (upd (upd (upd (upd (upd (upd f (tl) (zby p0 24)) ((tl + 1)) (zby p0 16)) (((tl + 1) + 1)) (zby p0 8)) ((((tl + 1) + 1) + 1)) (zby p0 0)) (((((tl + 1) + 1) + 1) + 1)) (zby p1 24)) ((((((tl + 1) + 1) + 1) + 1) + 1)) (zby p1 16)) (((((((tl + 1) + 1) + 1) + 1) + 1) + 1)) (zby p1 8)) ((((((((tl + 1) + 1) + 1) + 1) + 1) + 1) + 1)) (zby p1 0)) (((((((((tl + 1) + 1) + 1) + 1) + 1) + 1) + 1) + 1)) (zby p2 24)) ((((((((((tl + 1) + 1) + 1) + 1) + 1) + 1) + 1) + 1) + 1)) (zby p2 16)) (((((((((((tl + 1) + 1) + 1) + 1) + 1) + 1) + 1) + 1) + 1) + 1)) (zby p2 8)) ((((((((((((tl + 1) + 1) + 1) + 1) + 1) + 1) + 1) + 1) + 1) + 1) + 1)) (zby p2 0))))] H := hP
  have hD : va_D A [(h0, .inr (15, (fs.set 3 (.int (nI (((((((((((tl + 1) + 1) + 1) + 1) + 1) + 1) + 1) + 1) + 1) + 1) + 1)))))), (h1, .inl (cB, 2000, .inl (upd (upd (upd (upd (upd (upd (upd (upd (upd (upd (upd (upd f (tl) (zby p0 24)) ((tl + 1)) (zby p0 16)) (((tl + 1) + 1)) (zby p0 8)) ((((tl + 1) + 1) + 1)) (zby p0 0)) (((((tl + 1) + 1) + 1) + 1)) (zby p1 24)) ((((((tl + 1) + 1) + 1) + 1) + 1)) (zby p1 16)) (((((((tl + 1) + 1) + 1) + 1) + 1) + 1)) (zby p1 8)) ((((((((tl + 1) + 1) + 1) + 1) + 1) + 1) + 1)) (zby p1 0)) (((((((((tl + 1) + 1) + 1) + 1) + 1) + 1) + 1) + 1)) (zby p2 24)) ((((((((((tl + 1) + 1) + 1) + 1) + 1) + 1) + 1) + 1) + 1)) (zby p2 16)) (((((((((((tl + 1) + 1) + 1) + 1) + 1) + 1) + 1) + 1) + 1) + 1)) (zby p2 8)) ((((((((((((tl + 1) + 1) + 1) + 1) + 1) + 1) + 1) + 1) + 1) + 1) + 1)) (zby p2 0))))] := hD
  refine lv_aload_n hx hb dX13_feed_96 rfl (lv_at hl 2 rfl) ?_
  refine lv_dup hx hb dX13_feed_97 rfl ?_
  refine va_get (D := (dC, dI)) (ci := 15) (v := .int (nI (((((((((((tl + 1) + 1) + 1) + 1) + 1) + 1) + 1) + 1) + 1) + 1) + 1))) (C := RX13) (T := TX13) (N := 196) hx hb hts iw_X13_feed_X13 hown hK hP 0 rfl rfl 3 (by decide) (hts (.fieldLink RX13 386 "LiquidTongueModel" "length" "I") (by decide +kernel)) (fun _ h9 => h9) (zs_eq (zs_lt hfl (by decide))) dX13_feed_98 ?_
  refine lv_iconst (v := 1) hx hb dX13_feed_101 (by decide) ?_
  refine lv_iadd hx hb dX13_feed_102 ?_
  refine lv_topi (fun z_84 ez_84 => ?_)
  have fz_84 : z_84 = nI ((((((((((((tl + 1) + 1) + 1) + 1) + 1) + 1) + 1) + 1) + 1) + 1) + 1) + 1) := ez_84.trans (nI_1 _)
  clear ez_84
  subst fz_84
  refine va_put (D := (dC, dI)) (ci := 15) (v := .int (nI ((((((((((((tl + 1) + 1) + 1) + 1) + 1) + 1) + 1) + 1) + 1) + 1) + 1) + 1))) (ty := .int) (C := RX13) (T := TX13) (N := 196) hx hb hts iw_X13_feed_X13 tyX13 tyX13_ok nmX13 hown hK hP hD hS 0 rfl rfl 3 (by decide) (hts (.fieldLink RX13 386 "LiquidTongueModel" "length" "I") (by decide +kernel)) (fun _ h9 => h9) rfl (by decide +kernel) rfl rfl (zs_lt (zs_len hfl) (by decide)) dX13_feed_103 (fun H locs hP hD hS => ?_)
  rw [List.set_set] at hP hD
  have hP : va_P (dC, dI) vwCl [(h0, .inr (15, (fs.set 3 (.int (nI ((((((((((((tl + 1) + 1) + 1) + 1) + 1) + 1) + 1) + 1) + 1) + 1) + 1) + 1)))))), (h1, .inl (cB, 2000, .inl (upd (upd (upd (upd (upd (upd (upd (upd (upd (upd (upd (upd f (tl) (zby p0 24)) ((tl + 1)) (zby p0 16)) (((tl + 1) + 1)) (zby p0 8)) ((((tl + 1) + 1) + 1)) (zby p0 0)) (((((tl + 1) + 1) + 1) + 1)) (zby p1 24)) ((((((tl + 1) + 1) + 1) + 1) + 1)) (zby p1 16)) (((((((tl + 1) + 1) + 1) + 1) + 1) + 1)) (zby p1 8)) ((((((((tl + 1) + 1) + 1) + 1) + 1) + 1) + 1)) (zby p1 0)) (((((((((tl + 1) + 1) + 1) + 1) + 1) + 1) + 1) + 1)) (zby p2 24)) ((((((((((tl + 1) + 1) + 1) + 1) + 1) + 1) + 1) + 1) + 1)) (zby p2 16)) (((((((((((tl + 1) + 1) + 1) + 1) + 1) + 1) + 1) + 1) + 1) + 1)) (zby p2 8)) ((((((((((((tl + 1) + 1) + 1) + 1) + 1) + 1) + 1) + 1) + 1) + 1) + 1)) (zby p2 0))))] H := hP
  have hD : va_D A [(h0, .inr (15, (fs.set 3 (.int (nI ((((((((((((tl + 1) + 1) + 1) + 1) + 1) + 1) + 1) + 1) + 1) + 1) + 1) + 1)))))), (h1, .inl (cB, 2000, .inl (upd (upd (upd (upd (upd (upd (upd (upd (upd (upd (upd (upd f (tl) (zby p0 24)) ((tl + 1)) (zby p0 16)) (((tl + 1) + 1)) (zby p0 8)) ((((tl + 1) + 1) + 1)) (zby p0 0)) (((((tl + 1) + 1) + 1) + 1)) (zby p1 24)) ((((((tl + 1) + 1) + 1) + 1) + 1)) (zby p1 16)) (((((((tl + 1) + 1) + 1) + 1) + 1) + 1)) (zby p1 8)) ((((((((tl + 1) + 1) + 1) + 1) + 1) + 1) + 1)) (zby p1 0)) (((((((((tl + 1) + 1) + 1) + 1) + 1) + 1) + 1) + 1)) (zby p2 24)) ((((((((((tl + 1) + 1) + 1) + 1) + 1) + 1) + 1) + 1) + 1)) (zby p2 16)) (((((((((((tl + 1) + 1) + 1) + 1) + 1) + 1) + 1) + 1) + 1) + 1)) (zby p2 8)) ((((((((((((tl + 1) + 1) + 1) + 1) + 1) + 1) + 1) + 1) + 1) + 1) + 1)) (zby p2 0))))] := hD
  refine lv_iinc (v := 12) (lv' := [(6, .int 12), (7, .int p2), (0, .ref h0), (1, .int p0), (2, .int p1), (3, .int p2), (4, .int p3), (5, .int p4)]) hx hb dX13_feed_106 hl (k := 1) rfl (by decide) (by decide) rfl (fun ls hl => ?_)
  refine lv_goto (tgt := 18) hx hb dX13_feed_109 (by decide) ?_
  refine lv_iload hx hb dX13_feed_18 (lv_at hl 0 rfl) ?_
  refine lv_bipush (v := 20) hx hb dX13_feed_20 (by decide) ?_
  refine lv_icmp_ge (tgt := 112) hx hb dX13_feed_22 (by decide) (fun c_38 => absurd c_38 (by decide)) (fun c_38 => ?_)
  refine lv_iload hx hb dX13_feed_25 (lv_at hl 0 rfl) ?_
  refine lv_iconst (v := 4) hx hb dX13_feed_27 (by decide) ?_
  refine lv_icmp_ge (tgt := 35) hx hb dX13_feed_28 (by decide) (fun c_39 => ?_) (fun c_39 => absurd (by decide) c_39)
  refine lv_iload hx hb dX13_feed_35 (lv_at hl 0 rfl) ?_
  refine lv_bipush (v := 8) hx hb dX13_feed_37 (by decide) ?_
  refine lv_icmp_ge (tgt := 46) hx hb dX13_feed_39 (by decide) (fun c_40 => ?_) (fun c_40 => absurd (by decide) c_40)
  refine lv_iload hx hb dX13_feed_46 (lv_at hl 0 rfl) ?_
  refine lv_bipush (v := 12) hx hb dX13_feed_48 (by decide) ?_
  refine lv_icmp_ge (tgt := 57) hx hb dX13_feed_50 (by decide) (fun c_41 => ?_) (fun c_41 => absurd (by decide) c_41)
  refine lv_iload hx hb dX13_feed_57 (lv_at hl 0 rfl) ?_
  refine lv_bipush (v := 16) hx hb dX13_feed_59 (by decide) ?_
  refine lv_icmp_ge (tgt := 69) hx hb dX13_feed_61 (by decide) (fun c_42 => absurd c_42 (by decide)) (fun c_42 => ?_)
  refine lv_iload hx hb dX13_feed_64 (lv_at hl 6 rfl) ?_
  refine lv_goto (tgt := 71) hx hb dX13_feed_66 (by decide) ?_
  refine lv_istore (lv' := [(7, .int p3), (6, .int 12), (0, .ref h0), (1, .int p0), (2, .int p1), (3, .int p2), (4, .int p3), (5, .int p4)]) hx hb dX13_feed_71 hl (by decide) rfl (fun ls hl => ?_)
  refine lv_aload_n hx hb dX13_feed_73 rfl (lv_at hl 2 rfl) ?_
  refine va_get (D := (dC, dI)) (ci := 15) (v := .ref h1) (C := RX13) (T := TX13) (N := 196) hx hb hts iw_X13_feed_X13 hown hK hP 0 rfl rfl 0 (by decide) (hts (.fieldLink RX13 9 "LiquidTongueModel" "tape" "[B") (by decide +kernel)) (fun _ h9 => h9) (zs_ne (by decide) hm) dX13_feed_74 ?_
  refine lv_aload_n hx hb dX13_feed_77 rfl (lv_at hl 2 rfl) ?_
  refine va_get (D := (dC, dI)) (ci := 15) (v := .int (nI ((((((((((((tl + 1) + 1) + 1) + 1) + 1) + 1) + 1) + 1) + 1) + 1) + 1) + 1))) (C := RX13) (T := TX13) (N := 196) hx hb hts iw_X13_feed_X13 hown hK hP 0 rfl rfl 3 (by decide) (hts (.fieldLink RX13 386 "LiquidTongueModel" "length" "I") (by decide +kernel)) (fun _ h9 => h9) (zs_eq (zs_lt hfl (by decide))) dX13_feed_78 ?_
  refine lv_iload hx hb dX13_feed_81 (lv_at hl 0 rfl) ?_
  refine lv_bipush (v := 24) hx hb dX13_feed_83 (by decide) ?_
  refine lv_bipush (v := 8) hx hb dX13_feed_85 (by decide) ?_
  refine lv_iload hx hb dX13_feed_87 (lv_at hl 1 rfl) ?_
  refine lv_iconst (v := 4) hx hb dX13_feed_89 (by decide) ?_
  refine lv_irem hx hb dX13_feed_90 (by decide) ?_
  refine lv_topi (fun z_86 ez_86 => ?_)
  have fz_86 : z_86 = 0 := ez_86.trans (by decide)
  clear ez_86
  subst fz_86
  refine lv_imul hx hb dX13_feed_91 ?_
  refine lv_topi (fun z_87 ez_87 => ?_)
  have fz_87 : z_87 = 0 := ez_87.trans (by decide)
  clear ez_87
  subst fz_87
  refine lv_isub hx hb dX13_feed_92 ?_
  refine lv_topi (fun z_88 ez_88 => ?_)
  have fz_88 : z_88 = 24 := ez_88.trans (by decide)
  clear ez_88
  subst fz_88
  refine lv_ishr hx hb dX13_feed_93 ?_
  refine lv_topi (fun z_89 ez_89 => ?_)
  obtain ⟨z_90, ez_90⟩ : ∃ y : Int32, y = (z_89).toInt8.toInt32 := ⟨_, rfl⟩
  refine lv_i2b (v := z_90) hx hb dX13_feed_94 ez_90.symm ?_
  refine va_bast hx hb hK hP hD hS 1 0 rfl rfl (vp_in_nI (by omega) (by decide)) dX13_feed_95 (fun H locs hP hD hS => ?_)
  rw [nI_clamp (n := ((((((((((((tl + 1) + 1) + 1) + 1) + 1) + 1) + 1) + 1) + 1) + 1) + 1) + 1)) (by omega), show vp_nar .byte z_90 = zby p3 24 from by rw [ez_90, ez_89]; exact pk_vb _] at hP hD
  have hP : va_P (dC, dI) vwCl [(h0, .inr (15, (fs.set 3 (.int (nI ((((((((((((tl + 1) + 1) + 1) + 1) + 1) + 1) + 1) + 1) + 1) + 1) + 1) + 1)))))), (h1, .inl (cB, 2000, .inl (upd (upd (upd (upd (upd (upd (upd (upd (upd (upd (upd (upd (upd f (tl) (zby p0 24)) ((tl + 1)) (zby p0 16)) (((tl + 1) + 1)) (zby p0 8)) ((((tl + 1) + 1) + 1)) (zby p0 0)) (((((tl + 1) + 1) + 1) + 1)) (zby p1 24)) ((((((tl + 1) + 1) + 1) + 1) + 1)) (zby p1 16)) (((((((tl + 1) + 1) + 1) + 1) + 1) + 1)) (zby p1 8)) ((((((((tl + 1) + 1) + 1) + 1) + 1) + 1) + 1)) (zby p1 0)) (((((((((tl + 1) + 1) + 1) + 1) + 1) + 1) + 1) + 1)) (zby p2 24)) ((((((((((tl + 1) + 1) + 1) + 1) + 1) + 1) + 1) + 1) + 1)) (zby p2 16)) (((((((((((tl + 1) + 1) + 1) + 1) + 1) + 1) + 1) + 1) + 1) + 1)) (zby p2 8)) ((((((((((((tl + 1) + 1) + 1) + 1) + 1) + 1) + 1) + 1) + 1) + 1) + 1)) (zby p2 0)) (((((((((((((tl + 1) + 1) + 1) + 1) + 1) + 1) + 1) + 1) + 1) + 1) + 1) + 1)) (zby p3 24))))] H := hP
  have hD : va_D A [(h0, .inr (15, (fs.set 3 (.int (nI ((((((((((((tl + 1) + 1) + 1) + 1) + 1) + 1) + 1) + 1) + 1) + 1) + 1) + 1)))))), (h1, .inl (cB, 2000, .inl (upd (upd (upd (upd (upd (upd (upd (upd (upd (upd (upd (upd (upd f (tl) (zby p0 24)) ((tl + 1)) (zby p0 16)) (((tl + 1) + 1)) (zby p0 8)) ((((tl + 1) + 1) + 1)) (zby p0 0)) (((((tl + 1) + 1) + 1) + 1)) (zby p1 24)) ((((((tl + 1) + 1) + 1) + 1) + 1)) (zby p1 16)) (((((((tl + 1) + 1) + 1) + 1) + 1) + 1)) (zby p1 8)) ((((((((tl + 1) + 1) + 1) + 1) + 1) + 1) + 1)) (zby p1 0)) (((((((((tl + 1) + 1) + 1) + 1) + 1) + 1) + 1) + 1)) (zby p2 24)) ((((((((((tl + 1) + 1) + 1) + 1) + 1) + 1) + 1) + 1) + 1)) (zby p2 16)) (((((((((((tl + 1) + 1) + 1) + 1) + 1) + 1) + 1) + 1) + 1) + 1)) (zby p2 8)) ((((((((((((tl + 1) + 1) + 1) + 1) + 1) + 1) + 1) + 1) + 1) + 1) + 1)) (zby p2 0)) (((((((((((((tl + 1) + 1) + 1) + 1) + 1) + 1) + 1) + 1) + 1) + 1) + 1) + 1)) (zby p3 24))))] := hD
  refine lv_aload_n hx hb dX13_feed_96 rfl (lv_at hl 2 rfl) ?_
  refine lv_dup hx hb dX13_feed_97 rfl ?_
  refine va_get (D := (dC, dI)) (ci := 15) (v := .int (nI ((((((((((((tl + 1) + 1) + 1) + 1) + 1) + 1) + 1) + 1) + 1) + 1) + 1) + 1))) (C := RX13) (T := TX13) (N := 196) hx hb hts iw_X13_feed_X13 hown hK hP 0 rfl rfl 3 (by decide) (hts (.fieldLink RX13 386 "LiquidTongueModel" "length" "I") (by decide +kernel)) (fun _ h9 => h9) (zs_eq (zs_lt hfl (by decide))) dX13_feed_98 ?_
  refine lv_iconst (v := 1) hx hb dX13_feed_101 (by decide) ?_
  refine lv_iadd hx hb dX13_feed_102 ?_
  refine lv_topi (fun z_91 ez_91 => ?_)
  have fz_91 : z_91 = nI (((((((((((((tl + 1) + 1) + 1) + 1) + 1) + 1) + 1) + 1) + 1) + 1) + 1) + 1) + 1) := ez_91.trans (nI_1 _)
  clear ez_91
  subst fz_91
  refine va_put (D := (dC, dI)) (ci := 15) (v := .int (nI (((((((((((((tl + 1) + 1) + 1) + 1) + 1) + 1) + 1) + 1) + 1) + 1) + 1) + 1) + 1))) (ty := .int) (C := RX13) (T := TX13) (N := 196) hx hb hts iw_X13_feed_X13 tyX13 tyX13_ok nmX13 hown hK hP hD hS 0 rfl rfl 3 (by decide) (hts (.fieldLink RX13 386 "LiquidTongueModel" "length" "I") (by decide +kernel)) (fun _ h9 => h9) rfl (by decide +kernel) rfl rfl (zs_lt (zs_len hfl) (by decide)) dX13_feed_103 (fun H locs hP hD hS => ?_)
  rw [List.set_set] at hP hD
  have hP : va_P (dC, dI) vwCl [(h0, .inr (15, (fs.set 3 (.int (nI (((((((((((((tl + 1) + 1) + 1) + 1) + 1) + 1) + 1) + 1) + 1) + 1) + 1) + 1) + 1)))))), (h1, .inl (cB, 2000, .inl (upd (upd (upd (upd (upd (upd (upd (upd (upd (upd (upd (upd (upd f (tl) (zby p0 24)) ((tl + 1)) (zby p0 16)) (((tl + 1) + 1)) (zby p0 8)) ((((tl + 1) + 1) + 1)) (zby p0 0)) (((((tl + 1) + 1) + 1) + 1)) (zby p1 24)) ((((((tl + 1) + 1) + 1) + 1) + 1)) (zby p1 16)) (((((((tl + 1) + 1) + 1) + 1) + 1) + 1)) (zby p1 8)) ((((((((tl + 1) + 1) + 1) + 1) + 1) + 1) + 1)) (zby p1 0)) (((((((((tl + 1) + 1) + 1) + 1) + 1) + 1) + 1) + 1)) (zby p2 24)) ((((((((((tl + 1) + 1) + 1) + 1) + 1) + 1) + 1) + 1) + 1)) (zby p2 16)) (((((((((((tl + 1) + 1) + 1) + 1) + 1) + 1) + 1) + 1) + 1) + 1)) (zby p2 8)) ((((((((((((tl + 1) + 1) + 1) + 1) + 1) + 1) + 1) + 1) + 1) + 1) + 1)) (zby p2 0)) (((((((((((((tl + 1) + 1) + 1) + 1) + 1) + 1) + 1) + 1) + 1) + 1) + 1) + 1)) (zby p3 24))))] H := hP
  have hD : va_D A [(h0, .inr (15, (fs.set 3 (.int (nI (((((((((((((tl + 1) + 1) + 1) + 1) + 1) + 1) + 1) + 1) + 1) + 1) + 1) + 1) + 1)))))), (h1, .inl (cB, 2000, .inl (upd (upd (upd (upd (upd (upd (upd (upd (upd (upd (upd (upd (upd f (tl) (zby p0 24)) ((tl + 1)) (zby p0 16)) (((tl + 1) + 1)) (zby p0 8)) ((((tl + 1) + 1) + 1)) (zby p0 0)) (((((tl + 1) + 1) + 1) + 1)) (zby p1 24)) ((((((tl + 1) + 1) + 1) + 1) + 1)) (zby p1 16)) (((((((tl + 1) + 1) + 1) + 1) + 1) + 1)) (zby p1 8)) ((((((((tl + 1) + 1) + 1) + 1) + 1) + 1) + 1)) (zby p1 0)) (((((((((tl + 1) + 1) + 1) + 1) + 1) + 1) + 1) + 1)) (zby p2 24)) ((((((((((tl + 1) + 1) + 1) + 1) + 1) + 1) + 1) + 1) + 1)) (zby p2 16)) (((((((((((tl + 1) + 1) + 1) + 1) + 1) + 1) + 1) + 1) + 1) + 1)) (zby p2 8)) ((((((((((((tl + 1) + 1) + 1) + 1) + 1) + 1) + 1) + 1) + 1) + 1) + 1)) (zby p2 0)) (((((((((((((tl + 1) + 1) + 1) + 1) + 1) + 1) + 1) + 1) + 1) + 1) + 1) + 1)) (zby p3 24))))] := hD
  refine lv_iinc (v := 13) (lv' := [(6, .int 13), (7, .int p3), (0, .ref h0), (1, .int p0), (2, .int p1), (3, .int p2), (4, .int p3), (5, .int p4)]) hx hb dX13_feed_106 hl (k := 1) rfl (by decide) (by decide) rfl (fun ls hl => ?_)
  refine lv_goto (tgt := 18) hx hb dX13_feed_109 (by decide) ?_
  refine lv_iload hx hb dX13_feed_18 (lv_at hl 0 rfl) ?_
  refine lv_bipush (v := 20) hx hb dX13_feed_20 (by decide) ?_
  refine lv_icmp_ge (tgt := 112) hx hb dX13_feed_22 (by decide) (fun c_43 => absurd c_43 (by decide)) (fun c_43 => ?_)
  refine lv_iload hx hb dX13_feed_25 (lv_at hl 0 rfl) ?_
  refine lv_iconst (v := 4) hx hb dX13_feed_27 (by decide) ?_
  refine lv_icmp_ge (tgt := 35) hx hb dX13_feed_28 (by decide) (fun c_44 => ?_) (fun c_44 => absurd (by decide) c_44)
  refine lv_iload hx hb dX13_feed_35 (lv_at hl 0 rfl) ?_
  refine lv_bipush (v := 8) hx hb dX13_feed_37 (by decide) ?_
  refine lv_icmp_ge (tgt := 46) hx hb dX13_feed_39 (by decide) (fun c_45 => ?_) (fun c_45 => absurd (by decide) c_45)
  refine lv_iload hx hb dX13_feed_46 (lv_at hl 0 rfl) ?_
  refine lv_bipush (v := 12) hx hb dX13_feed_48 (by decide) ?_
  refine lv_icmp_ge (tgt := 57) hx hb dX13_feed_50 (by decide) (fun c_46 => ?_) (fun c_46 => absurd (by decide) c_46)
  refine lv_iload hx hb dX13_feed_57 (lv_at hl 0 rfl) ?_
  refine lv_bipush (v := 16) hx hb dX13_feed_59 (by decide) ?_
  refine lv_icmp_ge (tgt := 69) hx hb dX13_feed_61 (by decide) (fun c_47 => absurd c_47 (by decide)) (fun c_47 => ?_)
  refine lv_iload hx hb dX13_feed_64 (lv_at hl 6 rfl) ?_
  refine lv_goto (tgt := 71) hx hb dX13_feed_66 (by decide) ?_
  refine lv_istore (lv' := [(7, .int p3), (6, .int 13), (0, .ref h0), (1, .int p0), (2, .int p1), (3, .int p2), (4, .int p3), (5, .int p4)]) hx hb dX13_feed_71 hl (by decide) rfl (fun ls hl => ?_)
  refine lv_aload_n hx hb dX13_feed_73 rfl (lv_at hl 2 rfl) ?_
  refine va_get (D := (dC, dI)) (ci := 15) (v := .ref h1) (C := RX13) (T := TX13) (N := 196) hx hb hts iw_X13_feed_X13 hown hK hP 0 rfl rfl 0 (by decide) (hts (.fieldLink RX13 9 "LiquidTongueModel" "tape" "[B") (by decide +kernel)) (fun _ h9 => h9) (zs_ne (by decide) hm) dX13_feed_74 ?_
  refine lv_aload_n hx hb dX13_feed_77 rfl (lv_at hl 2 rfl) ?_
  refine va_get (D := (dC, dI)) (ci := 15) (v := .int (nI (((((((((((((tl + 1) + 1) + 1) + 1) + 1) + 1) + 1) + 1) + 1) + 1) + 1) + 1) + 1))) (C := RX13) (T := TX13) (N := 196) hx hb hts iw_X13_feed_X13 hown hK hP 0 rfl rfl 3 (by decide) (hts (.fieldLink RX13 386 "LiquidTongueModel" "length" "I") (by decide +kernel)) (fun _ h9 => h9) (zs_eq (zs_lt hfl (by decide))) dX13_feed_78 ?_
  refine lv_iload hx hb dX13_feed_81 (lv_at hl 0 rfl) ?_
  refine lv_bipush (v := 24) hx hb dX13_feed_83 (by decide) ?_
  refine lv_bipush (v := 8) hx hb dX13_feed_85 (by decide) ?_
  refine lv_iload hx hb dX13_feed_87 (lv_at hl 1 rfl) ?_
  refine lv_iconst (v := 4) hx hb dX13_feed_89 (by decide) ?_
  refine lv_irem hx hb dX13_feed_90 (by decide) ?_
  refine lv_topi (fun z_93 ez_93 => ?_)
  have fz_93 : z_93 = 1 := ez_93.trans (by decide)
  clear ez_93
  subst fz_93
  refine lv_imul hx hb dX13_feed_91 ?_
  refine lv_topi (fun z_94 ez_94 => ?_)
  have fz_94 : z_94 = 8 := ez_94.trans (by decide)
  clear ez_94
  subst fz_94
  refine lv_isub hx hb dX13_feed_92 ?_
  refine lv_topi (fun z_95 ez_95 => ?_)
  have fz_95 : z_95 = 16 := ez_95.trans (by decide)
  clear ez_95
  subst fz_95
  refine lv_ishr hx hb dX13_feed_93 ?_
  refine lv_topi (fun z_96 ez_96 => ?_)
  obtain ⟨z_97, ez_97⟩ : ∃ y : Int32, y = (z_96).toInt8.toInt32 := ⟨_, rfl⟩
  refine lv_i2b (v := z_97) hx hb dX13_feed_94 ez_97.symm ?_
  refine va_bast hx hb hK hP hD hS 1 0 rfl rfl (vp_in_nI (by omega) (by decide)) dX13_feed_95 (fun H locs hP hD hS => ?_)
  rw [nI_clamp (n := (((((((((((((tl + 1) + 1) + 1) + 1) + 1) + 1) + 1) + 1) + 1) + 1) + 1) + 1) + 1)) (by omega), show vp_nar .byte z_97 = zby p3 16 from by rw [ez_97, ez_96]; exact pk_vb _] at hP hD
  have hP : va_P (dC, dI) vwCl [(h0, .inr (15, (fs.set 3 (.int (nI (((((((((((((tl + 1) + 1) + 1) + 1) + 1) + 1) + 1) + 1) + 1) + 1) + 1) + 1) + 1)))))), (h1, .inl (cB, 2000, .inl (upd (upd (upd (upd (upd (upd (upd (upd (upd (upd (upd (upd (upd (upd f (tl) (zby p0 24)) ((tl + 1)) (zby p0 16)) (((tl + 1) + 1)) (zby p0 8)) ((((tl + 1) + 1) + 1)) (zby p0 0)) (((((tl + 1) + 1) + 1) + 1)) (zby p1 24)) ((((((tl + 1) + 1) + 1) + 1) + 1)) (zby p1 16)) (((((((tl + 1) + 1) + 1) + 1) + 1) + 1)) (zby p1 8)) ((((((((tl + 1) + 1) + 1) + 1) + 1) + 1) + 1)) (zby p1 0)) (((((((((tl + 1) + 1) + 1) + 1) + 1) + 1) + 1) + 1)) (zby p2 24)) ((((((((((tl + 1) + 1) + 1) + 1) + 1) + 1) + 1) + 1) + 1)) (zby p2 16)) (((((((((((tl + 1) + 1) + 1) + 1) + 1) + 1) + 1) + 1) + 1) + 1)) (zby p2 8)) ((((((((((((tl + 1) + 1) + 1) + 1) + 1) + 1) + 1) + 1) + 1) + 1) + 1)) (zby p2 0)) (((((((((((((tl + 1) + 1) + 1) + 1) + 1) + 1) + 1) + 1) + 1) + 1) + 1) + 1)) (zby p3 24)) ((((((((((((((tl + 1) + 1) + 1) + 1) + 1) + 1) + 1) + 1) + 1) + 1) + 1) + 1) + 1)) (zby p3 16))))] H := hP
  have hD : va_D A [(h0, .inr (15, (fs.set 3 (.int (nI (((((((((((((tl + 1) + 1) + 1) + 1) + 1) + 1) + 1) + 1) + 1) + 1) + 1) + 1) + 1)))))), (h1, .inl (cB, 2000, .inl (upd (upd (upd (upd (upd (upd (upd (upd (upd (upd (upd (upd (upd (upd f (tl) (zby p0 24)) ((tl + 1)) (zby p0 16)) (((tl + 1) + 1)) (zby p0 8)) ((((tl + 1) + 1) + 1)) (zby p0 0)) (((((tl + 1) + 1) + 1) + 1)) (zby p1 24)) ((((((tl + 1) + 1) + 1) + 1) + 1)) (zby p1 16)) (((((((tl + 1) + 1) + 1) + 1) + 1) + 1)) (zby p1 8)) ((((((((tl + 1) + 1) + 1) + 1) + 1) + 1) + 1)) (zby p1 0)) (((((((((tl + 1) + 1) + 1) + 1) + 1) + 1) + 1) + 1)) (zby p2 24)) ((((((((((tl + 1) + 1) + 1) + 1) + 1) + 1) + 1) + 1) + 1)) (zby p2 16)) (((((((((((tl + 1) + 1) + 1) + 1) + 1) + 1) + 1) + 1) + 1) + 1)) (zby p2 8)) ((((((((((((tl + 1) + 1) + 1) + 1) + 1) + 1) + 1) + 1) + 1) + 1) + 1)) (zby p2 0)) (((((((((((((tl + 1) + 1) + 1) + 1) + 1) + 1) + 1) + 1) + 1) + 1) + 1) + 1)) (zby p3 24)) ((((((((((((((tl + 1) + 1) + 1) + 1) + 1) + 1) + 1) + 1) + 1) + 1) + 1) + 1) + 1)) (zby p3 16))))] := hD
  refine lv_aload_n hx hb dX13_feed_96 rfl (lv_at hl 2 rfl) ?_
  refine lv_dup hx hb dX13_feed_97 rfl ?_
  refine va_get (D := (dC, dI)) (ci := 15) (v := .int (nI (((((((((((((tl + 1) + 1) + 1) + 1) + 1) + 1) + 1) + 1) + 1) + 1) + 1) + 1) + 1))) (C := RX13) (T := TX13) (N := 196) hx hb hts iw_X13_feed_X13 hown hK hP 0 rfl rfl 3 (by decide) (hts (.fieldLink RX13 386 "LiquidTongueModel" "length" "I") (by decide +kernel)) (fun _ h9 => h9) (zs_eq (zs_lt hfl (by decide))) dX13_feed_98 ?_
  refine lv_iconst (v := 1) hx hb dX13_feed_101 (by decide) ?_
  refine lv_iadd hx hb dX13_feed_102 ?_
  refine lv_topi (fun z_98 ez_98 => ?_)
  have fz_98 : z_98 = nI ((((((((((((((tl + 1) + 1) + 1) + 1) + 1) + 1) + 1) + 1) + 1) + 1) + 1) + 1) + 1) + 1) := ez_98.trans (nI_1 _)
  clear ez_98
  subst fz_98
  refine va_put (D := (dC, dI)) (ci := 15) (v := .int (nI ((((((((((((((tl + 1) + 1) + 1) + 1) + 1) + 1) + 1) + 1) + 1) + 1) + 1) + 1) + 1) + 1))) (ty := .int) (C := RX13) (T := TX13) (N := 196) hx hb hts iw_X13_feed_X13 tyX13 tyX13_ok nmX13 hown hK hP hD hS 0 rfl rfl 3 (by decide) (hts (.fieldLink RX13 386 "LiquidTongueModel" "length" "I") (by decide +kernel)) (fun _ h9 => h9) rfl (by decide +kernel) rfl rfl (zs_lt (zs_len hfl) (by decide)) dX13_feed_103 (fun H locs hP hD hS => ?_)
  rw [List.set_set] at hP hD
  have hP : va_P (dC, dI) vwCl [(h0, .inr (15, (fs.set 3 (.int (nI ((((((((((((((tl + 1) + 1) + 1) + 1) + 1) + 1) + 1) + 1) + 1) + 1) + 1) + 1) + 1) + 1)))))), (h1, .inl (cB, 2000, .inl (upd (upd (upd (upd (upd (upd (upd (upd (upd (upd (upd (upd (upd (upd f (tl) (zby p0 24)) ((tl + 1)) (zby p0 16)) (((tl + 1) + 1)) (zby p0 8)) ((((tl + 1) + 1) + 1)) (zby p0 0)) (((((tl + 1) + 1) + 1) + 1)) (zby p1 24)) ((((((tl + 1) + 1) + 1) + 1) + 1)) (zby p1 16)) (((((((tl + 1) + 1) + 1) + 1) + 1) + 1)) (zby p1 8)) ((((((((tl + 1) + 1) + 1) + 1) + 1) + 1) + 1)) (zby p1 0)) (((((((((tl + 1) + 1) + 1) + 1) + 1) + 1) + 1) + 1)) (zby p2 24)) ((((((((((tl + 1) + 1) + 1) + 1) + 1) + 1) + 1) + 1) + 1)) (zby p2 16)) (((((((((((tl + 1) + 1) + 1) + 1) + 1) + 1) + 1) + 1) + 1) + 1)) (zby p2 8)) ((((((((((((tl + 1) + 1) + 1) + 1) + 1) + 1) + 1) + 1) + 1) + 1) + 1)) (zby p2 0)) (((((((((((((tl + 1) + 1) + 1) + 1) + 1) + 1) + 1) + 1) + 1) + 1) + 1) + 1)) (zby p3 24)) ((((((((((((((tl + 1) + 1) + 1) + 1) + 1) + 1) + 1) + 1) + 1) + 1) + 1) + 1) + 1)) (zby p3 16))))] H := hP
  have hD : va_D A [(h0, .inr (15, (fs.set 3 (.int (nI ((((((((((((((tl + 1) + 1) + 1) + 1) + 1) + 1) + 1) + 1) + 1) + 1) + 1) + 1) + 1) + 1)))))), (h1, .inl (cB, 2000, .inl (upd (upd (upd (upd (upd (upd (upd (upd (upd (upd (upd (upd (upd (upd f (tl) (zby p0 24)) ((tl + 1)) (zby p0 16)) (((tl + 1) + 1)) (zby p0 8)) ((((tl + 1) + 1) + 1)) (zby p0 0)) (((((tl + 1) + 1) + 1) + 1)) (zby p1 24)) ((((((tl + 1) + 1) + 1) + 1) + 1)) (zby p1 16)) (((((((tl + 1) + 1) + 1) + 1) + 1) + 1)) (zby p1 8)) ((((((((tl + 1) + 1) + 1) + 1) + 1) + 1) + 1)) (zby p1 0)) (((((((((tl + 1) + 1) + 1) + 1) + 1) + 1) + 1) + 1)) (zby p2 24)) ((((((((((tl + 1) + 1) + 1) + 1) + 1) + 1) + 1) + 1) + 1)) (zby p2 16)) (((((((((((tl + 1) + 1) + 1) + 1) + 1) + 1) + 1) + 1) + 1) + 1)) (zby p2 8)) ((((((((((((tl + 1) + 1) + 1) + 1) + 1) + 1) + 1) + 1) + 1) + 1) + 1)) (zby p2 0)) (((((((((((((tl + 1) + 1) + 1) + 1) + 1) + 1) + 1) + 1) + 1) + 1) + 1) + 1)) (zby p3 24)) ((((((((((((((tl + 1) + 1) + 1) + 1) + 1) + 1) + 1) + 1) + 1) + 1) + 1) + 1) + 1)) (zby p3 16))))] := hD
  refine lv_iinc (v := 14) (lv' := [(6, .int 14), (7, .int p3), (0, .ref h0), (1, .int p0), (2, .int p1), (3, .int p2), (4, .int p3), (5, .int p4)]) hx hb dX13_feed_106 hl (k := 1) rfl (by decide) (by decide) rfl (fun ls hl => ?_)
  refine lv_goto (tgt := 18) hx hb dX13_feed_109 (by decide) ?_
  refine lv_iload hx hb dX13_feed_18 (lv_at hl 0 rfl) ?_
  refine lv_bipush (v := 20) hx hb dX13_feed_20 (by decide) ?_
  refine lv_icmp_ge (tgt := 112) hx hb dX13_feed_22 (by decide) (fun c_48 => absurd c_48 (by decide)) (fun c_48 => ?_)
  refine lv_iload hx hb dX13_feed_25 (lv_at hl 0 rfl) ?_
  refine lv_iconst (v := 4) hx hb dX13_feed_27 (by decide) ?_
  refine lv_icmp_ge (tgt := 35) hx hb dX13_feed_28 (by decide) (fun c_49 => ?_) (fun c_49 => absurd (by decide) c_49)
  refine lv_iload hx hb dX13_feed_35 (lv_at hl 0 rfl) ?_
  refine lv_bipush (v := 8) hx hb dX13_feed_37 (by decide) ?_
  refine lv_icmp_ge (tgt := 46) hx hb dX13_feed_39 (by decide) (fun c_50 => ?_) (fun c_50 => absurd (by decide) c_50)
  refine lv_iload hx hb dX13_feed_46 (lv_at hl 0 rfl) ?_
  refine lv_bipush (v := 12) hx hb dX13_feed_48 (by decide) ?_
  refine lv_icmp_ge (tgt := 57) hx hb dX13_feed_50 (by decide) (fun c_51 => ?_) (fun c_51 => absurd (by decide) c_51)
  refine lv_iload hx hb dX13_feed_57 (lv_at hl 0 rfl) ?_
  refine lv_bipush (v := 16) hx hb dX13_feed_59 (by decide) ?_
  refine lv_icmp_ge (tgt := 69) hx hb dX13_feed_61 (by decide) (fun c_52 => absurd c_52 (by decide)) (fun c_52 => ?_)
  refine lv_iload hx hb dX13_feed_64 (lv_at hl 6 rfl) ?_
  refine lv_goto (tgt := 71) hx hb dX13_feed_66 (by decide) ?_
  refine lv_istore (lv' := [(7, .int p3), (6, .int 14), (0, .ref h0), (1, .int p0), (2, .int p1), (3, .int p2), (4, .int p3), (5, .int p4)]) hx hb dX13_feed_71 hl (by decide) rfl (fun ls hl => ?_)
  refine lv_aload_n hx hb dX13_feed_73 rfl (lv_at hl 2 rfl) ?_
  refine va_get (D := (dC, dI)) (ci := 15) (v := .ref h1) (C := RX13) (T := TX13) (N := 196) hx hb hts iw_X13_feed_X13 hown hK hP 0 rfl rfl 0 (by decide) (hts (.fieldLink RX13 9 "LiquidTongueModel" "tape" "[B") (by decide +kernel)) (fun _ h9 => h9) (zs_ne (by decide) hm) dX13_feed_74 ?_
  refine lv_aload_n hx hb dX13_feed_77 rfl (lv_at hl 2 rfl) ?_
  refine va_get (D := (dC, dI)) (ci := 15) (v := .int (nI ((((((((((((((tl + 1) + 1) + 1) + 1) + 1) + 1) + 1) + 1) + 1) + 1) + 1) + 1) + 1) + 1))) (C := RX13) (T := TX13) (N := 196) hx hb hts iw_X13_feed_X13 hown hK hP 0 rfl rfl 3 (by decide) (hts (.fieldLink RX13 386 "LiquidTongueModel" "length" "I") (by decide +kernel)) (fun _ h9 => h9) (zs_eq (zs_lt hfl (by decide))) dX13_feed_78 ?_
  refine lv_iload hx hb dX13_feed_81 (lv_at hl 0 rfl) ?_
  refine lv_bipush (v := 24) hx hb dX13_feed_83 (by decide) ?_
  refine lv_bipush (v := 8) hx hb dX13_feed_85 (by decide) ?_
  refine lv_iload hx hb dX13_feed_87 (lv_at hl 1 rfl) ?_
  refine lv_iconst (v := 4) hx hb dX13_feed_89 (by decide) ?_
  refine lv_irem hx hb dX13_feed_90 (by decide) ?_
  refine lv_topi (fun z_100 ez_100 => ?_)
  have fz_100 : z_100 = 2 := ez_100.trans (by decide)
  clear ez_100
  subst fz_100
  refine lv_imul hx hb dX13_feed_91 ?_
  refine lv_topi (fun z_101 ez_101 => ?_)
  have fz_101 : z_101 = 16 := ez_101.trans (by decide)
  clear ez_101
  subst fz_101
  refine lv_isub hx hb dX13_feed_92 ?_
  refine lv_topi (fun z_102 ez_102 => ?_)
  have fz_102 : z_102 = 8 := ez_102.trans (by decide)
  clear ez_102
  subst fz_102
  refine lv_ishr hx hb dX13_feed_93 ?_
  refine lv_topi (fun z_103 ez_103 => ?_)
  obtain ⟨z_104, ez_104⟩ : ∃ y : Int32, y = (z_103).toInt8.toInt32 := ⟨_, rfl⟩
  refine lv_i2b (v := z_104) hx hb dX13_feed_94 ez_104.symm ?_
  refine va_bast hx hb hK hP hD hS 1 0 rfl rfl (vp_in_nI (by omega) (by decide)) dX13_feed_95 (fun H locs hP hD hS => ?_)
  rw [nI_clamp (n := ((((((((((((((tl + 1) + 1) + 1) + 1) + 1) + 1) + 1) + 1) + 1) + 1) + 1) + 1) + 1) + 1)) (by omega), show vp_nar .byte z_104 = zby p3 8 from by rw [ez_104, ez_103]; exact pk_vb _] at hP hD
  have hP : va_P (dC, dI) vwCl [(h0, .inr (15, (fs.set 3 (.int (nI ((((((((((((((tl + 1) + 1) + 1) + 1) + 1) + 1) + 1) + 1) + 1) + 1) + 1) + 1) + 1) + 1)))))), (h1, .inl (cB, 2000, .inl (upd (upd (upd (upd (upd (upd (upd (upd (upd (upd (upd (upd (upd (upd (upd f (tl) (zby p0 24)) ((tl + 1)) (zby p0 16)) (((tl + 1) + 1)) (zby p0 8)) ((((tl + 1) + 1) + 1)) (zby p0 0)) (((((tl + 1) + 1) + 1) + 1)) (zby p1 24)) ((((((tl + 1) + 1) + 1) + 1) + 1)) (zby p1 16)) (((((((tl + 1) + 1) + 1) + 1) + 1) + 1)) (zby p1 8)) ((((((((tl + 1) + 1) + 1) + 1) + 1) + 1) + 1)) (zby p1 0)) (((((((((tl + 1) + 1) + 1) + 1) + 1) + 1) + 1) + 1)) (zby p2 24)) ((((((((((tl + 1) + 1) + 1) + 1) + 1) + 1) + 1) + 1) + 1)) (zby p2 16)) (((((((((((tl + 1) + 1) + 1) + 1) + 1) + 1) + 1) + 1) + 1) + 1)) (zby p2 8)) ((((((((((((tl + 1) + 1) + 1) + 1) + 1) + 1) + 1) + 1) + 1) + 1) + 1)) (zby p2 0)) (((((((((((((tl + 1) + 1) + 1) + 1) + 1) + 1) + 1) + 1) + 1) + 1) + 1) + 1)) (zby p3 24)) ((((((((((((((tl + 1) + 1) + 1) + 1) + 1) + 1) + 1) + 1) + 1) + 1) + 1) + 1) + 1)) (zby p3 16)) (((((((((((((((tl + 1) + 1) + 1) + 1) + 1) + 1) + 1) + 1) + 1) + 1) + 1) + 1) + 1) + 1)) (zby p3 8))))] H := hP
  have hD : va_D A [(h0, .inr (15, (fs.set 3 (.int (nI ((((((((((((((tl + 1) + 1) + 1) + 1) + 1) + 1) + 1) + 1) + 1) + 1) + 1) + 1) + 1) + 1)))))), (h1, .inl (cB, 2000, .inl (upd (upd (upd (upd (upd (upd (upd (upd (upd (upd (upd (upd (upd (upd (upd f (tl) (zby p0 24)) ((tl + 1)) (zby p0 16)) (((tl + 1) + 1)) (zby p0 8)) ((((tl + 1) + 1) + 1)) (zby p0 0)) (((((tl + 1) + 1) + 1) + 1)) (zby p1 24)) ((((((tl + 1) + 1) + 1) + 1) + 1)) (zby p1 16)) (((((((tl + 1) + 1) + 1) + 1) + 1) + 1)) (zby p1 8)) ((((((((tl + 1) + 1) + 1) + 1) + 1) + 1) + 1)) (zby p1 0)) (((((((((tl + 1) + 1) + 1) + 1) + 1) + 1) + 1) + 1)) (zby p2 24)) ((((((((((tl + 1) + 1) + 1) + 1) + 1) + 1) + 1) + 1) + 1)) (zby p2 16)) (((((((((((tl + 1) + 1) + 1) + 1) + 1) + 1) + 1) + 1) + 1) + 1)) (zby p2 8)) ((((((((((((tl + 1) + 1) + 1) + 1) + 1) + 1) + 1) + 1) + 1) + 1) + 1)) (zby p2 0)) (((((((((((((tl + 1) + 1) + 1) + 1) + 1) + 1) + 1) + 1) + 1) + 1) + 1) + 1)) (zby p3 24)) ((((((((((((((tl + 1) + 1) + 1) + 1) + 1) + 1) + 1) + 1) + 1) + 1) + 1) + 1) + 1)) (zby p3 16)) (((((((((((((((tl + 1) + 1) + 1) + 1) + 1) + 1) + 1) + 1) + 1) + 1) + 1) + 1) + 1) + 1)) (zby p3 8))))] := hD
  refine lv_aload_n hx hb dX13_feed_96 rfl (lv_at hl 2 rfl) ?_
  refine lv_dup hx hb dX13_feed_97 rfl ?_
  refine va_get (D := (dC, dI)) (ci := 15) (v := .int (nI ((((((((((((((tl + 1) + 1) + 1) + 1) + 1) + 1) + 1) + 1) + 1) + 1) + 1) + 1) + 1) + 1))) (C := RX13) (T := TX13) (N := 196) hx hb hts iw_X13_feed_X13 hown hK hP 0 rfl rfl 3 (by decide) (hts (.fieldLink RX13 386 "LiquidTongueModel" "length" "I") (by decide +kernel)) (fun _ h9 => h9) (zs_eq (zs_lt hfl (by decide))) dX13_feed_98 ?_
  refine lv_iconst (v := 1) hx hb dX13_feed_101 (by decide) ?_
  refine lv_iadd hx hb dX13_feed_102 ?_
  refine lv_topi (fun z_105 ez_105 => ?_)
  have fz_105 : z_105 = nI (((((((((((((((tl + 1) + 1) + 1) + 1) + 1) + 1) + 1) + 1) + 1) + 1) + 1) + 1) + 1) + 1) + 1) := ez_105.trans (nI_1 _)
  clear ez_105
  subst fz_105
  refine va_put (D := (dC, dI)) (ci := 15) (v := .int (nI (((((((((((((((tl + 1) + 1) + 1) + 1) + 1) + 1) + 1) + 1) + 1) + 1) + 1) + 1) + 1) + 1) + 1))) (ty := .int) (C := RX13) (T := TX13) (N := 196) hx hb hts iw_X13_feed_X13 tyX13 tyX13_ok nmX13 hown hK hP hD hS 0 rfl rfl 3 (by decide) (hts (.fieldLink RX13 386 "LiquidTongueModel" "length" "I") (by decide +kernel)) (fun _ h9 => h9) rfl (by decide +kernel) rfl rfl (zs_lt (zs_len hfl) (by decide)) dX13_feed_103 (fun H locs hP hD hS => ?_)
  rw [List.set_set] at hP hD
  have hP : va_P (dC, dI) vwCl [(h0, .inr (15, (fs.set 3 (.int (nI (((((((((((((((tl + 1) + 1) + 1) + 1) + 1) + 1) + 1) + 1) + 1) + 1) + 1) + 1) + 1) + 1) + 1)))))), (h1, .inl (cB, 2000, .inl (upd (upd (upd (upd (upd (upd (upd (upd (upd (upd (upd (upd (upd (upd (upd f (tl) (zby p0 24)) ((tl + 1)) (zby p0 16)) (((tl + 1) + 1)) (zby p0 8)) ((((tl + 1) + 1) + 1)) (zby p0 0)) (((((tl + 1) + 1) + 1) + 1)) (zby p1 24)) ((((((tl + 1) + 1) + 1) + 1) + 1)) (zby p1 16)) (((((((tl + 1) + 1) + 1) + 1) + 1) + 1)) (zby p1 8)) ((((((((tl + 1) + 1) + 1) + 1) + 1) + 1) + 1)) (zby p1 0)) (((((((((tl + 1) + 1) + 1) + 1) + 1) + 1) + 1) + 1)) (zby p2 24)) ((((((((((tl + 1) + 1) + 1) + 1) + 1) + 1) + 1) + 1) + 1)) (zby p2 16)) (((((((((((tl + 1) + 1) + 1) + 1) + 1) + 1) + 1) + 1) + 1) + 1)) (zby p2 8)) ((((((((((((tl + 1) + 1) + 1) + 1) + 1) + 1) + 1) + 1) + 1) + 1) + 1)) (zby p2 0)) (((((((((((((tl + 1) + 1) + 1) + 1) + 1) + 1) + 1) + 1) + 1) + 1) + 1) + 1)) (zby p3 24)) ((((((((((((((tl + 1) + 1) + 1) + 1) + 1) + 1) + 1) + 1) + 1) + 1) + 1) + 1) + 1)) (zby p3 16)) (((((((((((((((tl + 1) + 1) + 1) + 1) + 1) + 1) + 1) + 1) + 1) + 1) + 1) + 1) + 1) + 1)) (zby p3 8))))] H := hP
  have hD : va_D A [(h0, .inr (15, (fs.set 3 (.int (nI (((((((((((((((tl + 1) + 1) + 1) + 1) + 1) + 1) + 1) + 1) + 1) + 1) + 1) + 1) + 1) + 1) + 1)))))), (h1, .inl (cB, 2000, .inl (upd (upd (upd (upd (upd (upd (upd (upd (upd (upd (upd (upd (upd (upd (upd f (tl) (zby p0 24)) ((tl + 1)) (zby p0 16)) (((tl + 1) + 1)) (zby p0 8)) ((((tl + 1) + 1) + 1)) (zby p0 0)) (((((tl + 1) + 1) + 1) + 1)) (zby p1 24)) ((((((tl + 1) + 1) + 1) + 1) + 1)) (zby p1 16)) (((((((tl + 1) + 1) + 1) + 1) + 1) + 1)) (zby p1 8)) ((((((((tl + 1) + 1) + 1) + 1) + 1) + 1) + 1)) (zby p1 0)) (((((((((tl + 1) + 1) + 1) + 1) + 1) + 1) + 1) + 1)) (zby p2 24)) ((((((((((tl + 1) + 1) + 1) + 1) + 1) + 1) + 1) + 1) + 1)) (zby p2 16)) (((((((((((tl + 1) + 1) + 1) + 1) + 1) + 1) + 1) + 1) + 1) + 1)) (zby p2 8)) ((((((((((((tl + 1) + 1) + 1) + 1) + 1) + 1) + 1) + 1) + 1) + 1) + 1)) (zby p2 0)) (((((((((((((tl + 1) + 1) + 1) + 1) + 1) + 1) + 1) + 1) + 1) + 1) + 1) + 1)) (zby p3 24)) ((((((((((((((tl + 1) + 1) + 1) + 1) + 1) + 1) + 1) + 1) + 1) + 1) + 1) + 1) + 1)) (zby p3 16)) (((((((((((((((tl + 1) + 1) + 1) + 1) + 1) + 1) + 1) + 1) + 1) + 1) + 1) + 1) + 1) + 1)) (zby p3 8))))] := hD
  refine lv_iinc (v := 15) (lv' := [(6, .int 15), (7, .int p3), (0, .ref h0), (1, .int p0), (2, .int p1), (3, .int p2), (4, .int p3), (5, .int p4)]) hx hb dX13_feed_106 hl (k := 1) rfl (by decide) (by decide) rfl (fun ls hl => ?_)
  refine lv_goto (tgt := 18) hx hb dX13_feed_109 (by decide) ?_
  refine lv_iload hx hb dX13_feed_18 (lv_at hl 0 rfl) ?_
  refine lv_bipush (v := 20) hx hb dX13_feed_20 (by decide) ?_
  refine lv_icmp_ge (tgt := 112) hx hb dX13_feed_22 (by decide) (fun c_53 => absurd c_53 (by decide)) (fun c_53 => ?_)
  refine lv_iload hx hb dX13_feed_25 (lv_at hl 0 rfl) ?_
  refine lv_iconst (v := 4) hx hb dX13_feed_27 (by decide) ?_
  refine lv_icmp_ge (tgt := 35) hx hb dX13_feed_28 (by decide) (fun c_54 => ?_) (fun c_54 => absurd (by decide) c_54)
  refine lv_iload hx hb dX13_feed_35 (lv_at hl 0 rfl) ?_
  refine lv_bipush (v := 8) hx hb dX13_feed_37 (by decide) ?_
  refine lv_icmp_ge (tgt := 46) hx hb dX13_feed_39 (by decide) (fun c_55 => ?_) (fun c_55 => absurd (by decide) c_55)
  refine lv_iload hx hb dX13_feed_46 (lv_at hl 0 rfl) ?_
  refine lv_bipush (v := 12) hx hb dX13_feed_48 (by decide) ?_
  refine lv_icmp_ge (tgt := 57) hx hb dX13_feed_50 (by decide) (fun c_56 => ?_) (fun c_56 => absurd (by decide) c_56)
  refine lv_iload hx hb dX13_feed_57 (lv_at hl 0 rfl) ?_
  refine lv_bipush (v := 16) hx hb dX13_feed_59 (by decide) ?_
  refine lv_icmp_ge (tgt := 69) hx hb dX13_feed_61 (by decide) (fun c_57 => absurd c_57 (by decide)) (fun c_57 => ?_)
  refine lv_iload hx hb dX13_feed_64 (lv_at hl 6 rfl) ?_
  refine lv_goto (tgt := 71) hx hb dX13_feed_66 (by decide) ?_
  refine lv_istore (lv' := [(7, .int p3), (6, .int 15), (0, .ref h0), (1, .int p0), (2, .int p1), (3, .int p2), (4, .int p3), (5, .int p4)]) hx hb dX13_feed_71 hl (by decide) rfl (fun ls hl => ?_)
  refine lv_aload_n hx hb dX13_feed_73 rfl (lv_at hl 2 rfl) ?_
  refine va_get (D := (dC, dI)) (ci := 15) (v := .ref h1) (C := RX13) (T := TX13) (N := 196) hx hb hts iw_X13_feed_X13 hown hK hP 0 rfl rfl 0 (by decide) (hts (.fieldLink RX13 9 "LiquidTongueModel" "tape" "[B") (by decide +kernel)) (fun _ h9 => h9) (zs_ne (by decide) hm) dX13_feed_74 ?_
  refine lv_aload_n hx hb dX13_feed_77 rfl (lv_at hl 2 rfl) ?_
  refine va_get (D := (dC, dI)) (ci := 15) (v := .int (nI (((((((((((((((tl + 1) + 1) + 1) + 1) + 1) + 1) + 1) + 1) + 1) + 1) + 1) + 1) + 1) + 1) + 1))) (C := RX13) (T := TX13) (N := 196) hx hb hts iw_X13_feed_X13 hown hK hP 0 rfl rfl 3 (by decide) (hts (.fieldLink RX13 386 "LiquidTongueModel" "length" "I") (by decide +kernel)) (fun _ h9 => h9) (zs_eq (zs_lt hfl (by decide))) dX13_feed_78 ?_
  refine lv_iload hx hb dX13_feed_81 (lv_at hl 0 rfl) ?_
  refine lv_bipush (v := 24) hx hb dX13_feed_83 (by decide) ?_
  refine lv_bipush (v := 8) hx hb dX13_feed_85 (by decide) ?_
  refine lv_iload hx hb dX13_feed_87 (lv_at hl 1 rfl) ?_
  refine lv_iconst (v := 4) hx hb dX13_feed_89 (by decide) ?_
  refine lv_irem hx hb dX13_feed_90 (by decide) ?_
  refine lv_topi (fun z_107 ez_107 => ?_)
  have fz_107 : z_107 = 3 := ez_107.trans (by decide)
  clear ez_107
  subst fz_107
  refine lv_imul hx hb dX13_feed_91 ?_
  refine lv_topi (fun z_108 ez_108 => ?_)
  have fz_108 : z_108 = 24 := ez_108.trans (by decide)
  clear ez_108
  subst fz_108
  refine lv_isub hx hb dX13_feed_92 ?_
  refine lv_topi (fun z_109 ez_109 => ?_)
  have fz_109 : z_109 = 0 := ez_109.trans (by decide)
  clear ez_109
  subst fz_109
  refine lv_ishr hx hb dX13_feed_93 ?_
  refine lv_topi (fun z_110 ez_110 => ?_)
  obtain ⟨z_111, ez_111⟩ : ∃ y : Int32, y = (z_110).toInt8.toInt32 := ⟨_, rfl⟩
  refine lv_i2b (v := z_111) hx hb dX13_feed_94 ez_111.symm ?_
  refine va_bast hx hb hK hP hD hS 1 0 rfl rfl (vp_in_nI (by omega) (by decide)) dX13_feed_95 (fun H locs hP hD hS => ?_)
  rw [nI_clamp (n := (((((((((((((((tl + 1) + 1) + 1) + 1) + 1) + 1) + 1) + 1) + 1) + 1) + 1) + 1) + 1) + 1) + 1)) (by omega), show vp_nar .byte z_111 = zby p3 0 from by rw [ez_111, ez_110]; exact pk_vb _] at hP hD
  have hP : va_P (dC, dI) vwCl [(h0, .inr (15, (fs.set 3 (.int (nI (((((((((((((((tl + 1) + 1) + 1) + 1) + 1) + 1) + 1) + 1) + 1) + 1) + 1) + 1) + 1) + 1) + 1)))))), (h1, .inl (cB, 2000, .inl (upd (upd (upd (upd (upd (upd (upd (upd (upd (upd (upd (upd (upd (upd (upd (upd f (tl) (zby p0 24)) ((tl + 1)) (zby p0 16)) (((tl + 1) + 1)) (zby p0 8)) ((((tl + 1) + 1) + 1)) (zby p0 0)) (((((tl + 1) + 1) + 1) + 1)) (zby p1 24)) ((((((tl + 1) + 1) + 1) + 1) + 1)) (zby p1 16)) (((((((tl + 1) + 1) + 1) + 1) + 1) + 1)) (zby p1 8)) ((((((((tl + 1) + 1) + 1) + 1) + 1) + 1) + 1)) (zby p1 0)) (((((((((tl + 1) + 1) + 1) + 1) + 1) + 1) + 1) + 1)) (zby p2 24)) ((((((((((tl + 1) + 1) + 1) + 1) + 1) + 1) + 1) + 1) + 1)) (zby p2 16)) (((((((((((tl + 1) + 1) + 1) + 1) + 1) + 1) + 1) + 1) + 1) + 1)) (zby p2 8)) ((((((((((((tl + 1) + 1) + 1) + 1) + 1) + 1) + 1) + 1) + 1) + 1) + 1)) (zby p2 0)) (((((((((((((tl + 1) + 1) + 1) + 1) + 1) + 1) + 1) + 1) + 1) + 1) + 1) + 1)) (zby p3 24)) ((((((((((((((tl + 1) + 1) + 1) + 1) + 1) + 1) + 1) + 1) + 1) + 1) + 1) + 1) + 1)) (zby p3 16)) (((((((((((((((tl + 1) + 1) + 1) + 1) + 1) + 1) + 1) + 1) + 1) + 1) + 1) + 1) + 1) + 1)) (zby p3 8)) ((((((((((((((((tl + 1) + 1) + 1) + 1) + 1) + 1) + 1) + 1) + 1) + 1) + 1) + 1) + 1) + 1) + 1)) (zby p3 0))))] H := hP
  have hD : va_D A [(h0, .inr (15, (fs.set 3 (.int (nI (((((((((((((((tl + 1) + 1) + 1) + 1) + 1) + 1) + 1) + 1) + 1) + 1) + 1) + 1) + 1) + 1) + 1)))))), (h1, .inl (cB, 2000, .inl (upd (upd (upd (upd (upd (upd (upd (upd (upd (upd (upd (upd (upd (upd (upd (upd f (tl) (zby p0 24)) ((tl + 1)) (zby p0 16)) (((tl + 1) + 1)) (zby p0 8)) ((((tl + 1) + 1) + 1)) (zby p0 0)) (((((tl + 1) + 1) + 1) + 1)) (zby p1 24)) ((((((tl + 1) + 1) + 1) + 1) + 1)) (zby p1 16)) (((((((tl + 1) + 1) + 1) + 1) + 1) + 1)) (zby p1 8)) ((((((((tl + 1) + 1) + 1) + 1) + 1) + 1) + 1)) (zby p1 0)) (((((((((tl + 1) + 1) + 1) + 1) + 1) + 1) + 1) + 1)) (zby p2 24)) ((((((((((tl + 1) + 1) + 1) + 1) + 1) + 1) + 1) + 1) + 1)) (zby p2 16)) (((((((((((tl + 1) + 1) + 1) + 1) + 1) + 1) + 1) + 1) + 1) + 1)) (zby p2 8)) ((((((((((((tl + 1) + 1) + 1) + 1) + 1) + 1) + 1) + 1) + 1) + 1) + 1)) (zby p2 0)) (((((((((((((tl + 1) + 1) + 1) + 1) + 1) + 1) + 1) + 1) + 1) + 1) + 1) + 1)) (zby p3 24)) ((((((((((((((tl + 1) + 1) + 1) + 1) + 1) + 1) + 1) + 1) + 1) + 1) + 1) + 1) + 1)) (zby p3 16)) (((((((((((((((tl + 1) + 1) + 1) + 1) + 1) + 1) + 1) + 1) + 1) + 1) + 1) + 1) + 1) + 1)) (zby p3 8)) ((((((((((((((((tl + 1) + 1) + 1) + 1) + 1) + 1) + 1) + 1) + 1) + 1) + 1) + 1) + 1) + 1) + 1)) (zby p3 0))))] := hD
  refine lv_aload_n hx hb dX13_feed_96 rfl (lv_at hl 2 rfl) ?_
  refine lv_dup hx hb dX13_feed_97 rfl ?_
  refine va_get (D := (dC, dI)) (ci := 15) (v := .int (nI (((((((((((((((tl + 1) + 1) + 1) + 1) + 1) + 1) + 1) + 1) + 1) + 1) + 1) + 1) + 1) + 1) + 1))) (C := RX13) (T := TX13) (N := 196) hx hb hts iw_X13_feed_X13 hown hK hP 0 rfl rfl 3 (by decide) (hts (.fieldLink RX13 386 "LiquidTongueModel" "length" "I") (by decide +kernel)) (fun _ h9 => h9) (zs_eq (zs_lt hfl (by decide))) dX13_feed_98 ?_
  refine lv_iconst (v := 1) hx hb dX13_feed_101 (by decide) ?_
  refine lv_iadd hx hb dX13_feed_102 ?_
  refine lv_topi (fun z_112 ez_112 => ?_)
  have fz_112 : z_112 = nI ((((((((((((((((tl + 1) + 1) + 1) + 1) + 1) + 1) + 1) + 1) + 1) + 1) + 1) + 1) + 1) + 1) + 1) + 1) := ez_112.trans (nI_1 _)
  clear ez_112
  subst fz_112
  refine va_put (D := (dC, dI)) (ci := 15) (v := .int (nI ((((((((((((((((tl + 1) + 1) + 1) + 1) + 1) + 1) + 1) + 1) + 1) + 1) + 1) + 1) + 1) + 1) + 1) + 1))) (ty := .int) (C := RX13) (T := TX13) (N := 196) hx hb hts iw_X13_feed_X13 tyX13 tyX13_ok nmX13 hown hK hP hD hS 0 rfl rfl 3 (by decide) (hts (.fieldLink RX13 386 "LiquidTongueModel" "length" "I") (by decide +kernel)) (fun _ h9 => h9) rfl (by decide +kernel) rfl rfl (zs_lt (zs_len hfl) (by decide)) dX13_feed_103 (fun H locs hP hD hS => ?_)
  rw [List.set_set] at hP hD
  have hP : va_P (dC, dI) vwCl [(h0, .inr (15, (fs.set 3 (.int (nI ((((((((((((((((tl + 1) + 1) + 1) + 1) + 1) + 1) + 1) + 1) + 1) + 1) + 1) + 1) + 1) + 1) + 1) + 1)))))), (h1, .inl (cB, 2000, .inl (upd (upd (upd (upd (upd (upd (upd (upd (upd (upd (upd (upd (upd (upd (upd (upd f (tl) (zby p0 24)) ((tl + 1)) (zby p0 16)) (((tl + 1) + 1)) (zby p0 8)) ((((tl + 1) + 1) + 1)) (zby p0 0)) (((((tl + 1) + 1) + 1) + 1)) (zby p1 24)) ((((((tl + 1) + 1) + 1) + 1) + 1)) (zby p1 16)) (((((((tl + 1) + 1) + 1) + 1) + 1) + 1)) (zby p1 8)) ((((((((tl + 1) + 1) + 1) + 1) + 1) + 1) + 1)) (zby p1 0)) (((((((((tl + 1) + 1) + 1) + 1) + 1) + 1) + 1) + 1)) (zby p2 24)) ((((((((((tl + 1) + 1) + 1) + 1) + 1) + 1) + 1) + 1) + 1)) (zby p2 16)) (((((((((((tl + 1) + 1) + 1) + 1) + 1) + 1) + 1) + 1) + 1) + 1)) (zby p2 8)) ((((((((((((tl + 1) + 1) + 1) + 1) + 1) + 1) + 1) + 1) + 1) + 1) + 1)) (zby p2 0)) (((((((((((((tl + 1) + 1) + 1) + 1) + 1) + 1) + 1) + 1) + 1) + 1) + 1) + 1)) (zby p3 24)) ((((((((((((((tl + 1) + 1) + 1) + 1) + 1) + 1) + 1) + 1) + 1) + 1) + 1) + 1) + 1)) (zby p3 16)) (((((((((((((((tl + 1) + 1) + 1) + 1) + 1) + 1) + 1) + 1) + 1) + 1) + 1) + 1) + 1) + 1)) (zby p3 8)) ((((((((((((((((tl + 1) + 1) + 1) + 1) + 1) + 1) + 1) + 1) + 1) + 1) + 1) + 1) + 1) + 1) + 1)) (zby p3 0))))] H := hP
  have hD : va_D A [(h0, .inr (15, (fs.set 3 (.int (nI ((((((((((((((((tl + 1) + 1) + 1) + 1) + 1) + 1) + 1) + 1) + 1) + 1) + 1) + 1) + 1) + 1) + 1) + 1)))))), (h1, .inl (cB, 2000, .inl (upd (upd (upd (upd (upd (upd (upd (upd (upd (upd (upd (upd (upd (upd (upd (upd f (tl) (zby p0 24)) ((tl + 1)) (zby p0 16)) (((tl + 1) + 1)) (zby p0 8)) ((((tl + 1) + 1) + 1)) (zby p0 0)) (((((tl + 1) + 1) + 1) + 1)) (zby p1 24)) ((((((tl + 1) + 1) + 1) + 1) + 1)) (zby p1 16)) (((((((tl + 1) + 1) + 1) + 1) + 1) + 1)) (zby p1 8)) ((((((((tl + 1) + 1) + 1) + 1) + 1) + 1) + 1)) (zby p1 0)) (((((((((tl + 1) + 1) + 1) + 1) + 1) + 1) + 1) + 1)) (zby p2 24)) ((((((((((tl + 1) + 1) + 1) + 1) + 1) + 1) + 1) + 1) + 1)) (zby p2 16)) (((((((((((tl + 1) + 1) + 1) + 1) + 1) + 1) + 1) + 1) + 1) + 1)) (zby p2 8)) ((((((((((((tl + 1) + 1) + 1) + 1) + 1) + 1) + 1) + 1) + 1) + 1) + 1)) (zby p2 0)) (((((((((((((tl + 1) + 1) + 1) + 1) + 1) + 1) + 1) + 1) + 1) + 1) + 1) + 1)) (zby p3 24)) ((((((((((((((tl + 1) + 1) + 1) + 1) + 1) + 1) + 1) + 1) + 1) + 1) + 1) + 1) + 1)) (zby p3 16)) (((((((((((((((tl + 1) + 1) + 1) + 1) + 1) + 1) + 1) + 1) + 1) + 1) + 1) + 1) + 1) + 1)) (zby p3 8)) ((((((((((((((((tl + 1) + 1) + 1) + 1) + 1) + 1) + 1) + 1) + 1) + 1) + 1) + 1) + 1) + 1) + 1)) (zby p3 0))))] := hD
  refine lv_iinc (v := 16) (lv' := [(6, .int 16), (7, .int p3), (0, .ref h0), (1, .int p0), (2, .int p1), (3, .int p2), (4, .int p3), (5, .int p4)]) hx hb dX13_feed_106 hl (k := 1) rfl (by decide) (by decide) rfl (fun ls hl => ?_)
  refine lv_goto (tgt := 18) hx hb dX13_feed_109 (by decide) ?_
  refine lv_iload hx hb dX13_feed_18 (lv_at hl 0 rfl) ?_
  refine lv_bipush (v := 20) hx hb dX13_feed_20 (by decide) ?_
  refine lv_icmp_ge (tgt := 112) hx hb dX13_feed_22 (by decide) (fun c_58 => absurd c_58 (by decide)) (fun c_58 => ?_)
  refine lv_iload hx hb dX13_feed_25 (lv_at hl 0 rfl) ?_
  refine lv_iconst (v := 4) hx hb dX13_feed_27 (by decide) ?_
  refine lv_icmp_ge (tgt := 35) hx hb dX13_feed_28 (by decide) (fun c_59 => ?_) (fun c_59 => absurd (by decide) c_59)
  refine lv_iload hx hb dX13_feed_35 (lv_at hl 0 rfl) ?_
  refine lv_bipush (v := 8) hx hb dX13_feed_37 (by decide) ?_
  refine lv_icmp_ge (tgt := 46) hx hb dX13_feed_39 (by decide) (fun c_60 => ?_) (fun c_60 => absurd (by decide) c_60)
  refine lv_iload hx hb dX13_feed_46 (lv_at hl 0 rfl) ?_
  refine lv_bipush (v := 12) hx hb dX13_feed_48 (by decide) ?_
  refine lv_icmp_ge (tgt := 57) hx hb dX13_feed_50 (by decide) (fun c_61 => ?_) (fun c_61 => absurd (by decide) c_61)
  refine lv_iload hx hb dX13_feed_57 (lv_at hl 0 rfl) ?_
  refine lv_bipush (v := 16) hx hb dX13_feed_59 (by decide) ?_
  refine lv_icmp_ge (tgt := 69) hx hb dX13_feed_61 (by decide) (fun c_62 => ?_) (fun c_62 => absurd (by decide) c_62)
  refine lv_iload hx hb dX13_feed_69 (lv_at hl 7 rfl) ?_
  refine lv_istore (lv' := [(7, .int p4), (6, .int 16), (0, .ref h0), (1, .int p0), (2, .int p1), (3, .int p2), (4, .int p3), (5, .int p4)]) hx hb dX13_feed_71 hl (by decide) rfl (fun ls hl => ?_)
  refine lv_aload_n hx hb dX13_feed_73 rfl (lv_at hl 2 rfl) ?_
  refine va_get (D := (dC, dI)) (ci := 15) (v := .ref h1) (C := RX13) (T := TX13) (N := 196) hx hb hts iw_X13_feed_X13 hown hK hP 0 rfl rfl 0 (by decide) (hts (.fieldLink RX13 9 "LiquidTongueModel" "tape" "[B") (by decide +kernel)) (fun _ h9 => h9) (zs_ne (by decide) hm) dX13_feed_74 ?_
  refine lv_aload_n hx hb dX13_feed_77 rfl (lv_at hl 2 rfl) ?_
  refine va_get (D := (dC, dI)) (ci := 15) (v := .int (nI ((((((((((((((((tl + 1) + 1) + 1) + 1) + 1) + 1) + 1) + 1) + 1) + 1) + 1) + 1) + 1) + 1) + 1) + 1))) (C := RX13) (T := TX13) (N := 196) hx hb hts iw_X13_feed_X13 hown hK hP 0 rfl rfl 3 (by decide) (hts (.fieldLink RX13 386 "LiquidTongueModel" "length" "I") (by decide +kernel)) (fun _ h9 => h9) (zs_eq (zs_lt hfl (by decide))) dX13_feed_78 ?_
  refine lv_iload hx hb dX13_feed_81 (lv_at hl 0 rfl) ?_
  refine lv_bipush (v := 24) hx hb dX13_feed_83 (by decide) ?_
  refine lv_bipush (v := 8) hx hb dX13_feed_85 (by decide) ?_
  refine lv_iload hx hb dX13_feed_87 (lv_at hl 1 rfl) ?_
  refine lv_iconst (v := 4) hx hb dX13_feed_89 (by decide) ?_
  refine lv_irem hx hb dX13_feed_90 (by decide) ?_
  refine lv_topi (fun z_114 ez_114 => ?_)
  have fz_114 : z_114 = 0 := ez_114.trans (by decide)
  clear ez_114
  subst fz_114
  refine lv_imul hx hb dX13_feed_91 ?_
  refine lv_topi (fun z_115 ez_115 => ?_)
  have fz_115 : z_115 = 0 := ez_115.trans (by decide)
  clear ez_115
  subst fz_115
  refine lv_isub hx hb dX13_feed_92 ?_
  refine lv_topi (fun z_116 ez_116 => ?_)
  have fz_116 : z_116 = 24 := ez_116.trans (by decide)
  clear ez_116
  subst fz_116
  refine lv_ishr hx hb dX13_feed_93 ?_
  refine lv_topi (fun z_117 ez_117 => ?_)
  obtain ⟨z_118, ez_118⟩ : ∃ y : Int32, y = (z_117).toInt8.toInt32 := ⟨_, rfl⟩
  refine lv_i2b (v := z_118) hx hb dX13_feed_94 ez_118.symm ?_
  refine va_bast hx hb hK hP hD hS 1 0 rfl rfl (vp_in_nI (by omega) (by decide)) dX13_feed_95 (fun H locs hP hD hS => ?_)
  rw [nI_clamp (n := ((((((((((((((((tl + 1) + 1) + 1) + 1) + 1) + 1) + 1) + 1) + 1) + 1) + 1) + 1) + 1) + 1) + 1) + 1)) (by omega), show vp_nar .byte z_118 = zby p4 24 from by rw [ez_118, ez_117]; exact pk_vb _] at hP hD
  have hP : va_P (dC, dI) vwCl [(h0, .inr (15, (fs.set 3 (.int (nI ((((((((((((((((tl + 1) + 1) + 1) + 1) + 1) + 1) + 1) + 1) + 1) + 1) + 1) + 1) + 1) + 1) + 1) + 1)))))), (h1, .inl (cB, 2000, .inl (upd (upd (upd (upd (upd (upd (upd (upd (upd (upd (upd (upd (upd (upd (upd (upd (upd f (tl) (zby p0 24)) ((tl + 1)) (zby p0 16)) (((tl + 1) + 1)) (zby p0 8)) ((((tl + 1) + 1) + 1)) (zby p0 0)) (((((tl + 1) + 1) + 1) + 1)) (zby p1 24)) ((((((tl + 1) + 1) + 1) + 1) + 1)) (zby p1 16)) (((((((tl + 1) + 1) + 1) + 1) + 1) + 1)) (zby p1 8)) ((((((((tl + 1) + 1) + 1) + 1) + 1) + 1) + 1)) (zby p1 0)) (((((((((tl + 1) + 1) + 1) + 1) + 1) + 1) + 1) + 1)) (zby p2 24)) ((((((((((tl + 1) + 1) + 1) + 1) + 1) + 1) + 1) + 1) + 1)) (zby p2 16)) (((((((((((tl + 1) + 1) + 1) + 1) + 1) + 1) + 1) + 1) + 1) + 1)) (zby p2 8)) ((((((((((((tl + 1) + 1) + 1) + 1) + 1) + 1) + 1) + 1) + 1) + 1) + 1)) (zby p2 0)) (((((((((((((tl + 1) + 1) + 1) + 1) + 1) + 1) + 1) + 1) + 1) + 1) + 1) + 1)) (zby p3 24)) ((((((((((((((tl + 1) + 1) + 1) + 1) + 1) + 1) + 1) + 1) + 1) + 1) + 1) + 1) + 1)) (zby p3 16)) (((((((((((((((tl + 1) + 1) + 1) + 1) + 1) + 1) + 1) + 1) + 1) + 1) + 1) + 1) + 1) + 1)) (zby p3 8)) ((((((((((((((((tl + 1) + 1) + 1) + 1) + 1) + 1) + 1) + 1) + 1) + 1) + 1) + 1) + 1) + 1) + 1)) (zby p3 0)) (((((((((((((((((tl + 1) + 1) + 1) + 1) + 1) + 1) + 1) + 1) + 1) + 1) + 1) + 1) + 1) + 1) + 1) + 1)) (zby p4 24))))] H := hP
  have hD : va_D A [(h0, .inr (15, (fs.set 3 (.int (nI ((((((((((((((((tl + 1) + 1) + 1) + 1) + 1) + 1) + 1) + 1) + 1) + 1) + 1) + 1) + 1) + 1) + 1) + 1)))))), (h1, .inl (cB, 2000, .inl (upd (upd (upd (upd (upd (upd (upd (upd (upd (upd (upd (upd (upd (upd (upd (upd (upd f (tl) (zby p0 24)) ((tl + 1)) (zby p0 16)) (((tl + 1) + 1)) (zby p0 8)) ((((tl + 1) + 1) + 1)) (zby p0 0)) (((((tl + 1) + 1) + 1) + 1)) (zby p1 24)) ((((((tl + 1) + 1) + 1) + 1) + 1)) (zby p1 16)) (((((((tl + 1) + 1) + 1) + 1) + 1) + 1)) (zby p1 8)) ((((((((tl + 1) + 1) + 1) + 1) + 1) + 1) + 1)) (zby p1 0)) (((((((((tl + 1) + 1) + 1) + 1) + 1) + 1) + 1) + 1)) (zby p2 24)) ((((((((((tl + 1) + 1) + 1) + 1) + 1) + 1) + 1) + 1) + 1)) (zby p2 16)) (((((((((((tl + 1) + 1) + 1) + 1) + 1) + 1) + 1) + 1) + 1) + 1)) (zby p2 8)) ((((((((((((tl + 1) + 1) + 1) + 1) + 1) + 1) + 1) + 1) + 1) + 1) + 1)) (zby p2 0)) (((((((((((((tl + 1) + 1) + 1) + 1) + 1) + 1) + 1) + 1) + 1) + 1) + 1) + 1)) (zby p3 24)) ((((((((((((((tl + 1) + 1) + 1) + 1) + 1) + 1) + 1) + 1) + 1) + 1) + 1) + 1) + 1)) (zby p3 16)) (((((((((((((((tl + 1) + 1) + 1) + 1) + 1) + 1) + 1) + 1) + 1) + 1) + 1) + 1) + 1) + 1)) (zby p3 8)) ((((((((((((((((tl + 1) + 1) + 1) + 1) + 1) + 1) + 1) + 1) + 1) + 1) + 1) + 1) + 1) + 1) + 1)) (zby p3 0)) (((((((((((((((((tl + 1) + 1) + 1) + 1) + 1) + 1) + 1) + 1) + 1) + 1) + 1) + 1) + 1) + 1) + 1) + 1)) (zby p4 24))))] := hD
  refine lv_aload_n hx hb dX13_feed_96 rfl (lv_at hl 2 rfl) ?_
  refine lv_dup hx hb dX13_feed_97 rfl ?_
  refine va_get (D := (dC, dI)) (ci := 15) (v := .int (nI ((((((((((((((((tl + 1) + 1) + 1) + 1) + 1) + 1) + 1) + 1) + 1) + 1) + 1) + 1) + 1) + 1) + 1) + 1))) (C := RX13) (T := TX13) (N := 196) hx hb hts iw_X13_feed_X13 hown hK hP 0 rfl rfl 3 (by decide) (hts (.fieldLink RX13 386 "LiquidTongueModel" "length" "I") (by decide +kernel)) (fun _ h9 => h9) (zs_eq (zs_lt hfl (by decide))) dX13_feed_98 ?_
  refine lv_iconst (v := 1) hx hb dX13_feed_101 (by decide) ?_
  refine lv_iadd hx hb dX13_feed_102 ?_
  refine lv_topi (fun z_119 ez_119 => ?_)
  have fz_119 : z_119 = nI (((((((((((((((((tl + 1) + 1) + 1) + 1) + 1) + 1) + 1) + 1) + 1) + 1) + 1) + 1) + 1) + 1) + 1) + 1) + 1) := ez_119.trans (nI_1 _)
  clear ez_119
  subst fz_119
  refine va_put (D := (dC, dI)) (ci := 15) (v := .int (nI (((((((((((((((((tl + 1) + 1) + 1) + 1) + 1) + 1) + 1) + 1) + 1) + 1) + 1) + 1) + 1) + 1) + 1) + 1) + 1))) (ty := .int) (C := RX13) (T := TX13) (N := 196) hx hb hts iw_X13_feed_X13 tyX13 tyX13_ok nmX13 hown hK hP hD hS 0 rfl rfl 3 (by decide) (hts (.fieldLink RX13 386 "LiquidTongueModel" "length" "I") (by decide +kernel)) (fun _ h9 => h9) rfl (by decide +kernel) rfl rfl (zs_lt (zs_len hfl) (by decide)) dX13_feed_103 (fun H locs hP hD hS => ?_)
  rw [List.set_set] at hP hD
  have hP : va_P (dC, dI) vwCl [(h0, .inr (15, (fs.set 3 (.int (nI (((((((((((((((((tl + 1) + 1) + 1) + 1) + 1) + 1) + 1) + 1) + 1) + 1) + 1) + 1) + 1) + 1) + 1) + 1) + 1)))))), (h1, .inl (cB, 2000, .inl (upd (upd (upd (upd (upd (upd (upd (upd (upd (upd (upd (upd (upd (upd (upd (upd (upd f (tl) (zby p0 24)) ((tl + 1)) (zby p0 16)) (((tl + 1) + 1)) (zby p0 8)) ((((tl + 1) + 1) + 1)) (zby p0 0)) (((((tl + 1) + 1) + 1) + 1)) (zby p1 24)) ((((((tl + 1) + 1) + 1) + 1) + 1)) (zby p1 16)) (((((((tl + 1) + 1) + 1) + 1) + 1) + 1)) (zby p1 8)) ((((((((tl + 1) + 1) + 1) + 1) + 1) + 1) + 1)) (zby p1 0)) (((((((((tl + 1) + 1) + 1) + 1) + 1) + 1) + 1) + 1)) (zby p2 24)) ((((((((((tl + 1) + 1) + 1) + 1) + 1) + 1) + 1) + 1) + 1)) (zby p2 16)) (((((((((((tl + 1) + 1) + 1) + 1) + 1) + 1) + 1) + 1) + 1) + 1)) (zby p2 8)) ((((((((((((tl + 1) + 1) + 1) + 1) + 1) + 1) + 1) + 1) + 1) + 1) + 1)) (zby p2 0)) (((((((((((((tl + 1) + 1) + 1) + 1) + 1) + 1) + 1) + 1) + 1) + 1) + 1) + 1)) (zby p3 24)) ((((((((((((((tl + 1) + 1) + 1) + 1) + 1) + 1) + 1) + 1) + 1) + 1) + 1) + 1) + 1)) (zby p3 16)) (((((((((((((((tl + 1) + 1) + 1) + 1) + 1) + 1) + 1) + 1) + 1) + 1) + 1) + 1) + 1) + 1)) (zby p3 8)) ((((((((((((((((tl + 1) + 1) + 1) + 1) + 1) + 1) + 1) + 1) + 1) + 1) + 1) + 1) + 1) + 1) + 1)) (zby p3 0)) (((((((((((((((((tl + 1) + 1) + 1) + 1) + 1) + 1) + 1) + 1) + 1) + 1) + 1) + 1) + 1) + 1) + 1) + 1)) (zby p4 24))))] H := hP
  have hD : va_D A [(h0, .inr (15, (fs.set 3 (.int (nI (((((((((((((((((tl + 1) + 1) + 1) + 1) + 1) + 1) + 1) + 1) + 1) + 1) + 1) + 1) + 1) + 1) + 1) + 1) + 1)))))), (h1, .inl (cB, 2000, .inl (upd (upd (upd (upd (upd (upd (upd (upd (upd (upd (upd (upd (upd (upd (upd (upd (upd f (tl) (zby p0 24)) ((tl + 1)) (zby p0 16)) (((tl + 1) + 1)) (zby p0 8)) ((((tl + 1) + 1) + 1)) (zby p0 0)) (((((tl + 1) + 1) + 1) + 1)) (zby p1 24)) ((((((tl + 1) + 1) + 1) + 1) + 1)) (zby p1 16)) (((((((tl + 1) + 1) + 1) + 1) + 1) + 1)) (zby p1 8)) ((((((((tl + 1) + 1) + 1) + 1) + 1) + 1) + 1)) (zby p1 0)) (((((((((tl + 1) + 1) + 1) + 1) + 1) + 1) + 1) + 1)) (zby p2 24)) ((((((((((tl + 1) + 1) + 1) + 1) + 1) + 1) + 1) + 1) + 1)) (zby p2 16)) (((((((((((tl + 1) + 1) + 1) + 1) + 1) + 1) + 1) + 1) + 1) + 1)) (zby p2 8)) ((((((((((((tl + 1) + 1) + 1) + 1) + 1) + 1) + 1) + 1) + 1) + 1) + 1)) (zby p2 0)) (((((((((((((tl + 1) + 1) + 1) + 1) + 1) + 1) + 1) + 1) + 1) + 1) + 1) + 1)) (zby p3 24)) ((((((((((((((tl + 1) + 1) + 1) + 1) + 1) + 1) + 1) + 1) + 1) + 1) + 1) + 1) + 1)) (zby p3 16)) (((((((((((((((tl + 1) + 1) + 1) + 1) + 1) + 1) + 1) + 1) + 1) + 1) + 1) + 1) + 1) + 1)) (zby p3 8)) ((((((((((((((((tl + 1) + 1) + 1) + 1) + 1) + 1) + 1) + 1) + 1) + 1) + 1) + 1) + 1) + 1) + 1)) (zby p3 0)) (((((((((((((((((tl + 1) + 1) + 1) + 1) + 1) + 1) + 1) + 1) + 1) + 1) + 1) + 1) + 1) + 1) + 1) + 1)) (zby p4 24))))] := hD
  refine lv_iinc (v := 17) (lv' := [(6, .int 17), (7, .int p4), (0, .ref h0), (1, .int p0), (2, .int p1), (3, .int p2), (4, .int p3), (5, .int p4)]) hx hb dX13_feed_106 hl (k := 1) rfl (by decide) (by decide) rfl (fun ls hl => ?_)
  refine lv_goto (tgt := 18) hx hb dX13_feed_109 (by decide) ?_
  refine lv_iload hx hb dX13_feed_18 (lv_at hl 0 rfl) ?_
  refine lv_bipush (v := 20) hx hb dX13_feed_20 (by decide) ?_
  refine lv_icmp_ge (tgt := 112) hx hb dX13_feed_22 (by decide) (fun c_63 => absurd c_63 (by decide)) (fun c_63 => ?_)
  refine lv_iload hx hb dX13_feed_25 (lv_at hl 0 rfl) ?_
  refine lv_iconst (v := 4) hx hb dX13_feed_27 (by decide) ?_
  refine lv_icmp_ge (tgt := 35) hx hb dX13_feed_28 (by decide) (fun c_64 => ?_) (fun c_64 => absurd (by decide) c_64)
  refine lv_iload hx hb dX13_feed_35 (lv_at hl 0 rfl) ?_
  refine lv_bipush (v := 8) hx hb dX13_feed_37 (by decide) ?_
  refine lv_icmp_ge (tgt := 46) hx hb dX13_feed_39 (by decide) (fun c_65 => ?_) (fun c_65 => absurd (by decide) c_65)
  refine lv_iload hx hb dX13_feed_46 (lv_at hl 0 rfl) ?_
  refine lv_bipush (v := 12) hx hb dX13_feed_48 (by decide) ?_
  refine lv_icmp_ge (tgt := 57) hx hb dX13_feed_50 (by decide) (fun c_66 => ?_) (fun c_66 => absurd (by decide) c_66)
  refine lv_iload hx hb dX13_feed_57 (lv_at hl 0 rfl) ?_
  refine lv_bipush (v := 16) hx hb dX13_feed_59 (by decide) ?_
  refine lv_icmp_ge (tgt := 69) hx hb dX13_feed_61 (by decide) (fun c_67 => ?_) (fun c_67 => absurd (by decide) c_67)
  refine lv_iload hx hb dX13_feed_69 (lv_at hl 7 rfl) ?_
  refine lv_istore (lv' := [(7, .int p4), (6, .int 17), (0, .ref h0), (1, .int p0), (2, .int p1), (3, .int p2), (4, .int p3), (5, .int p4)]) hx hb dX13_feed_71 hl (by decide) rfl (fun ls hl => ?_)
  refine lv_aload_n hx hb dX13_feed_73 rfl (lv_at hl 2 rfl) ?_
  refine va_get (D := (dC, dI)) (ci := 15) (v := .ref h1) (C := RX13) (T := TX13) (N := 196) hx hb hts iw_X13_feed_X13 hown hK hP 0 rfl rfl 0 (by decide) (hts (.fieldLink RX13 9 "LiquidTongueModel" "tape" "[B") (by decide +kernel)) (fun _ h9 => h9) (zs_ne (by decide) hm) dX13_feed_74 ?_
  refine lv_aload_n hx hb dX13_feed_77 rfl (lv_at hl 2 rfl) ?_
  refine va_get (D := (dC, dI)) (ci := 15) (v := .int (nI (((((((((((((((((tl + 1) + 1) + 1) + 1) + 1) + 1) + 1) + 1) + 1) + 1) + 1) + 1) + 1) + 1) + 1) + 1) + 1))) (C := RX13) (T := TX13) (N := 196) hx hb hts iw_X13_feed_X13 hown hK hP 0 rfl rfl 3 (by decide) (hts (.fieldLink RX13 386 "LiquidTongueModel" "length" "I") (by decide +kernel)) (fun _ h9 => h9) (zs_eq (zs_lt hfl (by decide))) dX13_feed_78 ?_
  refine lv_iload hx hb dX13_feed_81 (lv_at hl 0 rfl) ?_
  refine lv_bipush (v := 24) hx hb dX13_feed_83 (by decide) ?_
  refine lv_bipush (v := 8) hx hb dX13_feed_85 (by decide) ?_
  refine lv_iload hx hb dX13_feed_87 (lv_at hl 1 rfl) ?_
  refine lv_iconst (v := 4) hx hb dX13_feed_89 (by decide) ?_
  refine lv_irem hx hb dX13_feed_90 (by decide) ?_
  refine lv_topi (fun z_121 ez_121 => ?_)
  have fz_121 : z_121 = 1 := ez_121.trans (by decide)
  clear ez_121
  subst fz_121
  refine lv_imul hx hb dX13_feed_91 ?_
  refine lv_topi (fun z_122 ez_122 => ?_)
  have fz_122 : z_122 = 8 := ez_122.trans (by decide)
  clear ez_122
  subst fz_122
  refine lv_isub hx hb dX13_feed_92 ?_
  refine lv_topi (fun z_123 ez_123 => ?_)
  have fz_123 : z_123 = 16 := ez_123.trans (by decide)
  clear ez_123
  subst fz_123
  refine lv_ishr hx hb dX13_feed_93 ?_
  refine lv_topi (fun z_124 ez_124 => ?_)
  obtain ⟨z_125, ez_125⟩ : ∃ y : Int32, y = (z_124).toInt8.toInt32 := ⟨_, rfl⟩
  refine lv_i2b (v := z_125) hx hb dX13_feed_94 ez_125.symm ?_
  refine va_bast hx hb hK hP hD hS 1 0 rfl rfl (vp_in_nI (by omega) (by decide)) dX13_feed_95 (fun H locs hP hD hS => ?_)
  rw [nI_clamp (n := (((((((((((((((((tl + 1) + 1) + 1) + 1) + 1) + 1) + 1) + 1) + 1) + 1) + 1) + 1) + 1) + 1) + 1) + 1) + 1)) (by omega), show vp_nar .byte z_125 = zby p4 16 from by rw [ez_125, ez_124]; exact pk_vb _] at hP hD
  have hP : va_P (dC, dI) vwCl [(h0, .inr (15, (fs.set 3 (.int (nI (((((((((((((((((tl + 1) + 1) + 1) + 1) + 1) + 1) + 1) + 1) + 1) + 1) + 1) + 1) + 1) + 1) + 1) + 1) + 1)))))), (h1, .inl (cB, 2000, .inl (upd (upd (upd (upd (upd (upd (upd (upd (upd (upd (upd (upd (upd (upd (upd (upd (upd (upd f (tl) (zby p0 24)) ((tl + 1)) (zby p0 16)) (((tl + 1) + 1)) (zby p0 8)) ((((tl + 1) + 1) + 1)) (zby p0 0)) (((((tl + 1) + 1) + 1) + 1)) (zby p1 24)) ((((((tl + 1) + 1) + 1) + 1) + 1)) (zby p1 16)) (((((((tl + 1) + 1) + 1) + 1) + 1) + 1)) (zby p1 8)) ((((((((tl + 1) + 1) + 1) + 1) + 1) + 1) + 1)) (zby p1 0)) (((((((((tl + 1) + 1) + 1) + 1) + 1) + 1) + 1) + 1)) (zby p2 24)) ((((((((((tl + 1) + 1) + 1) + 1) + 1) + 1) + 1) + 1) + 1)) (zby p2 16)) (((((((((((tl + 1) + 1) + 1) + 1) + 1) + 1) + 1) + 1) + 1) + 1)) (zby p2 8)) ((((((((((((tl + 1) + 1) + 1) + 1) + 1) + 1) + 1) + 1) + 1) + 1) + 1)) (zby p2 0)) (((((((((((((tl + 1) + 1) + 1) + 1) + 1) + 1) + 1) + 1) + 1) + 1) + 1) + 1)) (zby p3 24)) ((((((((((((((tl + 1) + 1) + 1) + 1) + 1) + 1) + 1) + 1) + 1) + 1) + 1) + 1) + 1)) (zby p3 16)) (((((((((((((((tl + 1) + 1) + 1) + 1) + 1) + 1) + 1) + 1) + 1) + 1) + 1) + 1) + 1) + 1)) (zby p3 8)) ((((((((((((((((tl + 1) + 1) + 1) + 1) + 1) + 1) + 1) + 1) + 1) + 1) + 1) + 1) + 1) + 1) + 1)) (zby p3 0)) (((((((((((((((((tl + 1) + 1) + 1) + 1) + 1) + 1) + 1) + 1) + 1) + 1) + 1) + 1) + 1) + 1) + 1) + 1)) (zby p4 24)) ((((((((((((((((((tl + 1) + 1) + 1) + 1) + 1) + 1) + 1) + 1) + 1) + 1) + 1) + 1) + 1) + 1) + 1) + 1) + 1)) (zby p4 16))))] H := hP
  have hD : va_D A [(h0, .inr (15, (fs.set 3 (.int (nI (((((((((((((((((tl + 1) + 1) + 1) + 1) + 1) + 1) + 1) + 1) + 1) + 1) + 1) + 1) + 1) + 1) + 1) + 1) + 1)))))), (h1, .inl (cB, 2000, .inl (upd (upd (upd (upd (upd (upd (upd (upd (upd (upd (upd (upd (upd (upd (upd (upd (upd (upd f (tl) (zby p0 24)) ((tl + 1)) (zby p0 16)) (((tl + 1) + 1)) (zby p0 8)) ((((tl + 1) + 1) + 1)) (zby p0 0)) (((((tl + 1) + 1) + 1) + 1)) (zby p1 24)) ((((((tl + 1) + 1) + 1) + 1) + 1)) (zby p1 16)) (((((((tl + 1) + 1) + 1) + 1) + 1) + 1)) (zby p1 8)) ((((((((tl + 1) + 1) + 1) + 1) + 1) + 1) + 1)) (zby p1 0)) (((((((((tl + 1) + 1) + 1) + 1) + 1) + 1) + 1) + 1)) (zby p2 24)) ((((((((((tl + 1) + 1) + 1) + 1) + 1) + 1) + 1) + 1) + 1)) (zby p2 16)) (((((((((((tl + 1) + 1) + 1) + 1) + 1) + 1) + 1) + 1) + 1) + 1)) (zby p2 8)) ((((((((((((tl + 1) + 1) + 1) + 1) + 1) + 1) + 1) + 1) + 1) + 1) + 1)) (zby p2 0)) (((((((((((((tl + 1) + 1) + 1) + 1) + 1) + 1) + 1) + 1) + 1) + 1) + 1) + 1)) (zby p3 24)) ((((((((((((((tl + 1) + 1) + 1) + 1) + 1) + 1) + 1) + 1) + 1) + 1) + 1) + 1) + 1)) (zby p3 16)) (((((((((((((((tl + 1) + 1) + 1) + 1) + 1) + 1) + 1) + 1) + 1) + 1) + 1) + 1) + 1) + 1)) (zby p3 8)) ((((((((((((((((tl + 1) + 1) + 1) + 1) + 1) + 1) + 1) + 1) + 1) + 1) + 1) + 1) + 1) + 1) + 1)) (zby p3 0)) (((((((((((((((((tl + 1) + 1) + 1) + 1) + 1) + 1) + 1) + 1) + 1) + 1) + 1) + 1) + 1) + 1) + 1) + 1)) (zby p4 24)) ((((((((((((((((((tl + 1) + 1) + 1) + 1) + 1) + 1) + 1) + 1) + 1) + 1) + 1) + 1) + 1) + 1) + 1) + 1) + 1)) (zby p4 16))))] := hD
  refine lv_aload_n hx hb dX13_feed_96 rfl (lv_at hl 2 rfl) ?_
  refine lv_dup hx hb dX13_feed_97 rfl ?_
  refine va_get (D := (dC, dI)) (ci := 15) (v := .int (nI (((((((((((((((((tl + 1) + 1) + 1) + 1) + 1) + 1) + 1) + 1) + 1) + 1) + 1) + 1) + 1) + 1) + 1) + 1) + 1))) (C := RX13) (T := TX13) (N := 196) hx hb hts iw_X13_feed_X13 hown hK hP 0 rfl rfl 3 (by decide) (hts (.fieldLink RX13 386 "LiquidTongueModel" "length" "I") (by decide +kernel)) (fun _ h9 => h9) (zs_eq (zs_lt hfl (by decide))) dX13_feed_98 ?_
  refine lv_iconst (v := 1) hx hb dX13_feed_101 (by decide) ?_
  refine lv_iadd hx hb dX13_feed_102 ?_
  refine lv_topi (fun z_126 ez_126 => ?_)
  have fz_126 : z_126 = nI ((((((((((((((((((tl + 1) + 1) + 1) + 1) + 1) + 1) + 1) + 1) + 1) + 1) + 1) + 1) + 1) + 1) + 1) + 1) + 1) + 1) := ez_126.trans (nI_1 _)
  clear ez_126
  subst fz_126
  refine va_put (D := (dC, dI)) (ci := 15) (v := .int (nI ((((((((((((((((((tl + 1) + 1) + 1) + 1) + 1) + 1) + 1) + 1) + 1) + 1) + 1) + 1) + 1) + 1) + 1) + 1) + 1) + 1))) (ty := .int) (C := RX13) (T := TX13) (N := 196) hx hb hts iw_X13_feed_X13 tyX13 tyX13_ok nmX13 hown hK hP hD hS 0 rfl rfl 3 (by decide) (hts (.fieldLink RX13 386 "LiquidTongueModel" "length" "I") (by decide +kernel)) (fun _ h9 => h9) rfl (by decide +kernel) rfl rfl (zs_lt (zs_len hfl) (by decide)) dX13_feed_103 (fun H locs hP hD hS => ?_)
  rw [List.set_set] at hP hD
  have hP : va_P (dC, dI) vwCl [(h0, .inr (15, (fs.set 3 (.int (nI ((((((((((((((((((tl + 1) + 1) + 1) + 1) + 1) + 1) + 1) + 1) + 1) + 1) + 1) + 1) + 1) + 1) + 1) + 1) + 1) + 1)))))), (h1, .inl (cB, 2000, .inl (upd (upd (upd (upd (upd (upd (upd (upd (upd (upd (upd (upd (upd (upd (upd (upd (upd (upd f (tl) (zby p0 24)) ((tl + 1)) (zby p0 16)) (((tl + 1) + 1)) (zby p0 8)) ((((tl + 1) + 1) + 1)) (zby p0 0)) (((((tl + 1) + 1) + 1) + 1)) (zby p1 24)) ((((((tl + 1) + 1) + 1) + 1) + 1)) (zby p1 16)) (((((((tl + 1) + 1) + 1) + 1) + 1) + 1)) (zby p1 8)) ((((((((tl + 1) + 1) + 1) + 1) + 1) + 1) + 1)) (zby p1 0)) (((((((((tl + 1) + 1) + 1) + 1) + 1) + 1) + 1) + 1)) (zby p2 24)) ((((((((((tl + 1) + 1) + 1) + 1) + 1) + 1) + 1) + 1) + 1)) (zby p2 16)) (((((((((((tl + 1) + 1) + 1) + 1) + 1) + 1) + 1) + 1) + 1) + 1)) (zby p2 8)) ((((((((((((tl + 1) + 1) + 1) + 1) + 1) + 1) + 1) + 1) + 1) + 1) + 1)) (zby p2 0)) (((((((((((((tl + 1) + 1) + 1) + 1) + 1) + 1) + 1) + 1) + 1) + 1) + 1) + 1)) (zby p3 24)) ((((((((((((((tl + 1) + 1) + 1) + 1) + 1) + 1) + 1) + 1) + 1) + 1) + 1) + 1) + 1)) (zby p3 16)) (((((((((((((((tl + 1) + 1) + 1) + 1) + 1) + 1) + 1) + 1) + 1) + 1) + 1) + 1) + 1) + 1)) (zby p3 8)) ((((((((((((((((tl + 1) + 1) + 1) + 1) + 1) + 1) + 1) + 1) + 1) + 1) + 1) + 1) + 1) + 1) + 1)) (zby p3 0)) (((((((((((((((((tl + 1) + 1) + 1) + 1) + 1) + 1) + 1) + 1) + 1) + 1) + 1) + 1) + 1) + 1) + 1) + 1)) (zby p4 24)) ((((((((((((((((((tl + 1) + 1) + 1) + 1) + 1) + 1) + 1) + 1) + 1) + 1) + 1) + 1) + 1) + 1) + 1) + 1) + 1)) (zby p4 16))))] H := hP
  have hD : va_D A [(h0, .inr (15, (fs.set 3 (.int (nI ((((((((((((((((((tl + 1) + 1) + 1) + 1) + 1) + 1) + 1) + 1) + 1) + 1) + 1) + 1) + 1) + 1) + 1) + 1) + 1) + 1)))))), (h1, .inl (cB, 2000, .inl (upd (upd (upd (upd (upd (upd (upd (upd (upd (upd (upd (upd (upd (upd (upd (upd (upd (upd f (tl) (zby p0 24)) ((tl + 1)) (zby p0 16)) (((tl + 1) + 1)) (zby p0 8)) ((((tl + 1) + 1) + 1)) (zby p0 0)) (((((tl + 1) + 1) + 1) + 1)) (zby p1 24)) ((((((tl + 1) + 1) + 1) + 1) + 1)) (zby p1 16)) (((((((tl + 1) + 1) + 1) + 1) + 1) + 1)) (zby p1 8)) ((((((((tl + 1) + 1) + 1) + 1) + 1) + 1) + 1)) (zby p1 0)) (((((((((tl + 1) + 1) + 1) + 1) + 1) + 1) + 1) + 1)) (zby p2 24)) ((((((((((tl + 1) + 1) + 1) + 1) + 1) + 1) + 1) + 1) + 1)) (zby p2 16)) (((((((((((tl + 1) + 1) + 1) + 1) + 1) + 1) + 1) + 1) + 1) + 1)) (zby p2 8)) ((((((((((((tl + 1) + 1) + 1) + 1) + 1) + 1) + 1) + 1) + 1) + 1) + 1)) (zby p2 0)) (((((((((((((tl + 1) + 1) + 1) + 1) + 1) + 1) + 1) + 1) + 1) + 1) + 1) + 1)) (zby p3 24)) ((((((((((((((tl + 1) + 1) + 1) + 1) + 1) + 1) + 1) + 1) + 1) + 1) + 1) + 1) + 1)) (zby p3 16)) (((((((((((((((tl + 1) + 1) + 1) + 1) + 1) + 1) + 1) + 1) + 1) + 1) + 1) + 1) + 1) + 1)) (zby p3 8)) ((((((((((((((((tl + 1) + 1) + 1) + 1) + 1) + 1) + 1) + 1) + 1) + 1) + 1) + 1) + 1) + 1) + 1)) (zby p3 0)) (((((((((((((((((tl + 1) + 1) + 1) + 1) + 1) + 1) + 1) + 1) + 1) + 1) + 1) + 1) + 1) + 1) + 1) + 1)) (zby p4 24)) ((((((((((((((((((tl + 1) + 1) + 1) + 1) + 1) + 1) + 1) + 1) + 1) + 1) + 1) + 1) + 1) + 1) + 1) + 1) + 1)) (zby p4 16))))] := hD
  refine lv_iinc (v := 18) (lv' := [(6, .int 18), (7, .int p4), (0, .ref h0), (1, .int p0), (2, .int p1), (3, .int p2), (4, .int p3), (5, .int p4)]) hx hb dX13_feed_106 hl (k := 1) rfl (by decide) (by decide) rfl (fun ls hl => ?_)
  refine lv_goto (tgt := 18) hx hb dX13_feed_109 (by decide) ?_
  refine lv_iload hx hb dX13_feed_18 (lv_at hl 0 rfl) ?_
  refine lv_bipush (v := 20) hx hb dX13_feed_20 (by decide) ?_
  refine lv_icmp_ge (tgt := 112) hx hb dX13_feed_22 (by decide) (fun c_68 => absurd c_68 (by decide)) (fun c_68 => ?_)
  refine lv_iload hx hb dX13_feed_25 (lv_at hl 0 rfl) ?_
  refine lv_iconst (v := 4) hx hb dX13_feed_27 (by decide) ?_
  refine lv_icmp_ge (tgt := 35) hx hb dX13_feed_28 (by decide) (fun c_69 => ?_) (fun c_69 => absurd (by decide) c_69)
  refine lv_iload hx hb dX13_feed_35 (lv_at hl 0 rfl) ?_
  refine lv_bipush (v := 8) hx hb dX13_feed_37 (by decide) ?_
  refine lv_icmp_ge (tgt := 46) hx hb dX13_feed_39 (by decide) (fun c_70 => ?_) (fun c_70 => absurd (by decide) c_70)
  refine lv_iload hx hb dX13_feed_46 (lv_at hl 0 rfl) ?_
  refine lv_bipush (v := 12) hx hb dX13_feed_48 (by decide) ?_
  refine lv_icmp_ge (tgt := 57) hx hb dX13_feed_50 (by decide) (fun c_71 => ?_) (fun c_71 => absurd (by decide) c_71)
  refine lv_iload hx hb dX13_feed_57 (lv_at hl 0 rfl) ?_
  refine lv_bipush (v := 16) hx hb dX13_feed_59 (by decide) ?_
  refine lv_icmp_ge (tgt := 69) hx hb dX13_feed_61 (by decide) (fun c_72 => ?_) (fun c_72 => absurd (by decide) c_72)
  refine lv_iload hx hb dX13_feed_69 (lv_at hl 7 rfl) ?_
  refine lv_istore (lv' := [(7, .int p4), (6, .int 18), (0, .ref h0), (1, .int p0), (2, .int p1), (3, .int p2), (4, .int p3), (5, .int p4)]) hx hb dX13_feed_71 hl (by decide) rfl (fun ls hl => ?_)
  refine lv_aload_n hx hb dX13_feed_73 rfl (lv_at hl 2 rfl) ?_
  refine va_get (D := (dC, dI)) (ci := 15) (v := .ref h1) (C := RX13) (T := TX13) (N := 196) hx hb hts iw_X13_feed_X13 hown hK hP 0 rfl rfl 0 (by decide) (hts (.fieldLink RX13 9 "LiquidTongueModel" "tape" "[B") (by decide +kernel)) (fun _ h9 => h9) (zs_ne (by decide) hm) dX13_feed_74 ?_
  refine lv_aload_n hx hb dX13_feed_77 rfl (lv_at hl 2 rfl) ?_
  refine va_get (D := (dC, dI)) (ci := 15) (v := .int (nI ((((((((((((((((((tl + 1) + 1) + 1) + 1) + 1) + 1) + 1) + 1) + 1) + 1) + 1) + 1) + 1) + 1) + 1) + 1) + 1) + 1))) (C := RX13) (T := TX13) (N := 196) hx hb hts iw_X13_feed_X13 hown hK hP 0 rfl rfl 3 (by decide) (hts (.fieldLink RX13 386 "LiquidTongueModel" "length" "I") (by decide +kernel)) (fun _ h9 => h9) (zs_eq (zs_lt hfl (by decide))) dX13_feed_78 ?_
  refine lv_iload hx hb dX13_feed_81 (lv_at hl 0 rfl) ?_
  refine lv_bipush (v := 24) hx hb dX13_feed_83 (by decide) ?_
  refine lv_bipush (v := 8) hx hb dX13_feed_85 (by decide) ?_
  refine lv_iload hx hb dX13_feed_87 (lv_at hl 1 rfl) ?_
  refine lv_iconst (v := 4) hx hb dX13_feed_89 (by decide) ?_
  refine lv_irem hx hb dX13_feed_90 (by decide) ?_
  refine lv_topi (fun z_128 ez_128 => ?_)
  have fz_128 : z_128 = 2 := ez_128.trans (by decide)
  clear ez_128
  subst fz_128
  refine lv_imul hx hb dX13_feed_91 ?_
  refine lv_topi (fun z_129 ez_129 => ?_)
  have fz_129 : z_129 = 16 := ez_129.trans (by decide)
  clear ez_129
  subst fz_129
  refine lv_isub hx hb dX13_feed_92 ?_
  refine lv_topi (fun z_130 ez_130 => ?_)
  have fz_130 : z_130 = 8 := ez_130.trans (by decide)
  clear ez_130
  subst fz_130
  refine lv_ishr hx hb dX13_feed_93 ?_
  refine lv_topi (fun z_131 ez_131 => ?_)
  obtain ⟨z_132, ez_132⟩ : ∃ y : Int32, y = (z_131).toInt8.toInt32 := ⟨_, rfl⟩
  refine lv_i2b (v := z_132) hx hb dX13_feed_94 ez_132.symm ?_
  refine va_bast hx hb hK hP hD hS 1 0 rfl rfl (vp_in_nI (by omega) (by decide)) dX13_feed_95 (fun H locs hP hD hS => ?_)
  rw [nI_clamp (n := ((((((((((((((((((tl + 1) + 1) + 1) + 1) + 1) + 1) + 1) + 1) + 1) + 1) + 1) + 1) + 1) + 1) + 1) + 1) + 1) + 1)) (by omega), show vp_nar .byte z_132 = zby p4 8 from by rw [ez_132, ez_131]; exact pk_vb _] at hP hD
  have hP : va_P (dC, dI) vwCl [(h0, .inr (15, (fs.set 3 (.int (nI ((((((((((((((((((tl + 1) + 1) + 1) + 1) + 1) + 1) + 1) + 1) + 1) + 1) + 1) + 1) + 1) + 1) + 1) + 1) + 1) + 1)))))), (h1, .inl (cB, 2000, .inl (upd (upd (upd (upd (upd (upd (upd (upd (upd (upd (upd (upd (upd (upd (upd (upd (upd (upd (upd f (tl) (zby p0 24)) ((tl + 1)) (zby p0 16)) (((tl + 1) + 1)) (zby p0 8)) ((((tl + 1) + 1) + 1)) (zby p0 0)) (((((tl + 1) + 1) + 1) + 1)) (zby p1 24)) ((((((tl + 1) + 1) + 1) + 1) + 1)) (zby p1 16)) (((((((tl + 1) + 1) + 1) + 1) + 1) + 1)) (zby p1 8)) ((((((((tl + 1) + 1) + 1) + 1) + 1) + 1) + 1)) (zby p1 0)) (((((((((tl + 1) + 1) + 1) + 1) + 1) + 1) + 1) + 1)) (zby p2 24)) ((((((((((tl + 1) + 1) + 1) + 1) + 1) + 1) + 1) + 1) + 1)) (zby p2 16)) (((((((((((tl + 1) + 1) + 1) + 1) + 1) + 1) + 1) + 1) + 1) + 1)) (zby p2 8)) ((((((((((((tl + 1) + 1) + 1) + 1) + 1) + 1) + 1) + 1) + 1) + 1) + 1)) (zby p2 0)) (((((((((((((tl + 1) + 1) + 1) + 1) + 1) + 1) + 1) + 1) + 1) + 1) + 1) + 1)) (zby p3 24)) ((((((((((((((tl + 1) + 1) + 1) + 1) + 1) + 1) + 1) + 1) + 1) + 1) + 1) + 1) + 1)) (zby p3 16)) (((((((((((((((tl + 1) + 1) + 1) + 1) + 1) + 1) + 1) + 1) + 1) + 1) + 1) + 1) + 1) + 1)) (zby p3 8)) ((((((((((((((((tl + 1) + 1) + 1) + 1) + 1) + 1) + 1) + 1) + 1) + 1) + 1) + 1) + 1) + 1) + 1)) (zby p3 0)) (((((((((((((((((tl + 1) + 1) + 1) + 1) + 1) + 1) + 1) + 1) + 1) + 1) + 1) + 1) + 1) + 1) + 1) + 1)) (zby p4 24)) ((((((((((((((((((tl + 1) + 1) + 1) + 1) + 1) + 1) + 1) + 1) + 1) + 1) + 1) + 1) + 1) + 1) + 1) + 1) + 1)) (zby p4 16)) (((((((((((((((((((tl + 1) + 1) + 1) + 1) + 1) + 1) + 1) + 1) + 1) + 1) + 1) + 1) + 1) + 1) + 1) + 1) + 1) + 1)) (zby p4 8))))] H := hP
  have hD : va_D A [(h0, .inr (15, (fs.set 3 (.int (nI ((((((((((((((((((tl + 1) + 1) + 1) + 1) + 1) + 1) + 1) + 1) + 1) + 1) + 1) + 1) + 1) + 1) + 1) + 1) + 1) + 1)))))), (h1, .inl (cB, 2000, .inl (upd (upd (upd (upd (upd (upd (upd (upd (upd (upd (upd (upd (upd (upd (upd (upd (upd (upd (upd f (tl) (zby p0 24)) ((tl + 1)) (zby p0 16)) (((tl + 1) + 1)) (zby p0 8)) ((((tl + 1) + 1) + 1)) (zby p0 0)) (((((tl + 1) + 1) + 1) + 1)) (zby p1 24)) ((((((tl + 1) + 1) + 1) + 1) + 1)) (zby p1 16)) (((((((tl + 1) + 1) + 1) + 1) + 1) + 1)) (zby p1 8)) ((((((((tl + 1) + 1) + 1) + 1) + 1) + 1) + 1)) (zby p1 0)) (((((((((tl + 1) + 1) + 1) + 1) + 1) + 1) + 1) + 1)) (zby p2 24)) ((((((((((tl + 1) + 1) + 1) + 1) + 1) + 1) + 1) + 1) + 1)) (zby p2 16)) (((((((((((tl + 1) + 1) + 1) + 1) + 1) + 1) + 1) + 1) + 1) + 1)) (zby p2 8)) ((((((((((((tl + 1) + 1) + 1) + 1) + 1) + 1) + 1) + 1) + 1) + 1) + 1)) (zby p2 0)) (((((((((((((tl + 1) + 1) + 1) + 1) + 1) + 1) + 1) + 1) + 1) + 1) + 1) + 1)) (zby p3 24)) ((((((((((((((tl + 1) + 1) + 1) + 1) + 1) + 1) + 1) + 1) + 1) + 1) + 1) + 1) + 1)) (zby p3 16)) (((((((((((((((tl + 1) + 1) + 1) + 1) + 1) + 1) + 1) + 1) + 1) + 1) + 1) + 1) + 1) + 1)) (zby p3 8)) ((((((((((((((((tl + 1) + 1) + 1) + 1) + 1) + 1) + 1) + 1) + 1) + 1) + 1) + 1) + 1) + 1) + 1)) (zby p3 0)) (((((((((((((((((tl + 1) + 1) + 1) + 1) + 1) + 1) + 1) + 1) + 1) + 1) + 1) + 1) + 1) + 1) + 1) + 1)) (zby p4 24)) ((((((((((((((((((tl + 1) + 1) + 1) + 1) + 1) + 1) + 1) + 1) + 1) + 1) + 1) + 1) + 1) + 1) + 1) + 1) + 1)) (zby p4 16)) (((((((((((((((((((tl + 1) + 1) + 1) + 1) + 1) + 1) + 1) + 1) + 1) + 1) + 1) + 1) + 1) + 1) + 1) + 1) + 1) + 1)) (zby p4 8))))] := hD
  refine lv_aload_n hx hb dX13_feed_96 rfl (lv_at hl 2 rfl) ?_
  refine lv_dup hx hb dX13_feed_97 rfl ?_
  refine va_get (D := (dC, dI)) (ci := 15) (v := .int (nI ((((((((((((((((((tl + 1) + 1) + 1) + 1) + 1) + 1) + 1) + 1) + 1) + 1) + 1) + 1) + 1) + 1) + 1) + 1) + 1) + 1))) (C := RX13) (T := TX13) (N := 196) hx hb hts iw_X13_feed_X13 hown hK hP 0 rfl rfl 3 (by decide) (hts (.fieldLink RX13 386 "LiquidTongueModel" "length" "I") (by decide +kernel)) (fun _ h9 => h9) (zs_eq (zs_lt hfl (by decide))) dX13_feed_98 ?_
  refine lv_iconst (v := 1) hx hb dX13_feed_101 (by decide) ?_
  refine lv_iadd hx hb dX13_feed_102 ?_
  refine lv_topi (fun z_133 ez_133 => ?_)
  have fz_133 : z_133 = nI (((((((((((((((((((tl + 1) + 1) + 1) + 1) + 1) + 1) + 1) + 1) + 1) + 1) + 1) + 1) + 1) + 1) + 1) + 1) + 1) + 1) + 1) := ez_133.trans (nI_1 _)
  clear ez_133
  subst fz_133
  refine va_put (D := (dC, dI)) (ci := 15) (v := .int (nI (((((((((((((((((((tl + 1) + 1) + 1) + 1) + 1) + 1) + 1) + 1) + 1) + 1) + 1) + 1) + 1) + 1) + 1) + 1) + 1) + 1) + 1))) (ty := .int) (C := RX13) (T := TX13) (N := 196) hx hb hts iw_X13_feed_X13 tyX13 tyX13_ok nmX13 hown hK hP hD hS 0 rfl rfl 3 (by decide) (hts (.fieldLink RX13 386 "LiquidTongueModel" "length" "I") (by decide +kernel)) (fun _ h9 => h9) rfl (by decide +kernel) rfl rfl (zs_lt (zs_len hfl) (by decide)) dX13_feed_103 (fun H locs hP hD hS => ?_)
  rw [List.set_set] at hP hD
  have hP : va_P (dC, dI) vwCl [(h0, .inr (15, (fs.set 3 (.int (nI (((((((((((((((((((tl + 1) + 1) + 1) + 1) + 1) + 1) + 1) + 1) + 1) + 1) + 1) + 1) + 1) + 1) + 1) + 1) + 1) + 1) + 1)))))), (h1, .inl (cB, 2000, .inl (upd (upd (upd (upd (upd (upd (upd (upd (upd (upd (upd (upd (upd (upd (upd (upd (upd (upd (upd f (tl) (zby p0 24)) ((tl + 1)) (zby p0 16)) (((tl + 1) + 1)) (zby p0 8)) ((((tl + 1) + 1) + 1)) (zby p0 0)) (((((tl + 1) + 1) + 1) + 1)) (zby p1 24)) ((((((tl + 1) + 1) + 1) + 1) + 1)) (zby p1 16)) (((((((tl + 1) + 1) + 1) + 1) + 1) + 1)) (zby p1 8)) ((((((((tl + 1) + 1) + 1) + 1) + 1) + 1) + 1)) (zby p1 0)) (((((((((tl + 1) + 1) + 1) + 1) + 1) + 1) + 1) + 1)) (zby p2 24)) ((((((((((tl + 1) + 1) + 1) + 1) + 1) + 1) + 1) + 1) + 1)) (zby p2 16)) (((((((((((tl + 1) + 1) + 1) + 1) + 1) + 1) + 1) + 1) + 1) + 1)) (zby p2 8)) ((((((((((((tl + 1) + 1) + 1) + 1) + 1) + 1) + 1) + 1) + 1) + 1) + 1)) (zby p2 0)) (((((((((((((tl + 1) + 1) + 1) + 1) + 1) + 1) + 1) + 1) + 1) + 1) + 1) + 1)) (zby p3 24)) ((((((((((((((tl + 1) + 1) + 1) + 1) + 1) + 1) + 1) + 1) + 1) + 1) + 1) + 1) + 1)) (zby p3 16)) (((((((((((((((tl + 1) + 1) + 1) + 1) + 1) + 1) + 1) + 1) + 1) + 1) + 1) + 1) + 1) + 1)) (zby p3 8)) ((((((((((((((((tl + 1) + 1) + 1) + 1) + 1) + 1) + 1) + 1) + 1) + 1) + 1) + 1) + 1) + 1) + 1)) (zby p3 0)) (((((((((((((((((tl + 1) + 1) + 1) + 1) + 1) + 1) + 1) + 1) + 1) + 1) + 1) + 1) + 1) + 1) + 1) + 1)) (zby p4 24)) ((((((((((((((((((tl + 1) + 1) + 1) + 1) + 1) + 1) + 1) + 1) + 1) + 1) + 1) + 1) + 1) + 1) + 1) + 1) + 1)) (zby p4 16)) (((((((((((((((((((tl + 1) + 1) + 1) + 1) + 1) + 1) + 1) + 1) + 1) + 1) + 1) + 1) + 1) + 1) + 1) + 1) + 1) + 1)) (zby p4 8))))] H := hP
  have hD : va_D A [(h0, .inr (15, (fs.set 3 (.int (nI (((((((((((((((((((tl + 1) + 1) + 1) + 1) + 1) + 1) + 1) + 1) + 1) + 1) + 1) + 1) + 1) + 1) + 1) + 1) + 1) + 1) + 1)))))), (h1, .inl (cB, 2000, .inl (upd (upd (upd (upd (upd (upd (upd (upd (upd (upd (upd (upd (upd (upd (upd (upd (upd (upd (upd f (tl) (zby p0 24)) ((tl + 1)) (zby p0 16)) (((tl + 1) + 1)) (zby p0 8)) ((((tl + 1) + 1) + 1)) (zby p0 0)) (((((tl + 1) + 1) + 1) + 1)) (zby p1 24)) ((((((tl + 1) + 1) + 1) + 1) + 1)) (zby p1 16)) (((((((tl + 1) + 1) + 1) + 1) + 1) + 1)) (zby p1 8)) ((((((((tl + 1) + 1) + 1) + 1) + 1) + 1) + 1)) (zby p1 0)) (((((((((tl + 1) + 1) + 1) + 1) + 1) + 1) + 1) + 1)) (zby p2 24)) ((((((((((tl + 1) + 1) + 1) + 1) + 1) + 1) + 1) + 1) + 1)) (zby p2 16)) (((((((((((tl + 1) + 1) + 1) + 1) + 1) + 1) + 1) + 1) + 1) + 1)) (zby p2 8)) ((((((((((((tl + 1) + 1) + 1) + 1) + 1) + 1) + 1) + 1) + 1) + 1) + 1)) (zby p2 0)) (((((((((((((tl + 1) + 1) + 1) + 1) + 1) + 1) + 1) + 1) + 1) + 1) + 1) + 1)) (zby p3 24)) ((((((((((((((tl + 1) + 1) + 1) + 1) + 1) + 1) + 1) + 1) + 1) + 1) + 1) + 1) + 1)) (zby p3 16)) (((((((((((((((tl + 1) + 1) + 1) + 1) + 1) + 1) + 1) + 1) + 1) + 1) + 1) + 1) + 1) + 1)) (zby p3 8)) ((((((((((((((((tl + 1) + 1) + 1) + 1) + 1) + 1) + 1) + 1) + 1) + 1) + 1) + 1) + 1) + 1) + 1)) (zby p3 0)) (((((((((((((((((tl + 1) + 1) + 1) + 1) + 1) + 1) + 1) + 1) + 1) + 1) + 1) + 1) + 1) + 1) + 1) + 1)) (zby p4 24)) ((((((((((((((((((tl + 1) + 1) + 1) + 1) + 1) + 1) + 1) + 1) + 1) + 1) + 1) + 1) + 1) + 1) + 1) + 1) + 1)) (zby p4 16)) (((((((((((((((((((tl + 1) + 1) + 1) + 1) + 1) + 1) + 1) + 1) + 1) + 1) + 1) + 1) + 1) + 1) + 1) + 1) + 1) + 1)) (zby p4 8))))] := hD
  refine lv_iinc (v := 19) (lv' := [(6, .int 19), (7, .int p4), (0, .ref h0), (1, .int p0), (2, .int p1), (3, .int p2), (4, .int p3), (5, .int p4)]) hx hb dX13_feed_106 hl (k := 1) rfl (by decide) (by decide) rfl (fun ls hl => ?_)
  refine lv_goto (tgt := 18) hx hb dX13_feed_109 (by decide) ?_
  refine lv_iload hx hb dX13_feed_18 (lv_at hl 0 rfl) ?_
  refine lv_bipush (v := 20) hx hb dX13_feed_20 (by decide) ?_
  refine lv_icmp_ge (tgt := 112) hx hb dX13_feed_22 (by decide) (fun c_73 => absurd c_73 (by decide)) (fun c_73 => ?_)
  refine lv_iload hx hb dX13_feed_25 (lv_at hl 0 rfl) ?_
  refine lv_iconst (v := 4) hx hb dX13_feed_27 (by decide) ?_
  refine lv_icmp_ge (tgt := 35) hx hb dX13_feed_28 (by decide) (fun c_74 => ?_) (fun c_74 => absurd (by decide) c_74)
  refine lv_iload hx hb dX13_feed_35 (lv_at hl 0 rfl) ?_
  refine lv_bipush (v := 8) hx hb dX13_feed_37 (by decide) ?_
  refine lv_icmp_ge (tgt := 46) hx hb dX13_feed_39 (by decide) (fun c_75 => ?_) (fun c_75 => absurd (by decide) c_75)
  refine lv_iload hx hb dX13_feed_46 (lv_at hl 0 rfl) ?_
  refine lv_bipush (v := 12) hx hb dX13_feed_48 (by decide) ?_
  refine lv_icmp_ge (tgt := 57) hx hb dX13_feed_50 (by decide) (fun c_76 => ?_) (fun c_76 => absurd (by decide) c_76)
  refine lv_iload hx hb dX13_feed_57 (lv_at hl 0 rfl) ?_
  refine lv_bipush (v := 16) hx hb dX13_feed_59 (by decide) ?_
  refine lv_icmp_ge (tgt := 69) hx hb dX13_feed_61 (by decide) (fun c_77 => ?_) (fun c_77 => absurd (by decide) c_77)
  refine lv_iload hx hb dX13_feed_69 (lv_at hl 7 rfl) ?_
  refine lv_istore (lv' := [(7, .int p4), (6, .int 19), (0, .ref h0), (1, .int p0), (2, .int p1), (3, .int p2), (4, .int p3), (5, .int p4)]) hx hb dX13_feed_71 hl (by decide) rfl (fun ls hl => ?_)
  refine lv_aload_n hx hb dX13_feed_73 rfl (lv_at hl 2 rfl) ?_
  refine va_get (D := (dC, dI)) (ci := 15) (v := .ref h1) (C := RX13) (T := TX13) (N := 196) hx hb hts iw_X13_feed_X13 hown hK hP 0 rfl rfl 0 (by decide) (hts (.fieldLink RX13 9 "LiquidTongueModel" "tape" "[B") (by decide +kernel)) (fun _ h9 => h9) (zs_ne (by decide) hm) dX13_feed_74 ?_
  refine lv_aload_n hx hb dX13_feed_77 rfl (lv_at hl 2 rfl) ?_
  refine va_get (D := (dC, dI)) (ci := 15) (v := .int (nI (((((((((((((((((((tl + 1) + 1) + 1) + 1) + 1) + 1) + 1) + 1) + 1) + 1) + 1) + 1) + 1) + 1) + 1) + 1) + 1) + 1) + 1))) (C := RX13) (T := TX13) (N := 196) hx hb hts iw_X13_feed_X13 hown hK hP 0 rfl rfl 3 (by decide) (hts (.fieldLink RX13 386 "LiquidTongueModel" "length" "I") (by decide +kernel)) (fun _ h9 => h9) (zs_eq (zs_lt hfl (by decide))) dX13_feed_78 ?_
  refine lv_iload hx hb dX13_feed_81 (lv_at hl 0 rfl) ?_
  refine lv_bipush (v := 24) hx hb dX13_feed_83 (by decide) ?_
  refine lv_bipush (v := 8) hx hb dX13_feed_85 (by decide) ?_
  refine lv_iload hx hb dX13_feed_87 (lv_at hl 1 rfl) ?_
  refine lv_iconst (v := 4) hx hb dX13_feed_89 (by decide) ?_
  refine lv_irem hx hb dX13_feed_90 (by decide) ?_
  refine lv_topi (fun z_135 ez_135 => ?_)
  have fz_135 : z_135 = 3 := ez_135.trans (by decide)
  clear ez_135
  subst fz_135
  refine lv_imul hx hb dX13_feed_91 ?_
  refine lv_topi (fun z_136 ez_136 => ?_)
  have fz_136 : z_136 = 24 := ez_136.trans (by decide)
  clear ez_136
  subst fz_136
  refine lv_isub hx hb dX13_feed_92 ?_
  refine lv_topi (fun z_137 ez_137 => ?_)
  have fz_137 : z_137 = 0 := ez_137.trans (by decide)
  clear ez_137
  subst fz_137
  refine lv_ishr hx hb dX13_feed_93 ?_
  refine lv_topi (fun z_138 ez_138 => ?_)
  obtain ⟨z_139, ez_139⟩ : ∃ y : Int32, y = (z_138).toInt8.toInt32 := ⟨_, rfl⟩
  refine lv_i2b (v := z_139) hx hb dX13_feed_94 ez_139.symm ?_
  refine va_bast hx hb hK hP hD hS 1 0 rfl rfl (vp_in_nI (by omega) (by decide)) dX13_feed_95 (fun H locs hP hD hS => ?_)
  rw [nI_clamp (n := (((((((((((((((((((tl + 1) + 1) + 1) + 1) + 1) + 1) + 1) + 1) + 1) + 1) + 1) + 1) + 1) + 1) + 1) + 1) + 1) + 1) + 1)) (by omega), show vp_nar .byte z_139 = zby p4 0 from by rw [ez_139, ez_138]; exact pk_vb _] at hP hD
  have hP : va_P (dC, dI) vwCl [(h0, .inr (15, (fs.set 3 (.int (nI (((((((((((((((((((tl + 1) + 1) + 1) + 1) + 1) + 1) + 1) + 1) + 1) + 1) + 1) + 1) + 1) + 1) + 1) + 1) + 1) + 1) + 1)))))), (h1, .inl (cB, 2000, .inl (upd (upd (upd (upd (upd (upd (upd (upd (upd (upd (upd (upd (upd (upd (upd (upd (upd (upd (upd (upd f (tl) (zby p0 24)) ((tl + 1)) (zby p0 16)) (((tl + 1) + 1)) (zby p0 8)) ((((tl + 1) + 1) + 1)) (zby p0 0)) (((((tl + 1) + 1) + 1) + 1)) (zby p1 24)) ((((((tl + 1) + 1) + 1) + 1) + 1)) (zby p1 16)) (((((((tl + 1) + 1) + 1) + 1) + 1) + 1)) (zby p1 8)) ((((((((tl + 1) + 1) + 1) + 1) + 1) + 1) + 1)) (zby p1 0)) (((((((((tl + 1) + 1) + 1) + 1) + 1) + 1) + 1) + 1)) (zby p2 24)) ((((((((((tl + 1) + 1) + 1) + 1) + 1) + 1) + 1) + 1) + 1)) (zby p2 16)) (((((((((((tl + 1) + 1) + 1) + 1) + 1) + 1) + 1) + 1) + 1) + 1)) (zby p2 8)) ((((((((((((tl + 1) + 1) + 1) + 1) + 1) + 1) + 1) + 1) + 1) + 1) + 1)) (zby p2 0)) (((((((((((((tl + 1) + 1) + 1) + 1) + 1) + 1) + 1) + 1) + 1) + 1) + 1) + 1)) (zby p3 24)) ((((((((((((((tl + 1) + 1) + 1) + 1) + 1) + 1) + 1) + 1) + 1) + 1) + 1) + 1) + 1)) (zby p3 16)) (((((((((((((((tl + 1) + 1) + 1) + 1) + 1) + 1) + 1) + 1) + 1) + 1) + 1) + 1) + 1) + 1)) (zby p3 8)) ((((((((((((((((tl + 1) + 1) + 1) + 1) + 1) + 1) + 1) + 1) + 1) + 1) + 1) + 1) + 1) + 1) + 1)) (zby p3 0)) (((((((((((((((((tl + 1) + 1) + 1) + 1) + 1) + 1) + 1) + 1) + 1) + 1) + 1) + 1) + 1) + 1) + 1) + 1)) (zby p4 24)) ((((((((((((((((((tl + 1) + 1) + 1) + 1) + 1) + 1) + 1) + 1) + 1) + 1) + 1) + 1) + 1) + 1) + 1) + 1) + 1)) (zby p4 16)) (((((((((((((((((((tl + 1) + 1) + 1) + 1) + 1) + 1) + 1) + 1) + 1) + 1) + 1) + 1) + 1) + 1) + 1) + 1) + 1) + 1)) (zby p4 8)) ((((((((((((((((((((tl + 1) + 1) + 1) + 1) + 1) + 1) + 1) + 1) + 1) + 1) + 1) + 1) + 1) + 1) + 1) + 1) + 1) + 1) + 1)) (zby p4 0))))] H := hP
  have hD : va_D A [(h0, .inr (15, (fs.set 3 (.int (nI (((((((((((((((((((tl + 1) + 1) + 1) + 1) + 1) + 1) + 1) + 1) + 1) + 1) + 1) + 1) + 1) + 1) + 1) + 1) + 1) + 1) + 1)))))), (h1, .inl (cB, 2000, .inl (upd (upd (upd (upd (upd (upd (upd (upd (upd (upd (upd (upd (upd (upd (upd (upd (upd (upd (upd (upd f (tl) (zby p0 24)) ((tl + 1)) (zby p0 16)) (((tl + 1) + 1)) (zby p0 8)) ((((tl + 1) + 1) + 1)) (zby p0 0)) (((((tl + 1) + 1) + 1) + 1)) (zby p1 24)) ((((((tl + 1) + 1) + 1) + 1) + 1)) (zby p1 16)) (((((((tl + 1) + 1) + 1) + 1) + 1) + 1)) (zby p1 8)) ((((((((tl + 1) + 1) + 1) + 1) + 1) + 1) + 1)) (zby p1 0)) (((((((((tl + 1) + 1) + 1) + 1) + 1) + 1) + 1) + 1)) (zby p2 24)) ((((((((((tl + 1) + 1) + 1) + 1) + 1) + 1) + 1) + 1) + 1)) (zby p2 16)) (((((((((((tl + 1) + 1) + 1) + 1) + 1) + 1) + 1) + 1) + 1) + 1)) (zby p2 8)) ((((((((((((tl + 1) + 1) + 1) + 1) + 1) + 1) + 1) + 1) + 1) + 1) + 1)) (zby p2 0)) (((((((((((((tl + 1) + 1) + 1) + 1) + 1) + 1) + 1) + 1) + 1) + 1) + 1) + 1)) (zby p3 24)) ((((((((((((((tl + 1) + 1) + 1) + 1) + 1) + 1) + 1) + 1) + 1) + 1) + 1) + 1) + 1)) (zby p3 16)) (((((((((((((((tl + 1) + 1) + 1) + 1) + 1) + 1) + 1) + 1) + 1) + 1) + 1) + 1) + 1) + 1)) (zby p3 8)) ((((((((((((((((tl + 1) + 1) + 1) + 1) + 1) + 1) + 1) + 1) + 1) + 1) + 1) + 1) + 1) + 1) + 1)) (zby p3 0)) (((((((((((((((((tl + 1) + 1) + 1) + 1) + 1) + 1) + 1) + 1) + 1) + 1) + 1) + 1) + 1) + 1) + 1) + 1)) (zby p4 24)) ((((((((((((((((((tl + 1) + 1) + 1) + 1) + 1) + 1) + 1) + 1) + 1) + 1) + 1) + 1) + 1) + 1) + 1) + 1) + 1)) (zby p4 16)) (((((((((((((((((((tl + 1) + 1) + 1) + 1) + 1) + 1) + 1) + 1) + 1) + 1) + 1) + 1) + 1) + 1) + 1) + 1) + 1) + 1)) (zby p4 8)) ((((((((((((((((((((tl + 1) + 1) + 1) + 1) + 1) + 1) + 1) + 1) + 1) + 1) + 1) + 1) + 1) + 1) + 1) + 1) + 1) + 1) + 1)) (zby p4 0))))] := hD
  refine lv_aload_n hx hb dX13_feed_96 rfl (lv_at hl 2 rfl) ?_
  refine lv_dup hx hb dX13_feed_97 rfl ?_
  refine va_get (D := (dC, dI)) (ci := 15) (v := .int (nI (((((((((((((((((((tl + 1) + 1) + 1) + 1) + 1) + 1) + 1) + 1) + 1) + 1) + 1) + 1) + 1) + 1) + 1) + 1) + 1) + 1) + 1))) (C := RX13) (T := TX13) (N := 196) hx hb hts iw_X13_feed_X13 hown hK hP 0 rfl rfl 3 (by decide) (hts (.fieldLink RX13 386 "LiquidTongueModel" "length" "I") (by decide +kernel)) (fun _ h9 => h9) (zs_eq (zs_lt hfl (by decide))) dX13_feed_98 ?_
  refine lv_iconst (v := 1) hx hb dX13_feed_101 (by decide) ?_
  refine lv_iadd hx hb dX13_feed_102 ?_
  refine lv_topi (fun z_140 ez_140 => ?_)
  have fz_140 : z_140 = nI ((((((((((((((((((((tl + 1) + 1) + 1) + 1) + 1) + 1) + 1) + 1) + 1) + 1) + 1) + 1) + 1) + 1) + 1) + 1) + 1) + 1) + 1) + 1) := ez_140.trans (nI_1 _)
  clear ez_140
  subst fz_140
  refine va_put (D := (dC, dI)) (ci := 15) (v := .int (nI ((((((((((((((((((((tl + 1) + 1) + 1) + 1) + 1) + 1) + 1) + 1) + 1) + 1) + 1) + 1) + 1) + 1) + 1) + 1) + 1) + 1) + 1) + 1))) (ty := .int) (C := RX13) (T := TX13) (N := 196) hx hb hts iw_X13_feed_X13 tyX13 tyX13_ok nmX13 hown hK hP hD hS 0 rfl rfl 3 (by decide) (hts (.fieldLink RX13 386 "LiquidTongueModel" "length" "I") (by decide +kernel)) (fun _ h9 => h9) rfl (by decide +kernel) rfl rfl (zs_lt (zs_len hfl) (by decide)) dX13_feed_103 (fun H locs hP hD hS => ?_)
  rw [List.set_set] at hP hD
  have hP : va_P (dC, dI) vwCl [(h0, .inr (15, (fs.set 3 (.int (nI ((((((((((((((((((((tl + 1) + 1) + 1) + 1) + 1) + 1) + 1) + 1) + 1) + 1) + 1) + 1) + 1) + 1) + 1) + 1) + 1) + 1) + 1) + 1)))))), (h1, .inl (cB, 2000, .inl (upd (upd (upd (upd (upd (upd (upd (upd (upd (upd (upd (upd (upd (upd (upd (upd (upd (upd (upd (upd f (tl) (zby p0 24)) ((tl + 1)) (zby p0 16)) (((tl + 1) + 1)) (zby p0 8)) ((((tl + 1) + 1) + 1)) (zby p0 0)) (((((tl + 1) + 1) + 1) + 1)) (zby p1 24)) ((((((tl + 1) + 1) + 1) + 1) + 1)) (zby p1 16)) (((((((tl + 1) + 1) + 1) + 1) + 1) + 1)) (zby p1 8)) ((((((((tl + 1) + 1) + 1) + 1) + 1) + 1) + 1)) (zby p1 0)) (((((((((tl + 1) + 1) + 1) + 1) + 1) + 1) + 1) + 1)) (zby p2 24)) ((((((((((tl + 1) + 1) + 1) + 1) + 1) + 1) + 1) + 1) + 1)) (zby p2 16)) (((((((((((tl + 1) + 1) + 1) + 1) + 1) + 1) + 1) + 1) + 1) + 1)) (zby p2 8)) ((((((((((((tl + 1) + 1) + 1) + 1) + 1) + 1) + 1) + 1) + 1) + 1) + 1)) (zby p2 0)) (((((((((((((tl + 1) + 1) + 1) + 1) + 1) + 1) + 1) + 1) + 1) + 1) + 1) + 1)) (zby p3 24)) ((((((((((((((tl + 1) + 1) + 1) + 1) + 1) + 1) + 1) + 1) + 1) + 1) + 1) + 1) + 1)) (zby p3 16)) (((((((((((((((tl + 1) + 1) + 1) + 1) + 1) + 1) + 1) + 1) + 1) + 1) + 1) + 1) + 1) + 1)) (zby p3 8)) ((((((((((((((((tl + 1) + 1) + 1) + 1) + 1) + 1) + 1) + 1) + 1) + 1) + 1) + 1) + 1) + 1) + 1)) (zby p3 0)) (((((((((((((((((tl + 1) + 1) + 1) + 1) + 1) + 1) + 1) + 1) + 1) + 1) + 1) + 1) + 1) + 1) + 1) + 1)) (zby p4 24)) ((((((((((((((((((tl + 1) + 1) + 1) + 1) + 1) + 1) + 1) + 1) + 1) + 1) + 1) + 1) + 1) + 1) + 1) + 1) + 1)) (zby p4 16)) (((((((((((((((((((tl + 1) + 1) + 1) + 1) + 1) + 1) + 1) + 1) + 1) + 1) + 1) + 1) + 1) + 1) + 1) + 1) + 1) + 1)) (zby p4 8)) ((((((((((((((((((((tl + 1) + 1) + 1) + 1) + 1) + 1) + 1) + 1) + 1) + 1) + 1) + 1) + 1) + 1) + 1) + 1) + 1) + 1) + 1)) (zby p4 0))))] H := hP
  have hD : va_D A [(h0, .inr (15, (fs.set 3 (.int (nI ((((((((((((((((((((tl + 1) + 1) + 1) + 1) + 1) + 1) + 1) + 1) + 1) + 1) + 1) + 1) + 1) + 1) + 1) + 1) + 1) + 1) + 1) + 1)))))), (h1, .inl (cB, 2000, .inl (upd (upd (upd (upd (upd (upd (upd (upd (upd (upd (upd (upd (upd (upd (upd (upd (upd (upd (upd (upd f (tl) (zby p0 24)) ((tl + 1)) (zby p0 16)) (((tl + 1) + 1)) (zby p0 8)) ((((tl + 1) + 1) + 1)) (zby p0 0)) (((((tl + 1) + 1) + 1) + 1)) (zby p1 24)) ((((((tl + 1) + 1) + 1) + 1) + 1)) (zby p1 16)) (((((((tl + 1) + 1) + 1) + 1) + 1) + 1)) (zby p1 8)) ((((((((tl + 1) + 1) + 1) + 1) + 1) + 1) + 1)) (zby p1 0)) (((((((((tl + 1) + 1) + 1) + 1) + 1) + 1) + 1) + 1)) (zby p2 24)) ((((((((((tl + 1) + 1) + 1) + 1) + 1) + 1) + 1) + 1) + 1)) (zby p2 16)) (((((((((((tl + 1) + 1) + 1) + 1) + 1) + 1) + 1) + 1) + 1) + 1)) (zby p2 8)) ((((((((((((tl + 1) + 1) + 1) + 1) + 1) + 1) + 1) + 1) + 1) + 1) + 1)) (zby p2 0)) (((((((((((((tl + 1) + 1) + 1) + 1) + 1) + 1) + 1) + 1) + 1) + 1) + 1) + 1)) (zby p3 24)) ((((((((((((((tl + 1) + 1) + 1) + 1) + 1) + 1) + 1) + 1) + 1) + 1) + 1) + 1) + 1)) (zby p3 16)) (((((((((((((((tl + 1) + 1) + 1) + 1) + 1) + 1) + 1) + 1) + 1) + 1) + 1) + 1) + 1) + 1)) (zby p3 8)) ((((((((((((((((tl + 1) + 1) + 1) + 1) + 1) + 1) + 1) + 1) + 1) + 1) + 1) + 1) + 1) + 1) + 1)) (zby p3 0)) (((((((((((((((((tl + 1) + 1) + 1) + 1) + 1) + 1) + 1) + 1) + 1) + 1) + 1) + 1) + 1) + 1) + 1) + 1)) (zby p4 24)) ((((((((((((((((((tl + 1) + 1) + 1) + 1) + 1) + 1) + 1) + 1) + 1) + 1) + 1) + 1) + 1) + 1) + 1) + 1) + 1)) (zby p4 16)) (((((((((((((((((((tl + 1) + 1) + 1) + 1) + 1) + 1) + 1) + 1) + 1) + 1) + 1) + 1) + 1) + 1) + 1) + 1) + 1) + 1)) (zby p4 8)) ((((((((((((((((((((tl + 1) + 1) + 1) + 1) + 1) + 1) + 1) + 1) + 1) + 1) + 1) + 1) + 1) + 1) + 1) + 1) + 1) + 1) + 1)) (zby p4 0))))] := hD
  refine lv_iinc (v := 20) (lv' := [(6, .int 20), (7, .int p4), (0, .ref h0), (1, .int p0), (2, .int p1), (3, .int p2), (4, .int p3), (5, .int p4)]) hx hb dX13_feed_106 hl (k := 1) rfl (by decide) (by decide) rfl (fun ls hl => ?_)
  refine lv_goto (tgt := 18) hx hb dX13_feed_109 (by decide) ?_
  refine lv_iload hx hb dX13_feed_18 (lv_at hl 0 rfl) ?_
  refine lv_bipush (v := 20) hx hb dX13_feed_20 (by decide) ?_
  refine lv_icmp_ge (tgt := 112) hx hb dX13_feed_22 (by decide) (fun c_78 => ?_) (fun c_78 => absurd (by decide) c_78)
  refine lv_iconst (v := 1) hx hb dX13_feed_112 (by decide) ?_
  have hP9 := hP.sub (ws' := [(h0, .inr (15, (fs.set 3 (.int (nI ((((((((((((((((((((tl + 1) + 1) + 1) + 1) + 1) + 1) + 1) + 1) + 1) + 1) + 1) + 1) + 1) + 1) + 1) + 1) + 1) + 1) + 1) + 1)))))), (h1, .inl (cB, 2000, .inl (upd (upd (upd (upd (upd (upd (upd (upd (upd (upd (upd (upd (upd (upd (upd (upd (upd (upd (upd (upd f (tl) (zby p0 24)) ((tl + 1)) (zby p0 16)) (((tl + 1) + 1)) (zby p0 8)) ((((tl + 1) + 1) + 1)) (zby p0 0)) (((((tl + 1) + 1) + 1) + 1)) (zby p1 24)) ((((((tl + 1) + 1) + 1) + 1) + 1)) (zby p1 16)) (((((((tl + 1) + 1) + 1) + 1) + 1) + 1)) (zby p1 8)) ((((((((tl + 1) + 1) + 1) + 1) + 1) + 1) + 1)) (zby p1 0)) (((((((((tl + 1) + 1) + 1) + 1) + 1) + 1) + 1) + 1)) (zby p2 24)) ((((((((((tl + 1) + 1) + 1) + 1) + 1) + 1) + 1) + 1) + 1)) (zby p2 16)) (((((((((((tl + 1) + 1) + 1) + 1) + 1) + 1) + 1) + 1) + 1) + 1)) (zby p2 8)) ((((((((((((tl + 1) + 1) + 1) + 1) + 1) + 1) + 1) + 1) + 1) + 1) + 1)) (zby p2 0)) (((((((((((((tl + 1) + 1) + 1) + 1) + 1) + 1) + 1) + 1) + 1) + 1) + 1) + 1)) (zby p3 24)) ((((((((((((((tl + 1) + 1) + 1) + 1) + 1) + 1) + 1) + 1) + 1) + 1) + 1) + 1) + 1)) (zby p3 16)) (((((((((((((((tl + 1) + 1) + 1) + 1) + 1) + 1) + 1) + 1) + 1) + 1) + 1) + 1) + 1) + 1)) (zby p3 8)) ((((((((((((((((tl + 1) + 1) + 1) + 1) + 1) + 1) + 1) + 1) + 1) + 1) + 1) + 1) + 1) + 1) + 1)) (zby p3 0)) (((((((((((((((((tl + 1) + 1) + 1) + 1) + 1) + 1) + 1) + 1) + 1) + 1) + 1) + 1) + 1) + 1) + 1) + 1)) (zby p4 24)) ((((((((((((((((((tl + 1) + 1) + 1) + 1) + 1) + 1) + 1) + 1) + 1) + 1) + 1) + 1) + 1) + 1) + 1) + 1) + 1)) (zby p4 16)) (((((((((((((((((((tl + 1) + 1) + 1) + 1) + 1) + 1) + 1) + 1) + 1) + 1) + 1) + 1) + 1) + 1) + 1) + 1) + 1) + 1)) (zby p4 8)) ((((((((((((((((((((tl + 1) + 1) + 1) + 1) + 1) + 1) + 1) + 1) + 1) + 1) + 1) + 1) + 1) + 1) + 1) + 1) + 1) + 1) + 1)) (zby p4 0))))]) [0, 1] rfl
  have hD9 := hD.sub (ws' := [(h0, .inr (15, (fs.set 3 (.int (nI ((((((((((((((((((((tl + 1) + 1) + 1) + 1) + 1) + 1) + 1) + 1) + 1) + 1) + 1) + 1) + 1) + 1) + 1) + 1) + 1) + 1) + 1) + 1)))))), (h1, .inl (cB, 2000, .inl (upd (upd (upd (upd (upd (upd (upd (upd (upd (upd (upd (upd (upd (upd (upd (upd (upd (upd (upd (upd f (tl) (zby p0 24)) ((tl + 1)) (zby p0 16)) (((tl + 1) + 1)) (zby p0 8)) ((((tl + 1) + 1) + 1)) (zby p0 0)) (((((tl + 1) + 1) + 1) + 1)) (zby p1 24)) ((((((tl + 1) + 1) + 1) + 1) + 1)) (zby p1 16)) (((((((tl + 1) + 1) + 1) + 1) + 1) + 1)) (zby p1 8)) ((((((((tl + 1) + 1) + 1) + 1) + 1) + 1) + 1)) (zby p1 0)) (((((((((tl + 1) + 1) + 1) + 1) + 1) + 1) + 1) + 1)) (zby p2 24)) ((((((((((tl + 1) + 1) + 1) + 1) + 1) + 1) + 1) + 1) + 1)) (zby p2 16)) (((((((((((tl + 1) + 1) + 1) + 1) + 1) + 1) + 1) + 1) + 1) + 1)) (zby p2 8)) ((((((((((((tl + 1) + 1) + 1) + 1) + 1) + 1) + 1) + 1) + 1) + 1) + 1)) (zby p2 0)) (((((((((((((tl + 1) + 1) + 1) + 1) + 1) + 1) + 1) + 1) + 1) + 1) + 1) + 1)) (zby p3 24)) ((((((((((((((tl + 1) + 1) + 1) + 1) + 1) + 1) + 1) + 1) + 1) + 1) + 1) + 1) + 1)) (zby p3 16)) (((((((((((((((tl + 1) + 1) + 1) + 1) + 1) + 1) + 1) + 1) + 1) + 1) + 1) + 1) + 1) + 1)) (zby p3 8)) ((((((((((((((((tl + 1) + 1) + 1) + 1) + 1) + 1) + 1) + 1) + 1) + 1) + 1) + 1) + 1) + 1) + 1)) (zby p3 0)) (((((((((((((((((tl + 1) + 1) + 1) + 1) + 1) + 1) + 1) + 1) + 1) + 1) + 1) + 1) + 1) + 1) + 1) + 1)) (zby p4 24)) ((((((((((((((((((tl + 1) + 1) + 1) + 1) + 1) + 1) + 1) + 1) + 1) + 1) + 1) + 1) + 1) + 1) + 1) + 1) + 1)) (zby p4 16)) (((((((((((((((((((tl + 1) + 1) + 1) + 1) + 1) + 1) + 1) + 1) + 1) + 1) + 1) + 1) + 1) + 1) + 1) + 1) + 1) + 1)) (zby p4 8)) ((((((((((((((((((((tl + 1) + 1) + 1) + 1) + 1) + 1) + 1) + 1) + 1) + 1) + 1) + 1) + 1) + 1) + 1) + 1) + 1) + 1) + 1)) (zby p4 0))))]) [0, 1] (by decide) rfl
  have hK9 := hK.sub (tys' := [(cB, .byte)]) [0] rfl
  exact W.zret (v := 1) hx hb hr (by first | rfl | decide) (fun t ht hW => ⟨⟨1, ((fs.set 3 (.int (nI ((((((((((((((((((((tl + 1) + 1) + 1) + 1) + 1) + 1) + 1) + 1) + 1) + 1) + 1) + 1) + 1) + 1) + 1) + 1) + 1) + 1) + 1) + 1)))), (upd (upd (upd (upd (upd (upd (upd (upd (upd (upd (upd (upd (upd (upd (upd (upd (upd (upd (upd (upd f (tl) (zby p0 24)) ((tl + 1)) (zby p0 16)) (((tl + 1) + 1)) (zby p0 8)) ((((tl + 1) + 1) + 1)) (zby p0 0)) (((((tl + 1) + 1) + 1) + 1)) (zby p1 24)) ((((((tl + 1) + 1) + 1) + 1) + 1)) (zby p1 16)) (((((((tl + 1) + 1) + 1) + 1) + 1) + 1)) (zby p1 8)) ((((((((tl + 1) + 1) + 1) + 1) + 1) + 1) + 1)) (zby p1 0)) (((((((((tl + 1) + 1) + 1) + 1) + 1) + 1) + 1) + 1)) (zby p2 24)) ((((((((((tl + 1) + 1) + 1) + 1) + 1) + 1) + 1) + 1) + 1)) (zby p2 16)) (((((((((((tl + 1) + 1) + 1) + 1) + 1) + 1) + 1) + 1) + 1) + 1)) (zby p2 8)) ((((((((((((tl + 1) + 1) + 1) + 1) + 1) + 1) + 1) + 1) + 1) + 1) + 1)) (zby p2 0)) (((((((((((((tl + 1) + 1) + 1) + 1) + 1) + 1) + 1) + 1) + 1) + 1) + 1) + 1)) (zby p3 24)) ((((((((((((((tl + 1) + 1) + 1) + 1) + 1) + 1) + 1) + 1) + 1) + 1) + 1) + 1) + 1)) (zby p3 16)) (((((((((((((((tl + 1) + 1) + 1) + 1) + 1) + 1) + 1) + 1) + 1) + 1) + 1) + 1) + 1) + 1)) (zby p3 8)) ((((((((((((((((tl + 1) + 1) + 1) + 1) + 1) + 1) + 1) + 1) + 1) + 1) + 1) + 1) + 1) + 1) + 1)) (zby p3 0)) (((((((((((((((((tl + 1) + 1) + 1) + 1) + 1) + 1) + 1) + 1) + 1) + 1) + 1) + 1) + 1) + 1) + 1) + 1)) (zby p4 24)) ((((((((((((((((((tl + 1) + 1) + 1) + 1) + 1) + 1) + 1) + 1) + 1) + 1) + 1) + 1) + 1) + 1) + 1) + 1) + 1)) (zby p4 16)) (((((((((((((((((((tl + 1) + 1) + 1) + 1) + 1) + 1) + 1) + 1) + 1) + 1) + 1) + 1) + 1) + 1) + 1) + 1) + 1) + 1)) (zby p4 8)) ((((((((((((((((((((tl + 1) + 1) + 1) + 1) + 1) + 1) + 1) + 1) + 1) + 1) + 1) + 1) + 1) + 1) + 1) + 1) + 1) + 1) + 1)) (zby p4 0))), rfl, ⟨rfl, rfl⟩, (zB_mk (by rw [ht]; exact hP9) (va_K.moved hW.alike hK9) hD9)⟩, hS.F ht⟩) hS.2.2 dX13_feed_113
set_option maxHeartbeats 4000000 in
set_option maxRecDepth 100000 in
/-- feed(..) of the reference, refused -/
theorem c_X13_feed_full (l : Launch) (dC : Nat → ClassId) (dI : Nat → Nat → Nat) (sz : Nat) (h0 h1 : Nat) (cB : ClassId) (fs : List Value) (f : Nat → Int32) (tl : Nat) (p0 p1 p2 p3 p4 : Int32) (hfl : fs.length = 196) (hf : fs[3]? = some (.int (nI tl))) (hm : fs[0]? = some (.ref h1)) (htl : 1980 < tl ∧ tl ≤ 2000) : Met l yX13_feed wsX13_feed ({ frames := 0, cells := 0, slots := 0, locals := 0 }) (zPc dC dI sz [.ref h0, .int p0, .int p1, .int p2, .int p3, .int p4] [(h0, .inr (15, fs)), (h1, .inl (cB, 2000, .inl f))] [(cB, .byte)]) (va_Qi (fun (r : Int32) (u : List Value × (Nat → Int32)) => r = 0 ∧ u = (fs, f)) (zB dC dI (fun _ => [(cB, .byte)]) (fun u : List Value × (Nat → Int32) => [(h0, .inr (15, u.1)), (h1, .inl (cB, 2000, .inl u.2))]) (va_A [(h0, .inr (15, fs)), (h1, .inl (cB, 2000, .inl f))] sz)) (va_A [(h0, .inr (15, fs)), (h1, .inl (cB, 2000, .inl f))] sz)) 0 0 (va_A [(h0, .inr (15, fs)), (h1, .inl (cB, 2000, .inl f))] sz) := by
  refine Met.ofW (cc := cX13_feed) (maxL := 8) (ret := (some .boolean)) (by decide) rfl ?_
  intro p e s m args below meth c s₁ B hml hv
  obtain ⟨rfl, hsz, hP, hK, hD0⟩ := hv
  have hx := B.exec
  have hb := B.bytes
  have hr := B.returns
  have hts := atoms_spec (ws := wsX13_feed) B.pre
  have hown : s.vm.findClass RX13 = some m.cls := findClass_of_methodNamed B.named
  have hlocks := B.notSynchronized
  subst hsz
  have hD := hD0.self (sz := s.heap.size)
  generalize hAe : va_A [(h0, .inr (15, fs)), (h1, .inl (cB, 2000, .inl f))] s.heap.size = A at hD ⊢
  have hA : ∀ q : Nat, s.heap.size ≤ q → A q := fun q h => by rw [← hAe]; exact Or.inr h
  have hS : va_S A s.heap s.heap [] := va_S.rf
  have hP : va_P (dC, dI) vwCl [(h0, .inr (15, fs)), (h1, .inl (cB, 2000, .inl f))] s.heap := hP
  have hl := lv_entry ([.ref h0, .int p0, .int p1, .int p2, .int p3, .int p4]) (n := 8) (Nat.le_of_ble_eq_true rfl)
  rw [lg_entry_eq]
  generalize (lg_sl ([.ref h0, .int p0, .int p1, .int p2, .int p3, .int p4]) ++ List.replicate (8 - (lg_sl ([.ref h0, .int p0, .int p1, .int p2, .int p3, .int p4])).length) Slot.unset).toArray = ls at hl ⊢
  have hl : lv_has ls 8 [(0, .ref h0), (1, .int p0), (2, .int p1), (3, .int p2), (4, .int p3), (5, .int p4)] := hl
  refine lv_aload_n hx hb dX13_feed_0 rfl (lv_at hl 0 rfl) ?_
  refine va_get (D := (dC, dI)) (ci := 15) (v := .int (nI tl)) (C := RX13) (T := TX13) (N := 196) hx hb hts iw_X13_feed_X13 hown hK hP 0 rfl rfl 3 (by decide) (hts (.fieldLink RX13 386 "LiquidTongueModel" "length" "I") (by decide +kernel)) (fun _ h9 => h9) hf dX13_feed_1 ?_
  refine lv_bipush (v := 20) hx hb dX13_feed_4 (by decide) ?_
  refine lv_iadd hx hb dX13_feed_6 ?_
  refine lv_topi (fun z_1 ez_1 => ?_)
  refine lv_sipush (v := 2000) hx hb dX13_feed_7 (by decide) ?_
  refine lv_icmp_le (tgt := 15) hx hb dX13_feed_10 (by decide) (fun c_1 => absurd c_1 (show ¬ z_1 ≤ 2000 from by rw [ez_1]; exact (show ¬ nI tl + nI 20 ≤ nI 2000 from by rw [nI_add]; exact nI_ge (by omega) (by omega)))) (fun c_1 => ?_)
  refine lv_iconst (v := 0) hx hb dX13_feed_13 (by decide) ?_
  have hP9 := hP.sub (ws' := [(h0, .inr (15, fs)), (h1, .inl (cB, 2000, .inl f))]) [0, 1] rfl
  have hD9 := hD.sub (ws' := [(h0, .inr (15, fs)), (h1, .inl (cB, 2000, .inl f))]) [0, 1] (by decide) rfl
  have hK9 := hK.sub (tys' := [(cB, .byte)]) [0] rfl
  exact W.zret (v := 0) hx hb hr (by first | rfl | decide) (fun t ht hW => ⟨⟨0, (fs, f), rfl, ⟨rfl, rfl⟩, (zB_mk (by rw [ht]; exact hP9) (va_K.moved hW.alike hK9) hD9)⟩, hS.F ht⟩) hS.2.2 dX13_feed_14
