/-! the law's first step on fresh objects; compile() is a hypothesis yet (open) -/
theorem zend_eq {p n r1 r2 : Int32} {A1 B1 A2 B2 : Prop} (h1 : (¬ p < 0 ∧ p ≤ n ∧ r1 = 1 ∧ A1) ∨ ((p < 0 ∨ ¬ p ≤ n) ∧ r1 = 0 ∧ B1)) (h2 : (¬ p < 0 ∧ p ≤ n ∧ r2 = 1 ∧ A2) ∨ ((p < 0 ∨ ¬ p ≤ n) ∧ r2 = 0 ∧ B2)) : r1 = r2 := by
  rcases h1 with ⟨a, b, c, -⟩ | ⟨a, c, -⟩ <;> rcases h2 with ⟨a2, b2, c2, -⟩ | ⟨a2, c2, -⟩
  · exact c.trans c2.symm
  · exact absurd a2 (fun q => q.elim a (fun z => z b))
  · exact absurd a (fun q => q.elim a2 (fun z => z b2))
  · exact c.trans c2.symm
theorem zval_eq {r1 r2 : Int64} (h1 : r1 = 0) (h2 : ((0 : Int32) = 1 ∧ r2 = 0) ∨ (¬ (0 : Int32) = 1 ∧ r2 = 0)) : lg_cmp r1 r2 = 0 := by
  have h : r2 = 0 := h2.elim (fun q => q.2) (fun q => q.2)
  rw [h1, h]; decide
set_option maxHeartbeats 8000000 in
set_option maxRecDepth 100000 in
theorem zfirst_open {p : Program} {e : Env} {s : State} {m : MethodId} {below : List Frame} {meth : Method} {c : Code} (l : Launch) {b : Nat} {xs : Nat → Int32} (C0 : lw_At p s m meth c b 6 xs) {dC : Nat → ClassId} {dI : Nat → Nat → Nat} {x y : Nat} {ux : (Nat → Nat) × (Nat → ClassId)} {qs : List Nat} {cs : List ClassId} {H : Heap} {locs : List Loc} {ls : Array Slot} (hq : qs.length = 122) (hK : va_K (dC, dI) vwCl (zt7 ux cs) s) (hP : va_P (dC, dI) vwCl (zw7 x y ux qs cs) H) (hD : va_D (fun q : Nat => s.heap.size ≤ q) (zw7 x y ux qs cs)) (hS : va_S (fun q : Nat => s.heap.size ≤ q) s.heap H locs) (hl : lv_has ls 4 [(3, .int 0), (2, .ref y), (1, .ref x), (0, .ref b)])
    (hc2 : xs (0 : Int32).toNatClampNeg &&& 15 = nI 2 → W p l e room_1 s m #[Value.ref b] below meth c H locs 142 2270492 (lw_Z below #[Value.ref b] s) (F0 m 182 ls [])) :
    W p l e room_1 s m #[Value.ref b] below meth c H locs 142 2270492 (lw_Z below #[Value.ref b] s) (F0 m 18 ls []) := by
  obtain ⟨hx, hb, hr, hml, hown0, hts, hX, hbl, hlocks, hgv⟩ := C0
  have hb : c.code = cL_law := hb
  have hown : s.vm.findClass RL = some m.cls := hown0
  have hA : ∀ q : Nat, s.heap.size ≤ q → (fun q : Nat => s.heap.size ≤ q) q := fun _ h => h
  have hbA : ¬ (fun q : Nat => s.heap.size ≤ q) b := Nat.not_le.mpr hbl
  have hP : va_P (dC, dI) vwCl [(x, .inr (14, ((((((((zdef tyX12 13).set 0 (.ref (ux.1 0))).set 5 (.int (-1))).set 6 (.ref (ux.1 1))).set 7 (.ref (ux.1 2))).set 10 (.ref (ux.1 3))).set 11 (.ref (ux.1 4))).set 12 (.ref (ux.1 11))))), ((ux.1 0), .inl ((ux.2 0), 2000, .inl (fun _ => 0))), ((ux.1 1), .inl ((ux.2 1), 128, .inl (fun _ => 0))), ((ux.1 11), .inr (5, (((((((zdef tyX3 18).set 2 (.ref (ux.1 12))).set 3 (.ref (ux.1 13))).set 4 (.ref (ux.1 14))).set 6 (.ref (ux.1 15))).set 7 (.ref (ux.1 16))).set 8 (.ref (ux.1 17))))), (y, .inr (15, (zput ((zdef tyX13 196).set 69 (.int (-1))) qs))), ((qs.getD 0 0), .inl ((cs.getD 0 0), 2000, .inl (fun _ => 0))), ((qs.getD 2 0), .inl ((cs.getD 2 0), 16000, .inl (fun _ => 0)))] H := hP
  have hD : va_D (fun q : Nat => s.heap.size ≤ q) [(x, .inr (14, ((((((((zdef tyX12 13).set 0 (.ref (ux.1 0))).set 5 (.int (-1))).set 6 (.ref (ux.1 1))).set 7 (.ref (ux.1 2))).set 10 (.ref (ux.1 3))).set 11 (.ref (ux.1 4))).set 12 (.ref (ux.1 11))))), ((ux.1 0), .inl ((ux.2 0), 2000, .inl (fun _ => 0))), ((ux.1 1), .inl ((ux.2 1), 128, .inl (fun _ => 0))), ((ux.1 11), .inr (5, (((((((zdef tyX3 18).set 2 (.ref (ux.1 12))).set 3 (.ref (ux.1 13))).set 4 (.ref (ux.1 14))).set 6 (.ref (ux.1 15))).set 7 (.ref (ux.1 16))).set 8 (.ref (ux.1 17))))), (y, .inr (15, (zput ((zdef tyX13 196).set 69 (.int (-1))) qs))), ((qs.getD 0 0), .inl ((cs.getD 0 0), 2000, .inl (fun _ => 0))), ((qs.getD 2 0), .inl ((cs.getD 2 0), 16000, .inl (fun _ => 0)))] := hD
  have hK : va_K (dC, dI) vwCl [((ux.2 0), .byte), ((ux.2 1), .byte), ((cs.getD 0 0), .byte), ((cs.getD 2 0), .byte)] s := hK
  refine lv_iload_n hx hb dL_law_18 rfl (lv_at hl 0 rfl) ?_
  refine lv_aload_n hx hb dL_law_19 rfl (lv_at hl 3 rfl) ?_
  refine va_slen hx hb hX hbl hbA hS dL_law_20 ?_
  refine lv_topi (fun z_1 ez_1 => ?_)
  have fz_1 : z_1 = 6 := ez_1.trans (by decide)
  clear ez_1
  subst fz_1
  refine lv_bipush (v := 6) hx hb dL_law_21 (by decide) ?_
  refine lv_isub hx hb dL_law_23 ?_
  refine lv_topi (fun z_2 ez_2 => ?_)
  have fz_2 : z_2 = 0 := ez_2.trans (by decide)
  clear ez_2
  subst fz_2
  refine lv_icmp_gt (tgt := 399) hx hb dL_law_24 (by decide) (fun c_1 => absurd c_1 (by decide)) (fun c_1 => ?_)
  refine lv_aload_n hx hb dL_law_27 rfl (lv_at hl 3 rfl) ?_
  refine lv_iload_n hx hb dL_law_28 rfl (lv_at hl 0 rfl) ?_
  refine va_sld hx hb hX hbl hbA hS (show ¬ ((0 : Int32) < 0 ∨ 6 ≤ (0 : Int32).toNatClampNeg) from by decide) dL_law_29 ?_
  refine lv_bipush (v := 15) hx hb dL_law_30 (by decide) ?_
  refine lv_iand hx hb dL_law_32 ?_
  refine lv_topi (fun zo ezo => ?_)
  obtain ⟨j, hj, ej⟩ := pk_andE (xs (0 : Int32).toNatClampNeg) (m := 15) 4 (by decide)
  have hj : j < 16 := hj
  have ezo := ezo.trans ej
  rcases (show j = 0 ∨ j = 1 ∨ j = 2 ∨ j = 3 ∨ j = 4 ∨ j = 5 ∨ j = 6 ∨ j = 7 ∨ j = 8 ∨ j = 9 ∨ j = 10 ∨ j = 11 ∨ j = 12 ∨ j = 13 ∨ j = 14 ∨ j = 15 by omega) with rfl | rfl | rfl | rfl | rfl | rfl | rfl | rfl | rfl | rfl | rfl | rfl | rfl | rfl | rfl | rfl
  · have fzo : zo = 0 := ezo
    clear ezo
    subst fzo
    refine lv_tableIn (off := 63) (tgt := 96) hx hb dL_law_33 (by decide) (by decide) (by decide) (by decide) ?_
    refine lv_aload_n hx hb dL_law_96 rfl (lv_at hl 2 rfl) ?_
    refine lv_aload_n hx hb dL_law_97 rfl (lv_at hl 3 rfl) ?_
    refine lv_iload_n hx hb dL_law_98 rfl (lv_at hl 0 rfl) ?_
    refine lv_iconst (v := 1) hx hb dL_law_99 (by decide) ?_
    refine lv_iadd hx hb dL_law_100 ?_
    refine lv_topi (fun z_3 ez_3 => ?_)
    have fz_3 : z_3 = 1 := ez_3.trans (by decide)
    clear ez_3
    subst fz_3
    refine va_sld hx hb hX hbl hbA hS (show ¬ ((1 : Int32) < 0 ∨ 6 ≤ (1 : Int32).toNatClampNeg) from by decide) dL_law_101 ?_
    refine lv_aload_n hx hb dL_law_102 rfl (lv_at hl 3 rfl) ?_
    refine lv_iload_n hx hb dL_law_103 rfl (lv_at hl 0 rfl) ?_
    refine lv_iconst (v := 2) hx hb dL_law_104 (by decide) ?_
    refine lv_iadd hx hb dL_law_105 ?_
    refine lv_topi (fun z_4 ez_4 => ?_)
    have fz_4 : z_4 = 2 := ez_4.trans (by decide)
    clear ez_4
    subst fz_4
    refine va_sld hx hb hX hbl hbA hS (show ¬ ((2 : Int32) < 0 ∨ 6 ≤ (2 : Int32).toNatClampNeg) from by decide) dL_law_106 ?_
    refine lv_aload_n hx hb dL_law_107 rfl (lv_at hl 3 rfl) ?_
    refine lv_iload_n hx hb dL_law_108 rfl (lv_at hl 0 rfl) ?_
    refine lv_iconst (v := 3) hx hb dL_law_109 (by decide) ?_
    refine lv_iadd hx hb dL_law_110 ?_
    refine lv_topi (fun z_5 ez_5 => ?_)
    have fz_5 : z_5 = 3 := ez_5.trans (by decide)
    clear ez_5
    subst fz_5
    refine va_sld hx hb hX hbl hbA hS (show ¬ ((3 : Int32) < 0 ∨ 6 ≤ (3 : Int32).toNatClampNeg) from by decide) dL_law_111 ?_
    refine lv_aload_n hx hb dL_law_112 rfl (lv_at hl 3 rfl) ?_
    refine lv_iload_n hx hb dL_law_113 rfl (lv_at hl 0 rfl) ?_
    refine lv_iconst (v := 4) hx hb dL_law_114 (by decide) ?_
    refine lv_iadd hx hb dL_law_115 ?_
    refine lv_topi (fun z_6 ez_6 => ?_)
    have fz_6 : z_6 = 4 := ez_6.trans (by decide)
    clear ez_6
    subst fz_6
    refine va_sld hx hb hX hbl hbA hS (show ¬ ((4 : Int32) < 0 ∨ 6 ≤ (4 : Int32).toNatClampNeg) from by decide) dL_law_116 ?_
    refine lv_aload_n hx hb dL_law_117 rfl (lv_at hl 3 rfl) ?_
    refine lv_iload_n hx hb dL_law_118 rfl (lv_at hl 0 rfl) ?_
    refine lv_iconst (v := 5) hx hb dL_law_119 (by decide) ?_
    refine lv_iadd hx hb dL_law_120 ?_
    refine lv_topi (fun z_7 ez_7 => ?_)
    have fz_7 : z_7 = 5 := ez_7.trans (by decide)
    clear ez_7
    subst fz_7
    refine va_sld hx hb hX hbl hbA hS (show ¬ ((5 : Int32) < 0 ∨ 6 ≤ (5 : Int32).toNatClampNeg) from by decide) dL_law_121 ?_
    have hPc := hP.sub (ws' := [(x, .inr (14, ((((((((zdef tyX12 13).set 0 (.ref (ux.1 0))).set 5 (.int (-1))).set 6 (.ref (ux.1 1))).set 7 (.ref (ux.1 2))).set 10 (.ref (ux.1 3))).set 11 (.ref (ux.1 4))).set 12 (.ref (ux.1 11))))), ((ux.1 0), .inl ((ux.2 0), 2000, .inl (fun _ => 0)))]) [0, 1] rfl
    have hDc := hD.sub (ws' := [(x, .inr (14, ((((((((zdef tyX12 13).set 0 (.ref (ux.1 0))).set 5 (.int (-1))).set 6 (.ref (ux.1 1))).set 7 (.ref (ux.1 2))).set 10 (.ref (ux.1 3))).set 11 (.ref (ux.1 4))).set 12 (.ref (ux.1 11))))), ((ux.1 0), .inl ((ux.2 0), 2000, .inl (fun _ => 0)))]) [0, 1] (by decide) rfl
    have hKc := hK.sub (tys' := [((ux.2 0), .byte)]) [0] rfl
    have hFc := va_free (wc := [(x, .inr (14, ((((((((zdef tyX12 13).set 0 (.ref (ux.1 0))).set 5 (.int (-1))).set 6 (.ref (ux.1 1))).set 7 (.ref (ux.1 2))).set 10 (.ref (ux.1 3))).set 11 (.ref (ux.1 4))).set 12 (.ref (ux.1 11))))), ((ux.1 0), .inl ((ux.2 0), 2000, .inl (fun _ => 0)))]) hD hS hA [0, 1] rfl
    refine va_calli (va_runV (As := [.int (xs (1 : Int32).toNatClampNeg), .int (xs (2 : Int32).toNatClampNeg), .int (xs (3 : Int32).toNatClampNeg), .int (xs (4 : Int32).toNatClampNeg), .int (xs (5 : Int32).toNatClampNeg)]) (rest := []) ⟨hx, hb, hml, hown, hts⟩ (c_X12_feed_ok l dC dI H.size x (ux.1 0) (ux.2 0) ((((((((zdef tyX12 13).set 0 (.ref (ux.1 0))).set 5 (.int (-1))).set 6 (.ref (ux.1 1))).set 7 (.ref (ux.1 2))).set 10 (.ref (ux.1 3))).set 11 (.ref (ux.1 4))).set 12 (.ref (ux.1 11))) (fun _ => 0) 0 (xs (1 : Int32).toNatClampNeg) (xs (2 : Int32).toNatClampNeg) (xs (3 : Int32).toNatClampNeg) (xs (4 : Int32).toNatClampNeg) (xs (5 : Int32).toNatClampNeg) (zs_len (zs_len (zs_len (zs_len (zs_len (zs_len (zs_len (zdef_len _ _)))))))) (zs_ne (by decide) (zs_ne (by decide) (zs_ne (by decide) (zs_ne (by decide) (zs_ne (by decide) (zs_ne (by decide) (zs_ne (by decide) (zdef_get (by decide) rfl)))))))) (zs_ne (by decide) (zs_ne (by decide) (zs_ne (by decide) (zs_ne (by decide) (zs_ne (by decide) (zs_ne (by decide) (zs_eq (zs_lt (zdef_len _ _) (by decide))))))))) (by decide)) (cwV 5 hts zgl_X12_feed rfl rfl rfl (by decide +kernel) ⟨Nat.le_of_ble_eq_true rfl, Nat.le_of_ble_eq_true rfl⟩) ⟨zPc_blind, va_recv hKc hPc (ci := 14) (q0 := 0) rfl rfl, fun U hU hW => zPc_at hPc hKc hDc hU hW⟩ rfl rfl hl.1 rfl (lv_room (Nat.le_of_ble_eq_true rfl)) dL_law_122 ⟨Nat.le_of_ble_eq_true rfl, Nat.le_of_ble_eq_true rfl⟩) hS (fun q _ h => hFc q h) hFc (fun ra1 u t H1 locs ht hvm hw hB hz1 hk1 hS => ?_)
    obtain ⟨hP1, hK1, hD1⟩ := hB
    obtain ⟨hr1, hu1⟩ := hw
    subst hu1
    rw [ht] at hP1
    have hK1 := va_K.moved hvm.symm hK1
    obtain ⟨hP, hD⟩ := va_join (wr := [((ux.1 1), .inl ((ux.2 1), 128, .inl (fun _ => 0))), ((ux.1 11), .inr (5, (((((((zdef tyX3 18).set 2 (.ref (ux.1 12))).set 3 (.ref (ux.1 13))).set 4 (.ref (ux.1 14))).set 6 (.ref (ux.1 15))).set 7 (.ref (ux.1 16))).set 8 (.ref (ux.1 17))))), (y, .inr (15, (zput ((zdef tyX13 196).set 69 (.int (-1))) qs))), ((qs.getD 0 0), .inl ((cs.getD 0 0), 2000, .inl (fun _ => 0))), ((qs.getD 2 0), .inl ((cs.getD 2 0), 16000, .inl (fun _ => 0)))]) (w1 := [(x, .inr (14, (((((((((zdef tyX12 13).set 0 (.ref (ux.1 0))).set 5 (.int (-1))).set 6 (.ref (ux.1 1))).set 7 (.ref (ux.1 2))).set 10 (.ref (ux.1 3))).set 11 (.ref (ux.1 4))).set 12 (.ref (ux.1 11))).set 1 (.int (nI (0 + 20)))))), ((ux.1 0), .inl ((ux.2 0), 2000, .inl (z20 (fun _ => 0) 0 (xs (1 : Int32).toNatClampNeg) (xs (2 : Int32).toNatClampNeg) (xs (3 : Int32).toNatClampNeg) (xs (4 : Int32).toNatClampNeg) (xs (5 : Int32).toNatClampNeg))))]) hP hD [0, 1] [2, 3, 4, 5, 6] rfl rfl (by decide) (by decide) hk1 hFc hP1 hD1
    generalize H1 = H at hP hS ⊢
    have hP : va_P (dC, dI) vwCl [((ux.1 1), .inl ((ux.2 1), 128, .inl (fun _ => 0))), ((ux.1 11), .inr (5, (((((((zdef tyX3 18).set 2 (.ref (ux.1 12))).set 3 (.ref (ux.1 13))).set 4 (.ref (ux.1 14))).set 6 (.ref (ux.1 15))).set 7 (.ref (ux.1 16))).set 8 (.ref (ux.1 17))))), (y, .inr (15, (zput ((zdef tyX13 196).set 69 (.int (-1))) qs))), ((qs.getD 0 0), .inl ((cs.getD 0 0), 2000, .inl (fun _ => 0))), ((qs.getD 2 0), .inl ((cs.getD 2 0), 16000, .inl (fun _ => 0))), (x, .inr (14, (((((((((zdef tyX12 13).set 0 (.ref (ux.1 0))).set 5 (.int (-1))).set 6 (.ref (ux.1 1))).set 7 (.ref (ux.1 2))).set 10 (.ref (ux.1 3))).set 11 (.ref (ux.1 4))).set 12 (.ref (ux.1 11))).set 1 (.int (nI (0 + 20)))))), ((ux.1 0), .inl ((ux.2 0), 2000, .inl (z20 (fun _ => 0) 0 (xs (1 : Int32).toNatClampNeg) (xs (2 : Int32).toNatClampNeg) (xs (3 : Int32).toNatClampNeg) (xs (4 : Int32).toNatClampNeg) (xs (5 : Int32).toNatClampNeg))))] H := hP
    have hD : va_D (fun q : Nat => s.heap.size ≤ q) [((ux.1 1), .inl ((ux.2 1), 128, .inl (fun _ => 0))), ((ux.1 11), .inr (5, (((((((zdef tyX3 18).set 2 (.ref (ux.1 12))).set 3 (.ref (ux.1 13))).set 4 (.ref (ux.1 14))).set 6 (.ref (ux.1 15))).set 7 (.ref (ux.1 16))).set 8 (.ref (ux.1 17))))), (y, .inr (15, (zput ((zdef tyX13 196).set 69 (.int (-1))) qs))), ((qs.getD 0 0), .inl ((cs.getD 0 0), 2000, .inl (fun _ => 0))), ((qs.getD 2 0), .inl ((cs.getD 2 0), 16000, .inl (fun _ => 0))), (x, .inr (14, (((((((((zdef tyX12 13).set 0 (.ref (ux.1 0))).set 5 (.int (-1))).set 6 (.ref (ux.1 1))).set 7 (.ref (ux.1 2))).set 10 (.ref (ux.1 3))).set 11 (.ref (ux.1 4))).set 12 (.ref (ux.1 11))).set 1 (.int (nI (0 + 20)))))), ((ux.1 0), .inl ((ux.2 0), 2000, .inl (z20 (fun _ => 0) 0 (xs (1 : Int32).toNatClampNeg) (xs (2 : Int32).toNatClampNeg) (xs (3 : Int32).toNatClampNeg) (xs (4 : Int32).toNatClampNeg) (xs (5 : Int32).toNatClampNeg))))] := hD
    refine lv_aload_n hx hb dL_law_125 rfl (lv_at hl 1 rfl) ?_
    refine lv_aload_n hx hb dL_law_126 rfl (lv_at hl 3 rfl) ?_
    refine lv_iload_n hx hb dL_law_127 rfl (lv_at hl 0 rfl) ?_
    refine lv_iconst (v := 1) hx hb dL_law_128 (by decide) ?_
    refine lv_iadd hx hb dL_law_129 ?_
    refine lv_topi (fun z_8 ez_8 => ?_)
    have fz_8 : z_8 = 1 := ez_8.trans (by decide)
    clear ez_8
    subst fz_8
    refine va_sld hx hb hX hbl hbA hS (show ¬ ((1 : Int32) < 0 ∨ 6 ≤ (1 : Int32).toNatClampNeg) from by decide) dL_law_130 ?_
    refine lv_aload_n hx hb dL_law_131 rfl (lv_at hl 3 rfl) ?_
    refine lv_iload_n hx hb dL_law_132 rfl (lv_at hl 0 rfl) ?_
    refine lv_iconst (v := 2) hx hb dL_law_133 (by decide) ?_
    refine lv_iadd hx hb dL_law_134 ?_
    refine lv_topi (fun z_9 ez_9 => ?_)
    have fz_9 : z_9 = 2 := ez_9.trans (by decide)
    clear ez_9
    subst fz_9
    refine va_sld hx hb hX hbl hbA hS (show ¬ ((2 : Int32) < 0 ∨ 6 ≤ (2 : Int32).toNatClampNeg) from by decide) dL_law_135 ?_
    refine lv_aload_n hx hb dL_law_136 rfl (lv_at hl 3 rfl) ?_
    refine lv_iload_n hx hb dL_law_137 rfl (lv_at hl 0 rfl) ?_
    refine lv_iconst (v := 3) hx hb dL_law_138 (by decide) ?_
    refine lv_iadd hx hb dL_law_139 ?_
    refine lv_topi (fun z_10 ez_10 => ?_)
    have fz_10 : z_10 = 3 := ez_10.trans (by decide)
    clear ez_10
    subst fz_10
    refine va_sld hx hb hX hbl hbA hS (show ¬ ((3 : Int32) < 0 ∨ 6 ≤ (3 : Int32).toNatClampNeg) from by decide) dL_law_140 ?_
    refine lv_aload_n hx hb dL_law_141 rfl (lv_at hl 3 rfl) ?_
    refine lv_iload_n hx hb dL_law_142 rfl (lv_at hl 0 rfl) ?_
    refine lv_iconst (v := 4) hx hb dL_law_143 (by decide) ?_
    refine lv_iadd hx hb dL_law_144 ?_
    refine lv_topi (fun z_11 ez_11 => ?_)
    have fz_11 : z_11 = 4 := ez_11.trans (by decide)
    clear ez_11
    subst fz_11
    refine va_sld hx hb hX hbl hbA hS (show ¬ ((4 : Int32) < 0 ∨ 6 ≤ (4 : Int32).toNatClampNeg) from by decide) dL_law_145 ?_
    refine lv_aload_n hx hb dL_law_146 rfl (lv_at hl 3 rfl) ?_
    refine lv_iload_n hx hb dL_law_147 rfl (lv_at hl 0 rfl) ?_
    refine lv_iconst (v := 5) hx hb dL_law_148 (by decide) ?_
    refine lv_iadd hx hb dL_law_149 ?_
    refine lv_topi (fun z_12 ez_12 => ?_)
    have fz_12 : z_12 = 5 := ez_12.trans (by decide)
    clear ez_12
    subst fz_12
    refine va_sld hx hb hX hbl hbA hS (show ¬ ((5 : Int32) < 0 ∨ 6 ≤ (5 : Int32).toNatClampNeg) from by decide) dL_law_150 ?_
    have hPc := hP.sub (ws' := [(y, .inr (15, (zput ((zdef tyX13 196).set 69 (.int (-1))) qs))), ((qs.getD 0 0), .inl ((cs.getD 0 0), 2000, .inl (fun _ => 0)))]) [2, 3] rfl
    have hDc := hD.sub (ws' := [(y, .inr (15, (zput ((zdef tyX13 196).set 69 (.int (-1))) qs))), ((qs.getD 0 0), .inl ((cs.getD 0 0), 2000, .inl (fun _ => 0)))]) [2, 3] (by decide) rfl
    have hKc := hK.sub (tys' := [((cs.getD 0 0), .byte)]) [2] rfl
    have hFc := va_free (wc := [(y, .inr (15, (zput ((zdef tyX13 196).set 69 (.int (-1))) qs))), ((qs.getD 0 0), .inl ((cs.getD 0 0), 2000, .inl (fun _ => 0)))]) hD hS hA [2, 3] rfl
    refine va_calli (va_runV (As := [.int (xs (1 : Int32).toNatClampNeg), .int (xs (2 : Int32).toNatClampNeg), .int (xs (3 : Int32).toNatClampNeg), .int (xs (4 : Int32).toNatClampNeg), .int (xs (5 : Int32).toNatClampNeg)]) (rest := [.int ra1]) ⟨hx, hb, hml, hown, hts⟩ (c_X13_feed_ok l dC dI H.size y (qs.getD 0 0) (cs.getD 0 0) (zput ((zdef tyX13 196).set 69 (.int (-1))) qs) (fun _ => 0) 0 (xs (1 : Int32).toNatClampNeg) (xs (2 : Int32).toNatClampNeg) (xs (3 : Int32).toNatClampNeg) (xs (4 : Int32).toNatClampNeg) (xs (5 : Int32).toNatClampNeg) (zput_len (zs_len (zdef_len _ _))) (zput_oth hq (by decide) (zs_ne (by decide) (zdef_get (by decide) rfl))) (zput_row hq (by decide) rfl (by decide) (zs_lt (zs_len (zdef_len _ _)) (by decide))) (by decide)) (cwV 5 hts zgl_X13_feed rfl rfl rfl (by decide +kernel) ⟨Nat.le_of_ble_eq_true rfl, Nat.le_of_ble_eq_true rfl⟩) ⟨zPc_blind, va_recv hKc hPc (ci := 15) (q0 := 0) rfl rfl, fun U hU hW => zPc_at hPc hKc hDc hU hW⟩ rfl rfl hl.1 rfl (lv_room (Nat.le_of_ble_eq_true rfl)) dL_law_151 ⟨Nat.le_of_ble_eq_true rfl, Nat.le_of_ble_eq_true rfl⟩) hS (fun q _ h => hFc q h) hFc (fun ra2 u t H1 locs ht hvm hw hB hz1 hk1 hS => ?_)
    obtain ⟨hP1, hK1, hD1⟩ := hB
    obtain ⟨hr2, hu2⟩ := hw
    subst hu2
    rw [ht] at hP1
    have hK1 := va_K.moved hvm.symm hK1
    obtain ⟨hP, hD⟩ := va_join (wr := [((ux.1 1), .inl ((ux.2 1), 128, .inl (fun _ => 0))), ((ux.1 11), .inr (5, (((((((zdef tyX3 18).set 2 (.ref (ux.1 12))).set 3 (.ref (ux.1 13))).set 4 (.ref (ux.1 14))).set 6 (.ref (ux.1 15))).set 7 (.ref (ux.1 16))).set 8 (.ref (ux.1 17))))), ((qs.getD 2 0), .inl ((cs.getD 2 0), 16000, .inl (fun _ => 0))), (x, .inr (14, (((((((((zdef tyX12 13).set 0 (.ref (ux.1 0))).set 5 (.int (-1))).set 6 (.ref (ux.1 1))).set 7 (.ref (ux.1 2))).set 10 (.ref (ux.1 3))).set 11 (.ref (ux.1 4))).set 12 (.ref (ux.1 11))).set 1 (.int (nI (0 + 20)))))), ((ux.1 0), .inl ((ux.2 0), 2000, .inl (z20 (fun _ => 0) 0 (xs (1 : Int32).toNatClampNeg) (xs (2 : Int32).toNatClampNeg) (xs (3 : Int32).toNatClampNeg) (xs (4 : Int32).toNatClampNeg) (xs (5 : Int32).toNatClampNeg))))]) (w1 := [(y, .inr (15, ((zput ((zdef tyX13 196).set 69 (.int (-1))) qs).set 3 (.int (nI (0 + 20)))))), ((qs.getD 0 0), .inl ((cs.getD 0 0), 2000, .inl (z20 (fun _ => 0) 0 (xs (1 : Int32).toNatClampNeg) (xs (2 : Int32).toNatClampNeg) (xs (3 : Int32).toNatClampNeg) (xs (4 : Int32).toNatClampNeg) (xs (5 : Int32).toNatClampNeg))))]) hP hD [2, 3] [0, 1, 4, 5, 6] rfl rfl (by decide) (by decide) hk1 hFc hP1 hD1
    generalize H1 = H at hP hS ⊢
    have hP : va_P (dC, dI) vwCl [((ux.1 1), .inl ((ux.2 1), 128, .inl (fun _ => 0))), ((ux.1 11), .inr (5, (((((((zdef tyX3 18).set 2 (.ref (ux.1 12))).set 3 (.ref (ux.1 13))).set 4 (.ref (ux.1 14))).set 6 (.ref (ux.1 15))).set 7 (.ref (ux.1 16))).set 8 (.ref (ux.1 17))))), ((qs.getD 2 0), .inl ((cs.getD 2 0), 16000, .inl (fun _ => 0))), (x, .inr (14, (((((((((zdef tyX12 13).set 0 (.ref (ux.1 0))).set 5 (.int (-1))).set 6 (.ref (ux.1 1))).set 7 (.ref (ux.1 2))).set 10 (.ref (ux.1 3))).set 11 (.ref (ux.1 4))).set 12 (.ref (ux.1 11))).set 1 (.int (nI (0 + 20)))))), ((ux.1 0), .inl ((ux.2 0), 2000, .inl (z20 (fun _ => 0) 0 (xs (1 : Int32).toNatClampNeg) (xs (2 : Int32).toNatClampNeg) (xs (3 : Int32).toNatClampNeg) (xs (4 : Int32).toNatClampNeg) (xs (5 : Int32).toNatClampNeg)))), (y, .inr (15, ((zput ((zdef tyX13 196).set 69 (.int (-1))) qs).set 3 (.int (nI (0 + 20)))))), ((qs.getD 0 0), .inl ((cs.getD 0 0), 2000, .inl (z20 (fun _ => 0) 0 (xs (1 : Int32).toNatClampNeg) (xs (2 : Int32).toNatClampNeg) (xs (3 : Int32).toNatClampNeg) (xs (4 : Int32).toNatClampNeg) (xs (5 : Int32).toNatClampNeg))))] H := hP
    have hD : va_D (fun q : Nat => s.heap.size ≤ q) [((ux.1 1), .inl ((ux.2 1), 128, .inl (fun _ => 0))), ((ux.1 11), .inr (5, (((((((zdef tyX3 18).set 2 (.ref (ux.1 12))).set 3 (.ref (ux.1 13))).set 4 (.ref (ux.1 14))).set 6 (.ref (ux.1 15))).set 7 (.ref (ux.1 16))).set 8 (.ref (ux.1 17))))), ((qs.getD 2 0), .inl ((cs.getD 2 0), 16000, .inl (fun _ => 0))), (x, .inr (14, (((((((((zdef tyX12 13).set 0 (.ref (ux.1 0))).set 5 (.int (-1))).set 6 (.ref (ux.1 1))).set 7 (.ref (ux.1 2))).set 10 (.ref (ux.1 3))).set 11 (.ref (ux.1 4))).set 12 (.ref (ux.1 11))).set 1 (.int (nI (0 + 20)))))), ((ux.1 0), .inl ((ux.2 0), 2000, .inl (z20 (fun _ => 0) 0 (xs (1 : Int32).toNatClampNeg) (xs (2 : Int32).toNatClampNeg) (xs (3 : Int32).toNatClampNeg) (xs (4 : Int32).toNatClampNeg) (xs (5 : Int32).toNatClampNeg)))), (y, .inr (15, ((zput ((zdef tyX13 196).set 69 (.int (-1))) qs).set 3 (.int (nI (0 + 20)))))), ((qs.getD 0 0), .inl ((cs.getD 0 0), 2000, .inl (z20 (fun _ => 0) 0 (xs (1 : Int32).toNatClampNeg) (xs (2 : Int32).toNatClampNeg) (xs (3 : Int32).toNatClampNeg) (xs (4 : Int32).toNatClampNeg) (xs (5 : Int32).toNatClampNeg))))] := hD
    refine lv_icmp_eq (tgt := 393) hx hb dL_law_154 (by decide) (fun c_2 => ?_) (fun c_2 => absurd (hr1.trans hr2.symm) c_2)
    refine lv_iinc (v := 6) (lv' := [(3, .int 6), (2, .ref y), (1, .ref x), (0, .ref b)]) hx hb dL_law_393 hl (k := 0) rfl (by decide) (by decide) rfl (fun ls hl => ?_)
    refine lv_goto (tgt := 18) hx hb dL_law_396 (by decide) ?_
    refine lv_iload_n hx hb dL_law_18 rfl (lv_at hl 0 rfl) ?_
    refine lv_aload_n hx hb dL_law_19 rfl (lv_at hl 3 rfl) ?_
    refine va_slen hx hb hX hbl hbA hS dL_law_20 ?_
    refine lv_topi (fun z_14 ez_14 => ?_)
    have fz_14 : z_14 = 6 := ez_14.trans (by decide)
    clear ez_14
    subst fz_14
    refine lv_bipush (v := 6) hx hb dL_law_21 (by decide) ?_
    refine lv_isub hx hb dL_law_23 ?_
    refine lv_topi (fun z_15 ez_15 => ?_)
    have fz_15 : z_15 = 0 := ez_15.trans (by decide)
    clear ez_15
    subst fz_15
    refine lv_icmp_gt (tgt := 399) hx hb dL_law_24 (by decide) (fun c_3 => ?_) (fun c_3 => absurd (by decide) c_3)
    refine lv_iconst (v := 1) hx hb dL_law_399 (by decide) ?_
    refine va_forget (fun q hq => hS.2.2 q hq) ?_
    refine W.widen (k := room_1.cells) (n := room_1.slots) (Nat.le_of_ble_eq_true rfl) (Nat.le_of_ble_eq_true rfl) ?_
    exact lw_ret hx hb hr hlocks dL_law_400
  · have fzo : zo = 1 := ezo
    clear ezo
    subst fzo
    refine lv_tableIn (off := 126) (tgt := 159) hx hb dL_law_33 (by decide) (by decide) (by decide) (by decide) ?_
    refine lv_aload_n hx hb dL_law_159 rfl (lv_at hl 2 rfl) ?_
    refine lv_aload_n hx hb dL_law_160 rfl (lv_at hl 3 rfl) ?_
    refine lv_iload_n hx hb dL_law_161 rfl (lv_at hl 0 rfl) ?_
    refine lv_iconst (v := 1) hx hb dL_law_162 (by decide) ?_
    refine lv_iadd hx hb dL_law_163 ?_
    refine lv_topi (fun z_16 ez_16 => ?_)
    have fz_16 : z_16 = 1 := ez_16.trans (by decide)
    clear ez_16
    subst fz_16
    refine va_sld hx hb hX hbl hbA hS (show ¬ ((1 : Int32) < 0 ∨ 6 ≤ (1 : Int32).toNatClampNeg) from by decide) dL_law_164 ?_
    have hPc := hP.sub (ws' := [(x, .inr (14, ((((((((zdef tyX12 13).set 0 (.ref (ux.1 0))).set 5 (.int (-1))).set 6 (.ref (ux.1 1))).set 7 (.ref (ux.1 2))).set 10 (.ref (ux.1 3))).set 11 (.ref (ux.1 4))).set 12 (.ref (ux.1 11)))))]) [0] rfl
    have hDc := hD.sub (ws' := [(x, .inr (14, ((((((((zdef tyX12 13).set 0 (.ref (ux.1 0))).set 5 (.int (-1))).set 6 (.ref (ux.1 1))).set 7 (.ref (ux.1 2))).set 10 (.ref (ux.1 3))).set 11 (.ref (ux.1 4))).set 12 (.ref (ux.1 11)))))]) [0] (by decide) rfl
    have hKc := hK.sub (tys' := []) [] rfl
    have hFc := va_free (wc := [(x, .inr (14, ((((((((zdef tyX12 13).set 0 (.ref (ux.1 0))).set 5 (.int (-1))).set 6 (.ref (ux.1 1))).set 7 (.ref (ux.1 2))).set 10 (.ref (ux.1 3))).set 11 (.ref (ux.1 4))).set 12 (.ref (ux.1 11)))))]) hD hS hA [0] rfl
    refine va_calli (va_runV (As := [.int (xs (1 : Int32).toNatClampNeg)]) (rest := []) ⟨hx, hb, hml, hown, hts⟩ (c_X12_end l dC dI H.size x ((((((((zdef tyX12 13).set 0 (.ref (ux.1 0))).set 5 (.int (-1))).set 6 (.ref (ux.1 1))).set 7 (.ref (ux.1 2))).set 10 (.ref (ux.1 3))).set 11 (.ref (ux.1 4))).set 12 (.ref (ux.1 11))) 0 (xs (1 : Int32).toNatClampNeg) (zs_len (zs_len (zs_len (zs_len (zs_len (zs_len (zs_len (zdef_len _ _)))))))) (zs_ne (by decide) (zs_ne (by decide) (zs_ne (by decide) (zs_ne (by decide) (zs_ne (by decide) (zs_ne (by decide) (zs_ne (by decide) (zdef_get (by decide) rfl))))))))) (cwV 1 hts zgl_X12_end rfl rfl rfl (by decide +kernel) ⟨Nat.le_of_ble_eq_true rfl, Nat.le_of_ble_eq_true rfl⟩) ⟨zPc_blind, va_recv hKc hPc (ci := 14) (q0 := 0) rfl rfl, fun U hU hW => zPc_at hPc hKc hDc hU hW⟩ rfl rfl hl.1 rfl (lv_room (Nat.le_of_ble_eq_true rfl)) dL_law_165 ⟨Nat.le_of_ble_eq_true rfl, Nat.le_of_ble_eq_true rfl⟩) hS (fun q _ h => hFc q h) hFc (fun ra1 u t H1 locs ht hvm hw hB hz1 hk1 hS => ?_)
    obtain ⟨hP1, hK1, hD1⟩ := hB
    have hw1 := hw
    clear hw
    obtain ⟨uu1, rfl⟩ : ∃ z, z = u := ⟨_, rfl⟩
    rw [ht] at hP1
    have hK1 := va_K.moved hvm.symm hK1
    obtain ⟨hP, hD⟩ := va_join (wr := [((ux.1 0), .inl ((ux.2 0), 2000, .inl (fun _ => 0))), ((ux.1 1), .inl ((ux.2 1), 128, .inl (fun _ => 0))), ((ux.1 11), .inr (5, (((((((zdef tyX3 18).set 2 (.ref (ux.1 12))).set 3 (.ref (ux.1 13))).set 4 (.ref (ux.1 14))).set 6 (.ref (ux.1 15))).set 7 (.ref (ux.1 16))).set 8 (.ref (ux.1 17))))), (y, .inr (15, (zput ((zdef tyX13 196).set 69 (.int (-1))) qs))), ((qs.getD 0 0), .inl ((cs.getD 0 0), 2000, .inl (fun _ => 0))), ((qs.getD 2 0), .inl ((cs.getD 2 0), 16000, .inl (fun _ => 0)))]) (w1 := [(x, .inr (14, uu1))]) hP hD [0] [1, 2, 3, 4, 5, 6] rfl rfl (by decide) (by decide) hk1 hFc hP1 hD1
    generalize H1 = H at hP hS ⊢
    have hP : va_P (dC, dI) vwCl [((ux.1 0), .inl ((ux.2 0), 2000, .inl (fun _ => 0))), ((ux.1 1), .inl ((ux.2 1), 128, .inl (fun _ => 0))), ((ux.1 11), .inr (5, (((((((zdef tyX3 18).set 2 (.ref (ux.1 12))).set 3 (.ref (ux.1 13))).set 4 (.ref (ux.1 14))).set 6 (.ref (ux.1 15))).set 7 (.ref (ux.1 16))).set 8 (.ref (ux.1 17))))), (y, .inr (15, (zput ((zdef tyX13 196).set 69 (.int (-1))) qs))), ((qs.getD 0 0), .inl ((cs.getD 0 0), 2000, .inl (fun _ => 0))), ((qs.getD 2 0), .inl ((cs.getD 2 0), 16000, .inl (fun _ => 0))), (x, .inr (14, uu1))] H := hP
    have hD : va_D (fun q : Nat => s.heap.size ≤ q) [((ux.1 0), .inl ((ux.2 0), 2000, .inl (fun _ => 0))), ((ux.1 1), .inl ((ux.2 1), 128, .inl (fun _ => 0))), ((ux.1 11), .inr (5, (((((((zdef tyX3 18).set 2 (.ref (ux.1 12))).set 3 (.ref (ux.1 13))).set 4 (.ref (ux.1 14))).set 6 (.ref (ux.1 15))).set 7 (.ref (ux.1 16))).set 8 (.ref (ux.1 17))))), (y, .inr (15, (zput ((zdef tyX13 196).set 69 (.int (-1))) qs))), ((qs.getD 0 0), .inl ((cs.getD 0 0), 2000, .inl (fun _ => 0))), ((qs.getD 2 0), .inl ((cs.getD 2 0), 16000, .inl (fun _ => 0))), (x, .inr (14, uu1))] := hD
    refine lv_aload_n hx hb dL_law_168 rfl (lv_at hl 1 rfl) ?_
    refine lv_aload_n hx hb dL_law_169 rfl (lv_at hl 3 rfl) ?_
    refine lv_iload_n hx hb dL_law_170 rfl (lv_at hl 0 rfl) ?_
    refine lv_iconst (v := 1) hx hb dL_law_171 (by decide) ?_
    refine lv_iadd hx hb dL_law_172 ?_
    refine lv_topi (fun z_17 ez_17 => ?_)
    have fz_17 : z_17 = 1 := ez_17.trans (by decide)
    clear ez_17
    subst fz_17
    refine va_sld hx hb hX hbl hbA hS (show ¬ ((1 : Int32) < 0 ∨ 6 ≤ (1 : Int32).toNatClampNeg) from by decide) dL_law_173 ?_
    have hPc := hP.sub (ws' := [(y, .inr (15, (zput ((zdef tyX13 196).set 69 (.int (-1))) qs)))]) [3] rfl
    have hDc := hD.sub (ws' := [(y, .inr (15, (zput ((zdef tyX13 196).set 69 (.int (-1))) qs)))]) [3] (by decide) rfl
    have hKc := hK.sub (tys' := []) [] rfl
    have hFc := va_free (wc := [(y, .inr (15, (zput ((zdef tyX13 196).set 69 (.int (-1))) qs)))]) hD hS hA [3] rfl
    refine va_calli (va_runV (As := [.int (xs (1 : Int32).toNatClampNeg)]) (rest := [.int ra1]) ⟨hx, hb, hml, hown, hts⟩ (c_X13_end l dC dI H.size y (zput ((zdef tyX13 196).set 69 (.int (-1))) qs) 0 (xs (1 : Int32).toNatClampNeg) (zput_len (zs_len (zdef_len _ _))) (zput_oth hq (by decide) (zs_ne (by decide) (zdef_get (by decide) rfl)))) (cwV 1 hts zgl_X13_end rfl rfl rfl (by decide +kernel) ⟨Nat.le_of_ble_eq_true rfl, Nat.le_of_ble_eq_true rfl⟩) ⟨zPc_blind, va_recv hKc hPc (ci := 15) (q0 := 0) rfl rfl, fun U hU hW => zPc_at hPc hKc hDc hU hW⟩ rfl rfl hl.1 rfl (lv_room (Nat.le_of_ble_eq_true rfl)) dL_law_174 ⟨Nat.le_of_ble_eq_true rfl, Nat.le_of_ble_eq_true rfl⟩) hS (fun q _ h => hFc q h) hFc (fun ra2 u t H1 locs ht hvm hw hB hz1 hk1 hS => ?_)
    obtain ⟨hP1, hK1, hD1⟩ := hB
    have hw2 := hw
    clear hw
    obtain ⟨uu2, rfl⟩ : ∃ z, z = u := ⟨_, rfl⟩
    rw [ht] at hP1
    have hK1 := va_K.moved hvm.symm hK1
    obtain ⟨hP, hD⟩ := va_join (wr := [((ux.1 0), .inl ((ux.2 0), 2000, .inl (fun _ => 0))), ((ux.1 1), .inl ((ux.2 1), 128, .inl (fun _ => 0))), ((ux.1 11), .inr (5, (((((((zdef tyX3 18).set 2 (.ref (ux.1 12))).set 3 (.ref (ux.1 13))).set 4 (.ref (ux.1 14))).set 6 (.ref (ux.1 15))).set 7 (.ref (ux.1 16))).set 8 (.ref (ux.1 17))))), ((qs.getD 0 0), .inl ((cs.getD 0 0), 2000, .inl (fun _ => 0))), ((qs.getD 2 0), .inl ((cs.getD 2 0), 16000, .inl (fun _ => 0))), (x, .inr (14, uu1))]) (w1 := [(y, .inr (15, uu2))]) hP hD [3] [0, 1, 2, 4, 5, 6] rfl rfl (by decide) (by decide) hk1 hFc hP1 hD1
    generalize H1 = H at hP hS ⊢
    have hP : va_P (dC, dI) vwCl [((ux.1 0), .inl ((ux.2 0), 2000, .inl (fun _ => 0))), ((ux.1 1), .inl ((ux.2 1), 128, .inl (fun _ => 0))), ((ux.1 11), .inr (5, (((((((zdef tyX3 18).set 2 (.ref (ux.1 12))).set 3 (.ref (ux.1 13))).set 4 (.ref (ux.1 14))).set 6 (.ref (ux.1 15))).set 7 (.ref (ux.1 16))).set 8 (.ref (ux.1 17))))), ((qs.getD 0 0), .inl ((cs.getD 0 0), 2000, .inl (fun _ => 0))), ((qs.getD 2 0), .inl ((cs.getD 2 0), 16000, .inl (fun _ => 0))), (x, .inr (14, uu1)), (y, .inr (15, uu2))] H := hP
    have hD : va_D (fun q : Nat => s.heap.size ≤ q) [((ux.1 0), .inl ((ux.2 0), 2000, .inl (fun _ => 0))), ((ux.1 1), .inl ((ux.2 1), 128, .inl (fun _ => 0))), ((ux.1 11), .inr (5, (((((((zdef tyX3 18).set 2 (.ref (ux.1 12))).set 3 (.ref (ux.1 13))).set 4 (.ref (ux.1 14))).set 6 (.ref (ux.1 15))).set 7 (.ref (ux.1 16))).set 8 (.ref (ux.1 17))))), ((qs.getD 0 0), .inl ((cs.getD 0 0), 2000, .inl (fun _ => 0))), ((qs.getD 2 0), .inl ((cs.getD 2 0), 16000, .inl (fun _ => 0))), (x, .inr (14, uu1)), (y, .inr (15, uu2))] := hD
    refine lv_icmp_eq (tgt := 393) hx hb dL_law_177 (by decide) (fun c_4 => ?_) (fun c_4 => absurd (zend_eq hw1 hw2) c_4)
    refine lv_iinc (v := 6) (lv' := [(3, .int 6), (2, .ref y), (1, .ref x), (0, .ref b)]) hx hb dL_law_393 hl (k := 0) rfl (by decide) (by decide) rfl (fun ls hl => ?_)
    refine lv_goto (tgt := 18) hx hb dL_law_396 (by decide) ?_
    refine lv_iload_n hx hb dL_law_18 rfl (lv_at hl 0 rfl) ?_
    refine lv_aload_n hx hb dL_law_19 rfl (lv_at hl 3 rfl) ?_
    refine va_slen hx hb hX hbl hbA hS dL_law_20 ?_
    refine lv_topi (fun z_19 ez_19 => ?_)
    have fz_19 : z_19 = 6 := ez_19.trans (by decide)
    clear ez_19
    subst fz_19
    refine lv_bipush (v := 6) hx hb dL_law_21 (by decide) ?_
    refine lv_isub hx hb dL_law_23 ?_
    refine lv_topi (fun z_20 ez_20 => ?_)
    have fz_20 : z_20 = 0 := ez_20.trans (by decide)
    clear ez_20
    subst fz_20
    refine lv_icmp_gt (tgt := 399) hx hb dL_law_24 (by decide) (fun c_5 => ?_) (fun c_5 => absurd (by decide) c_5)
    refine lv_iconst (v := 1) hx hb dL_law_399 (by decide) ?_
    refine va_forget (fun q hq => hS.2.2 q hq) ?_
    refine W.widen (k := room_1.cells) (n := room_1.slots) (Nat.le_of_ble_eq_true rfl) (Nat.le_of_ble_eq_true rfl) ?_
    exact lw_ret hx hb hr hlocks dL_law_400
  · have fzo : zo = 2 := ezo
    clear ezo
    subst fzo
    refine lv_tableIn (off := 149) (tgt := 182) hx hb dL_law_33 (by decide) (by decide) (by decide) (by decide) ?_
    exact hc2 ej
  · have fzo : zo = 3 := ezo
    clear ezo
    subst fzo
    refine lv_tableIn (off := 162) (tgt := 195) hx hb dL_law_33 (by decide) (by decide) (by decide) (by decide) ?_
    refine lv_aload_n hx hb dL_law_195 rfl (lv_at hl 2 rfl) ?_
    have hPc := hP.sub (ws' := [(x, .inr (14, ((((((((zdef tyX12 13).set 0 (.ref (ux.1 0))).set 5 (.int (-1))).set 6 (.ref (ux.1 1))).set 7 (.ref (ux.1 2))).set 10 (.ref (ux.1 3))).set 11 (.ref (ux.1 4))).set 12 (.ref (ux.1 11)))))]) [0] rfl
    have hDc := hD.sub (ws' := [(x, .inr (14, ((((((((zdef tyX12 13).set 0 (.ref (ux.1 0))).set 5 (.int (-1))).set 6 (.ref (ux.1 1))).set 7 (.ref (ux.1 2))).set 10 (.ref (ux.1 3))).set 11 (.ref (ux.1 4))).set 12 (.ref (ux.1 11)))))]) [0] (by decide) rfl
    have hKc := hK.sub (tys' := []) [] rfl
    have hFc := va_free (wc := [(x, .inr (14, ((((((((zdef tyX12 13).set 0 (.ref (ux.1 0))).set 5 (.int (-1))).set 6 (.ref (ux.1 1))).set 7 (.ref (ux.1 2))).set 10 (.ref (ux.1 3))).set 11 (.ref (ux.1 4))).set 12 (.ref (ux.1 11)))))]) hD hS hA [0] rfl
    refine va_calli (va_runV (As := []) (rest := []) ⟨hx, hb, hml, hown, hts⟩ (c_X12_accepted_none l dC dI H.size x ((((((((zdef tyX12 13).set 0 (.ref (ux.1 0))).set 5 (.int (-1))).set 6 (.ref (ux.1 1))).set 7 (.ref (ux.1 2))).set 10 (.ref (ux.1 3))).set 11 (.ref (ux.1 4))).set 12 (.ref (ux.1 11))) (zs_len (zs_len (zs_len (zs_len (zs_len (zs_len (zs_len (zdef_len _ _)))))))) (zs_ne (by decide) (zs_ne (by decide) (zs_ne (by decide) (zs_ne (by decide) (zs_ne (by decide) (zs_ne (by decide) (zs_ne (by decide) (zdef_get (by decide) rfl))))))))) (cwV 0 hts zgl_X12_accepted rfl rfl rfl (by decide +kernel) ⟨Nat.le_of_ble_eq_true rfl, Nat.le_of_ble_eq_true rfl⟩) ⟨zPc_blind, va_recv hKc hPc (ci := 14) (q0 := 0) rfl rfl, fun U hU hW => zPc_at hPc hKc hDc hU hW⟩ rfl rfl hl.1 rfl (lv_room (Nat.le_of_ble_eq_true rfl)) dL_law_196 ⟨Nat.le_of_ble_eq_true rfl, Nat.le_of_ble_eq_true rfl⟩) hS (fun q _ h => hFc q h) hFc (fun ra1 u t H1 locs ht hvm hw hB hz1 hk1 hS => ?_)
    obtain ⟨hP1, hK1, hD1⟩ := hB
    obtain ⟨hr1, hu1⟩ := hw
    subst hu1
    rw [ht] at hP1
    have hK1 := va_K.moved hvm.symm hK1
    obtain ⟨hP, hD⟩ := va_join (wr := [((ux.1 0), .inl ((ux.2 0), 2000, .inl (fun _ => 0))), ((ux.1 1), .inl ((ux.2 1), 128, .inl (fun _ => 0))), ((ux.1 11), .inr (5, (((((((zdef tyX3 18).set 2 (.ref (ux.1 12))).set 3 (.ref (ux.1 13))).set 4 (.ref (ux.1 14))).set 6 (.ref (ux.1 15))).set 7 (.ref (ux.1 16))).set 8 (.ref (ux.1 17))))), (y, .inr (15, (zput ((zdef tyX13 196).set 69 (.int (-1))) qs))), ((qs.getD 0 0), .inl ((cs.getD 0 0), 2000, .inl (fun _ => 0))), ((qs.getD 2 0), .inl ((cs.getD 2 0), 16000, .inl (fun _ => 0)))]) (w1 := [(x, .inr (14, ((((((((zdef tyX12 13).set 0 (.ref (ux.1 0))).set 5 (.int (-1))).set 6 (.ref (ux.1 1))).set 7 (.ref (ux.1 2))).set 10 (.ref (ux.1 3))).set 11 (.ref (ux.1 4))).set 12 (.ref (ux.1 11)))))]) hP hD [0] [1, 2, 3, 4, 5, 6] rfl rfl (by decide) (by decide) hk1 hFc hP1 hD1
    generalize H1 = H at hP hS ⊢
    have hP : va_P (dC, dI) vwCl [((ux.1 0), .inl ((ux.2 0), 2000, .inl (fun _ => 0))), ((ux.1 1), .inl ((ux.2 1), 128, .inl (fun _ => 0))), ((ux.1 11), .inr (5, (((((((zdef tyX3 18).set 2 (.ref (ux.1 12))).set 3 (.ref (ux.1 13))).set 4 (.ref (ux.1 14))).set 6 (.ref (ux.1 15))).set 7 (.ref (ux.1 16))).set 8 (.ref (ux.1 17))))), (y, .inr (15, (zput ((zdef tyX13 196).set 69 (.int (-1))) qs))), ((qs.getD 0 0), .inl ((cs.getD 0 0), 2000, .inl (fun _ => 0))), ((qs.getD 2 0), .inl ((cs.getD 2 0), 16000, .inl (fun _ => 0))), (x, .inr (14, ((((((((zdef tyX12 13).set 0 (.ref (ux.1 0))).set 5 (.int (-1))).set 6 (.ref (ux.1 1))).set 7 (.ref (ux.1 2))).set 10 (.ref (ux.1 3))).set 11 (.ref (ux.1 4))).set 12 (.ref (ux.1 11)))))] H := hP
    have hD : va_D (fun q : Nat => s.heap.size ≤ q) [((ux.1 0), .inl ((ux.2 0), 2000, .inl (fun _ => 0))), ((ux.1 1), .inl ((ux.2 1), 128, .inl (fun _ => 0))), ((ux.1 11), .inr (5, (((((((zdef tyX3 18).set 2 (.ref (ux.1 12))).set 3 (.ref (ux.1 13))).set 4 (.ref (ux.1 14))).set 6 (.ref (ux.1 15))).set 7 (.ref (ux.1 16))).set 8 (.ref (ux.1 17))))), (y, .inr (15, (zput ((zdef tyX13 196).set 69 (.int (-1))) qs))), ((qs.getD 0 0), .inl ((cs.getD 0 0), 2000, .inl (fun _ => 0))), ((qs.getD 2 0), .inl ((cs.getD 2 0), 16000, .inl (fun _ => 0))), (x, .inr (14, ((((((((zdef tyX12 13).set 0 (.ref (ux.1 0))).set 5 (.int (-1))).set 6 (.ref (ux.1 1))).set 7 (.ref (ux.1 2))).set 10 (.ref (ux.1 3))).set 11 (.ref (ux.1 4))).set 12 (.ref (ux.1 11)))))] := hD
    refine lv_aload_n hx hb dL_law_199 rfl (lv_at hl 1 rfl) ?_
    have hPc := hP.sub (ws' := [(y, .inr (15, (zput ((zdef tyX13 196).set 69 (.int (-1))) qs)))]) [3] rfl
    have hDc := hD.sub (ws' := [(y, .inr (15, (zput ((zdef tyX13 196).set 69 (.int (-1))) qs)))]) [3] (by decide) rfl
    have hKc := hK.sub (tys' := []) [] rfl
    have hFc := va_free (wc := [(y, .inr (15, (zput ((zdef tyX13 196).set 69 (.int (-1))) qs)))]) hD hS hA [3] rfl
    refine va_calli (va_runV (As := []) (rest := [.int ra1]) ⟨hx, hb, hml, hown, hts⟩ (c_X13_accepted_none l dC dI H.size y (zput ((zdef tyX13 196).set 69 (.int (-1))) qs) (zput_len (zs_len (zdef_len _ _))) (zput_oth hq (by decide) (zs_ne (by decide) (zdef_get (by decide) rfl)))) (cwV 0 hts zgl_X13_accepted rfl rfl rfl (by decide +kernel) ⟨Nat.le_of_ble_eq_true rfl, Nat.le_of_ble_eq_true rfl⟩) ⟨zPc_blind, va_recv hKc hPc (ci := 15) (q0 := 0) rfl rfl, fun U hU hW => zPc_at hPc hKc hDc hU hW⟩ rfl rfl hl.1 rfl (lv_room (Nat.le_of_ble_eq_true rfl)) dL_law_200 ⟨Nat.le_of_ble_eq_true rfl, Nat.le_of_ble_eq_true rfl⟩) hS (fun q _ h => hFc q h) hFc (fun ra2 u t H1 locs ht hvm hw hB hz1 hk1 hS => ?_)
    obtain ⟨hP1, hK1, hD1⟩ := hB
    obtain ⟨hr2, hu2⟩ := hw
    subst hu2
    rw [ht] at hP1
    have hK1 := va_K.moved hvm.symm hK1
    obtain ⟨hP, hD⟩ := va_join (wr := [((ux.1 0), .inl ((ux.2 0), 2000, .inl (fun _ => 0))), ((ux.1 1), .inl ((ux.2 1), 128, .inl (fun _ => 0))), ((ux.1 11), .inr (5, (((((((zdef tyX3 18).set 2 (.ref (ux.1 12))).set 3 (.ref (ux.1 13))).set 4 (.ref (ux.1 14))).set 6 (.ref (ux.1 15))).set 7 (.ref (ux.1 16))).set 8 (.ref (ux.1 17))))), ((qs.getD 0 0), .inl ((cs.getD 0 0), 2000, .inl (fun _ => 0))), ((qs.getD 2 0), .inl ((cs.getD 2 0), 16000, .inl (fun _ => 0))), (x, .inr (14, ((((((((zdef tyX12 13).set 0 (.ref (ux.1 0))).set 5 (.int (-1))).set 6 (.ref (ux.1 1))).set 7 (.ref (ux.1 2))).set 10 (.ref (ux.1 3))).set 11 (.ref (ux.1 4))).set 12 (.ref (ux.1 11)))))]) (w1 := [(y, .inr (15, (zput ((zdef tyX13 196).set 69 (.int (-1))) qs)))]) hP hD [3] [0, 1, 2, 4, 5, 6] rfl rfl (by decide) (by decide) hk1 hFc hP1 hD1
    generalize H1 = H at hP hS ⊢
    have hP : va_P (dC, dI) vwCl [((ux.1 0), .inl ((ux.2 0), 2000, .inl (fun _ => 0))), ((ux.1 1), .inl ((ux.2 1), 128, .inl (fun _ => 0))), ((ux.1 11), .inr (5, (((((((zdef tyX3 18).set 2 (.ref (ux.1 12))).set 3 (.ref (ux.1 13))).set 4 (.ref (ux.1 14))).set 6 (.ref (ux.1 15))).set 7 (.ref (ux.1 16))).set 8 (.ref (ux.1 17))))), ((qs.getD 0 0), .inl ((cs.getD 0 0), 2000, .inl (fun _ => 0))), ((qs.getD 2 0), .inl ((cs.getD 2 0), 16000, .inl (fun _ => 0))), (x, .inr (14, ((((((((zdef tyX12 13).set 0 (.ref (ux.1 0))).set 5 (.int (-1))).set 6 (.ref (ux.1 1))).set 7 (.ref (ux.1 2))).set 10 (.ref (ux.1 3))).set 11 (.ref (ux.1 4))).set 12 (.ref (ux.1 11))))), (y, .inr (15, (zput ((zdef tyX13 196).set 69 (.int (-1))) qs)))] H := hP
    have hD : va_D (fun q : Nat => s.heap.size ≤ q) [((ux.1 0), .inl ((ux.2 0), 2000, .inl (fun _ => 0))), ((ux.1 1), .inl ((ux.2 1), 128, .inl (fun _ => 0))), ((ux.1 11), .inr (5, (((((((zdef tyX3 18).set 2 (.ref (ux.1 12))).set 3 (.ref (ux.1 13))).set 4 (.ref (ux.1 14))).set 6 (.ref (ux.1 15))).set 7 (.ref (ux.1 16))).set 8 (.ref (ux.1 17))))), ((qs.getD 0 0), .inl ((cs.getD 0 0), 2000, .inl (fun _ => 0))), ((qs.getD 2 0), .inl ((cs.getD 2 0), 16000, .inl (fun _ => 0))), (x, .inr (14, ((((((((zdef tyX12 13).set 0 (.ref (ux.1 0))).set 5 (.int (-1))).set 6 (.ref (ux.1 1))).set 7 (.ref (ux.1 2))).set 10 (.ref (ux.1 3))).set 11 (.ref (ux.1 4))).set 12 (.ref (ux.1 11))))), (y, .inr (15, (zput ((zdef tyX13 196).set 69 (.int (-1))) qs)))] := hD
    refine lv_icmp_eq (tgt := 393) hx hb dL_law_203 (by decide) (fun c_6 => ?_) (fun c_6 => absurd (hr1.trans hr2.symm) c_6)
    refine lv_iinc (v := 6) (lv' := [(3, .int 6), (2, .ref y), (1, .ref x), (0, .ref b)]) hx hb dL_law_393 hl (k := 0) rfl (by decide) (by decide) rfl (fun ls hl => ?_)
    refine lv_goto (tgt := 18) hx hb dL_law_396 (by decide) ?_
    refine lv_iload_n hx hb dL_law_18 rfl (lv_at hl 0 rfl) ?_
    refine lv_aload_n hx hb dL_law_19 rfl (lv_at hl 3 rfl) ?_
    refine va_slen hx hb hX hbl hbA hS dL_law_20 ?_
    refine lv_topi (fun z_22 ez_22 => ?_)
    have fz_22 : z_22 = 6 := ez_22.trans (by decide)
    clear ez_22
    subst fz_22
    refine lv_bipush (v := 6) hx hb dL_law_21 (by decide) ?_
    refine lv_isub hx hb dL_law_23 ?_
    refine lv_topi (fun z_23 ez_23 => ?_)
    have fz_23 : z_23 = 0 := ez_23.trans (by decide)
    clear ez_23
    subst fz_23
    refine lv_icmp_gt (tgt := 399) hx hb dL_law_24 (by decide) (fun c_7 => ?_) (fun c_7 => absurd (by decide) c_7)
    refine lv_iconst (v := 1) hx hb dL_law_399 (by decide) ?_
    refine va_forget (fun q hq => hS.2.2 q hq) ?_
    refine W.widen (k := room_1.cells) (n := room_1.slots) (Nat.le_of_ble_eq_true rfl) (Nat.le_of_ble_eq_true rfl) ?_
    exact lw_ret hx hb hr hlocks dL_law_400
  · have fzo : zo = 4 := ezo
    clear ezo
    subst fzo
    refine lv_tableIn (off := 175) (tgt := 208) hx hb dL_law_33 (by decide) (by decide) (by decide) (by decide) ?_
    refine lv_aload_n hx hb dL_law_208 rfl (lv_at hl 2 rfl) ?_
    have hPc := hP.sub (ws' := [(x, .inr (14, ((((((((zdef tyX12 13).set 0 (.ref (ux.1 0))).set 5 (.int (-1))).set 6 (.ref (ux.1 1))).set 7 (.ref (ux.1 2))).set 10 (.ref (ux.1 3))).set 11 (.ref (ux.1 4))).set 12 (.ref (ux.1 11)))))]) [0] rfl
    have hDc := hD.sub (ws' := [(x, .inr (14, ((((((((zdef tyX12 13).set 0 (.ref (ux.1 0))).set 5 (.int (-1))).set 6 (.ref (ux.1 1))).set 7 (.ref (ux.1 2))).set 10 (.ref (ux.1 3))).set 11 (.ref (ux.1 4))).set 12 (.ref (ux.1 11)))))]) [0] (by decide) rfl
    have hKc := hK.sub (tys' := []) [] rfl
    have hFc := va_free (wc := [(x, .inr (14, ((((((((zdef tyX12 13).set 0 (.ref (ux.1 0))).set 5 (.int (-1))).set 6 (.ref (ux.1 1))).set 7 (.ref (ux.1 2))).set 10 (.ref (ux.1 3))).set 11 (.ref (ux.1 4))).set 12 (.ref (ux.1 11)))))]) hD hS hA [0] rfl
    refine va_calli (va_runV (As := []) (rest := []) ⟨hx, hb, hml, hown, hts⟩ (c_X12_place l dC dI H.size x ((((((((zdef tyX12 13).set 0 (.ref (ux.1 0))).set 5 (.int (-1))).set 6 (.ref (ux.1 1))).set 7 (.ref (ux.1 2))).set 10 (.ref (ux.1 3))).set 11 (.ref (ux.1 4))).set 12 (.ref (ux.1 11))) (-1) (zs_len (zs_len (zs_len (zs_len (zs_len (zs_len (zs_len (zdef_len _ _)))))))) (zs_ne (by decide) (zs_ne (by decide) (zs_ne (by decide) (zs_ne (by decide) (zs_ne (by decide) (zs_eq (zs_lt (zs_len (zdef_len _ _)) (by decide))))))))) (cwV 0 hts zgl_X12_place rfl rfl rfl (by decide +kernel) ⟨Nat.le_of_ble_eq_true rfl, Nat.le_of_ble_eq_true rfl⟩) ⟨zPc_blind, va_recv hKc hPc (ci := 14) (q0 := 0) rfl rfl, fun U hU hW => zPc_at hPc hKc hDc hU hW⟩ rfl rfl hl.1 rfl (lv_room (Nat.le_of_ble_eq_true rfl)) dL_law_209 ⟨Nat.le_of_ble_eq_true rfl, Nat.le_of_ble_eq_true rfl⟩) hS (fun q _ h => hFc q h) hFc (fun ra1 u t H1 locs ht hvm hw hB hz1 hk1 hS => ?_)
    obtain ⟨hP1, hK1, hD1⟩ := hB
    obtain ⟨hr1, hu1⟩ := hw
    subst hu1
    rw [ht] at hP1
    have hK1 := va_K.moved hvm.symm hK1
    obtain ⟨hP, hD⟩ := va_join (wr := [((ux.1 0), .inl ((ux.2 0), 2000, .inl (fun _ => 0))), ((ux.1 1), .inl ((ux.2 1), 128, .inl (fun _ => 0))), ((ux.1 11), .inr (5, (((((((zdef tyX3 18).set 2 (.ref (ux.1 12))).set 3 (.ref (ux.1 13))).set 4 (.ref (ux.1 14))).set 6 (.ref (ux.1 15))).set 7 (.ref (ux.1 16))).set 8 (.ref (ux.1 17))))), (y, .inr (15, (zput ((zdef tyX13 196).set 69 (.int (-1))) qs))), ((qs.getD 0 0), .inl ((cs.getD 0 0), 2000, .inl (fun _ => 0))), ((qs.getD 2 0), .inl ((cs.getD 2 0), 16000, .inl (fun _ => 0)))]) (w1 := [(x, .inr (14, ((((((((zdef tyX12 13).set 0 (.ref (ux.1 0))).set 5 (.int (-1))).set 6 (.ref (ux.1 1))).set 7 (.ref (ux.1 2))).set 10 (.ref (ux.1 3))).set 11 (.ref (ux.1 4))).set 12 (.ref (ux.1 11)))))]) hP hD [0] [1, 2, 3, 4, 5, 6] rfl rfl (by decide) (by decide) hk1 hFc hP1 hD1
    generalize H1 = H at hP hS ⊢
    have hP : va_P (dC, dI) vwCl [((ux.1 0), .inl ((ux.2 0), 2000, .inl (fun _ => 0))), ((ux.1 1), .inl ((ux.2 1), 128, .inl (fun _ => 0))), ((ux.1 11), .inr (5, (((((((zdef tyX3 18).set 2 (.ref (ux.1 12))).set 3 (.ref (ux.1 13))).set 4 (.ref (ux.1 14))).set 6 (.ref (ux.1 15))).set 7 (.ref (ux.1 16))).set 8 (.ref (ux.1 17))))), (y, .inr (15, (zput ((zdef tyX13 196).set 69 (.int (-1))) qs))), ((qs.getD 0 0), .inl ((cs.getD 0 0), 2000, .inl (fun _ => 0))), ((qs.getD 2 0), .inl ((cs.getD 2 0), 16000, .inl (fun _ => 0))), (x, .inr (14, ((((((((zdef tyX12 13).set 0 (.ref (ux.1 0))).set 5 (.int (-1))).set 6 (.ref (ux.1 1))).set 7 (.ref (ux.1 2))).set 10 (.ref (ux.1 3))).set 11 (.ref (ux.1 4))).set 12 (.ref (ux.1 11)))))] H := hP
    have hD : va_D (fun q : Nat => s.heap.size ≤ q) [((ux.1 0), .inl ((ux.2 0), 2000, .inl (fun _ => 0))), ((ux.1 1), .inl ((ux.2 1), 128, .inl (fun _ => 0))), ((ux.1 11), .inr (5, (((((((zdef tyX3 18).set 2 (.ref (ux.1 12))).set 3 (.ref (ux.1 13))).set 4 (.ref (ux.1 14))).set 6 (.ref (ux.1 15))).set 7 (.ref (ux.1 16))).set 8 (.ref (ux.1 17))))), (y, .inr (15, (zput ((zdef tyX13 196).set 69 (.int (-1))) qs))), ((qs.getD 0 0), .inl ((cs.getD 0 0), 2000, .inl (fun _ => 0))), ((qs.getD 2 0), .inl ((cs.getD 2 0), 16000, .inl (fun _ => 0))), (x, .inr (14, ((((((((zdef tyX12 13).set 0 (.ref (ux.1 0))).set 5 (.int (-1))).set 6 (.ref (ux.1 1))).set 7 (.ref (ux.1 2))).set 10 (.ref (ux.1 3))).set 11 (.ref (ux.1 4))).set 12 (.ref (ux.1 11)))))] := hD
    refine lv_aload_n hx hb dL_law_212 rfl (lv_at hl 1 rfl) ?_
    have hPc := hP.sub (ws' := [(y, .inr (15, (zput ((zdef tyX13 196).set 69 (.int (-1))) qs)))]) [3] rfl
    have hDc := hD.sub (ws' := [(y, .inr (15, (zput ((zdef tyX13 196).set 69 (.int (-1))) qs)))]) [3] (by decide) rfl
    have hKc := hK.sub (tys' := []) [] rfl
    have hFc := va_free (wc := [(y, .inr (15, (zput ((zdef tyX13 196).set 69 (.int (-1))) qs)))]) hD hS hA [3] rfl
    refine va_calli (va_runV (As := []) (rest := [.int ra1]) ⟨hx, hb, hml, hown, hts⟩ (c_X13_place l dC dI H.size y (zput ((zdef tyX13 196).set 69 (.int (-1))) qs) (-1) (zput_len (zs_len (zdef_len _ _))) (zput_oth hq (by decide) (zs_eq (zs_lt (zdef_len _ _) (by decide))))) (cwV 0 hts zgl_X13_place rfl rfl rfl (by decide +kernel) ⟨Nat.le_of_ble_eq_true rfl, Nat.le_of_ble_eq_true rfl⟩) ⟨zPc_blind, va_recv hKc hPc (ci := 15) (q0 := 0) rfl rfl, fun U hU hW => zPc_at hPc hKc hDc hU hW⟩ rfl rfl hl.1 rfl (lv_room (Nat.le_of_ble_eq_true rfl)) dL_law_213 ⟨Nat.le_of_ble_eq_true rfl, Nat.le_of_ble_eq_true rfl⟩) hS (fun q _ h => hFc q h) hFc (fun ra2 u t H1 locs ht hvm hw hB hz1 hk1 hS => ?_)
    obtain ⟨hP1, hK1, hD1⟩ := hB
    obtain ⟨hr2, hu2⟩ := hw
    subst hu2
    rw [ht] at hP1
    have hK1 := va_K.moved hvm.symm hK1
    obtain ⟨hP, hD⟩ := va_join (wr := [((ux.1 0), .inl ((ux.2 0), 2000, .inl (fun _ => 0))), ((ux.1 1), .inl ((ux.2 1), 128, .inl (fun _ => 0))), ((ux.1 11), .inr (5, (((((((zdef tyX3 18).set 2 (.ref (ux.1 12))).set 3 (.ref (ux.1 13))).set 4 (.ref (ux.1 14))).set 6 (.ref (ux.1 15))).set 7 (.ref (ux.1 16))).set 8 (.ref (ux.1 17))))), ((qs.getD 0 0), .inl ((cs.getD 0 0), 2000, .inl (fun _ => 0))), ((qs.getD 2 0), .inl ((cs.getD 2 0), 16000, .inl (fun _ => 0))), (x, .inr (14, ((((((((zdef tyX12 13).set 0 (.ref (ux.1 0))).set 5 (.int (-1))).set 6 (.ref (ux.1 1))).set 7 (.ref (ux.1 2))).set 10 (.ref (ux.1 3))).set 11 (.ref (ux.1 4))).set 12 (.ref (ux.1 11)))))]) (w1 := [(y, .inr (15, (zput ((zdef tyX13 196).set 69 (.int (-1))) qs)))]) hP hD [3] [0, 1, 2, 4, 5, 6] rfl rfl (by decide) (by decide) hk1 hFc hP1 hD1
    generalize H1 = H at hP hS ⊢
    have hP : va_P (dC, dI) vwCl [((ux.1 0), .inl ((ux.2 0), 2000, .inl (fun _ => 0))), ((ux.1 1), .inl ((ux.2 1), 128, .inl (fun _ => 0))), ((ux.1 11), .inr (5, (((((((zdef tyX3 18).set 2 (.ref (ux.1 12))).set 3 (.ref (ux.1 13))).set 4 (.ref (ux.1 14))).set 6 (.ref (ux.1 15))).set 7 (.ref (ux.1 16))).set 8 (.ref (ux.1 17))))), ((qs.getD 0 0), .inl ((cs.getD 0 0), 2000, .inl (fun _ => 0))), ((qs.getD 2 0), .inl ((cs.getD 2 0), 16000, .inl (fun _ => 0))), (x, .inr (14, ((((((((zdef tyX12 13).set 0 (.ref (ux.1 0))).set 5 (.int (-1))).set 6 (.ref (ux.1 1))).set 7 (.ref (ux.1 2))).set 10 (.ref (ux.1 3))).set 11 (.ref (ux.1 4))).set 12 (.ref (ux.1 11))))), (y, .inr (15, (zput ((zdef tyX13 196).set 69 (.int (-1))) qs)))] H := hP
    have hD : va_D (fun q : Nat => s.heap.size ≤ q) [((ux.1 0), .inl ((ux.2 0), 2000, .inl (fun _ => 0))), ((ux.1 1), .inl ((ux.2 1), 128, .inl (fun _ => 0))), ((ux.1 11), .inr (5, (((((((zdef tyX3 18).set 2 (.ref (ux.1 12))).set 3 (.ref (ux.1 13))).set 4 (.ref (ux.1 14))).set 6 (.ref (ux.1 15))).set 7 (.ref (ux.1 16))).set 8 (.ref (ux.1 17))))), ((qs.getD 0 0), .inl ((cs.getD 0 0), 2000, .inl (fun _ => 0))), ((qs.getD 2 0), .inl ((cs.getD 2 0), 16000, .inl (fun _ => 0))), (x, .inr (14, ((((((((zdef tyX12 13).set 0 (.ref (ux.1 0))).set 5 (.int (-1))).set 6 (.ref (ux.1 1))).set 7 (.ref (ux.1 2))).set 10 (.ref (ux.1 3))).set 11 (.ref (ux.1 4))).set 12 (.ref (ux.1 11))))), (y, .inr (15, (zput ((zdef tyX13 196).set 69 (.int (-1))) qs)))] := hD
    refine lv_icmp_eq (tgt := 393) hx hb dL_law_216 (by decide) (fun c_8 => ?_) (fun c_8 => absurd (hr1.trans hr2.symm) c_8)
    refine lv_iinc (v := 6) (lv' := [(3, .int 6), (2, .ref y), (1, .ref x), (0, .ref b)]) hx hb dL_law_393 hl (k := 0) rfl (by decide) (by decide) rfl (fun ls hl => ?_)
    refine lv_goto (tgt := 18) hx hb dL_law_396 (by decide) ?_
    refine lv_iload_n hx hb dL_law_18 rfl (lv_at hl 0 rfl) ?_
    refine lv_aload_n hx hb dL_law_19 rfl (lv_at hl 3 rfl) ?_
    refine va_slen hx hb hX hbl hbA hS dL_law_20 ?_
    refine lv_topi (fun z_25 ez_25 => ?_)
    have fz_25 : z_25 = 6 := ez_25.trans (by decide)
    clear ez_25
    subst fz_25
    refine lv_bipush (v := 6) hx hb dL_law_21 (by decide) ?_
    refine lv_isub hx hb dL_law_23 ?_
    refine lv_topi (fun z_26 ez_26 => ?_)
    have fz_26 : z_26 = 0 := ez_26.trans (by decide)
    clear ez_26
    subst fz_26
    refine lv_icmp_gt (tgt := 399) hx hb dL_law_24 (by decide) (fun c_9 => ?_) (fun c_9 => absurd (by decide) c_9)
    refine lv_iconst (v := 1) hx hb dL_law_399 (by decide) ?_
    refine va_forget (fun q hq => hS.2.2 q hq) ?_
    refine W.widen (k := room_1.cells) (n := room_1.slots) (Nat.le_of_ble_eq_true rfl) (Nat.le_of_ble_eq_true rfl) ?_
    exact lw_ret hx hb hr hlocks dL_law_400
  · have fzo : zo = 5 := ezo
    clear ezo
    subst fzo
    refine lv_tableIn (off := 188) (tgt := 221) hx hb dL_law_33 (by decide) (by decide) (by decide) (by decide) ?_
    refine lv_aload_n hx hb dL_law_221 rfl (lv_at hl 2 rfl) ?_
    refine lv_aload_n hx hb dL_law_222 rfl (lv_at hl 3 rfl) ?_
    refine lv_iload_n hx hb dL_law_223 rfl (lv_at hl 0 rfl) ?_
    refine lv_iconst (v := 1) hx hb dL_law_224 (by decide) ?_
    refine lv_iadd hx hb dL_law_225 ?_
    refine lv_topi (fun z_27 ez_27 => ?_)
    have fz_27 : z_27 = 1 := ez_27.trans (by decide)
    clear ez_27
    subst fz_27
    refine va_sld hx hb hX hbl hbA hS (show ¬ ((1 : Int32) < 0 ∨ 6 ≤ (1 : Int32).toNatClampNeg) from by decide) dL_law_226 ?_
    have hPc := hP.sub (ws' := [(x, .inr (14, ((((((((zdef tyX12 13).set 0 (.ref (ux.1 0))).set 5 (.int (-1))).set 6 (.ref (ux.1 1))).set 7 (.ref (ux.1 2))).set 10 (.ref (ux.1 3))).set 11 (.ref (ux.1 4))).set 12 (.ref (ux.1 11)))))]) [0] rfl
    have hDc := hD.sub (ws' := [(x, .inr (14, ((((((((zdef tyX12 13).set 0 (.ref (ux.1 0))).set 5 (.int (-1))).set 6 (.ref (ux.1 1))).set 7 (.ref (ux.1 2))).set 10 (.ref (ux.1 3))).set 11 (.ref (ux.1 4))).set 12 (.ref (ux.1 11)))))]) [0] (by decide) rfl
    have hKc := hK.sub (tys' := []) [] rfl
    have hFc := va_free (wc := [(x, .inr (14, ((((((((zdef tyX12 13).set 0 (.ref (ux.1 0))).set 5 (.int (-1))).set 6 (.ref (ux.1 1))).set 7 (.ref (ux.1 2))).set 10 (.ref (ux.1 3))).set 11 (.ref (ux.1 4))).set 12 (.ref (ux.1 11)))))]) hD hS hA [0] rfl
    refine va_calli (va_runV (As := [.int (xs (1 : Int32).toNatClampNeg)]) (rest := []) ⟨hx, hb, hml, hown, hts⟩ (c_X12_type_none l dC dI H.size x ((((((((zdef tyX12 13).set 0 (.ref (ux.1 0))).set 5 (.int (-1))).set 6 (.ref (ux.1 1))).set 7 (.ref (ux.1 2))).set 10 (.ref (ux.1 3))).set 11 (.ref (ux.1 4))).set 12 (.ref (ux.1 11))) (xs (1 : Int32).toNatClampNeg) (zs_len (zs_len (zs_len (zs_len (zs_len (zs_len (zs_len (zdef_len _ _)))))))) (zs_ne (by decide) (zs_ne (by decide) (zs_ne (by decide) (zs_ne (by decide) (zs_ne (by decide) (zs_ne (by decide) (zs_ne (by decide) (zdef_get (by decide) rfl))))))))) (cwV 1 hts zgl_X12_type rfl rfl rfl (by decide +kernel) ⟨Nat.le_of_ble_eq_true rfl, Nat.le_of_ble_eq_true rfl⟩) ⟨zPc_blind, va_recv hKc hPc (ci := 14) (q0 := 0) rfl rfl, fun U hU hW => zPc_at hPc hKc hDc hU hW⟩ rfl rfl hl.1 rfl (lv_room (Nat.le_of_ble_eq_true rfl)) dL_law_227 ⟨Nat.le_of_ble_eq_true rfl, Nat.le_of_ble_eq_true rfl⟩) hS (fun q _ h => hFc q h) hFc (fun ra1 u t H1 locs ht hvm hw hB hz1 hk1 hS => ?_)
    obtain ⟨hP1, hK1, hD1⟩ := hB
    obtain ⟨hr1, hu1⟩ := hw
    subst hu1
    rw [ht] at hP1
    have hK1 := va_K.moved hvm.symm hK1
    obtain ⟨hP, hD⟩ := va_join (wr := [((ux.1 0), .inl ((ux.2 0), 2000, .inl (fun _ => 0))), ((ux.1 1), .inl ((ux.2 1), 128, .inl (fun _ => 0))), ((ux.1 11), .inr (5, (((((((zdef tyX3 18).set 2 (.ref (ux.1 12))).set 3 (.ref (ux.1 13))).set 4 (.ref (ux.1 14))).set 6 (.ref (ux.1 15))).set 7 (.ref (ux.1 16))).set 8 (.ref (ux.1 17))))), (y, .inr (15, (zput ((zdef tyX13 196).set 69 (.int (-1))) qs))), ((qs.getD 0 0), .inl ((cs.getD 0 0), 2000, .inl (fun _ => 0))), ((qs.getD 2 0), .inl ((cs.getD 2 0), 16000, .inl (fun _ => 0)))]) (w1 := [(x, .inr (14, ((((((((zdef tyX12 13).set 0 (.ref (ux.1 0))).set 5 (.int (-1))).set 6 (.ref (ux.1 1))).set 7 (.ref (ux.1 2))).set 10 (.ref (ux.1 3))).set 11 (.ref (ux.1 4))).set 12 (.ref (ux.1 11)))))]) hP hD [0] [1, 2, 3, 4, 5, 6] rfl rfl (by decide) (by decide) hk1 hFc hP1 hD1
    generalize H1 = H at hP hS ⊢
    have hP : va_P (dC, dI) vwCl [((ux.1 0), .inl ((ux.2 0), 2000, .inl (fun _ => 0))), ((ux.1 1), .inl ((ux.2 1), 128, .inl (fun _ => 0))), ((ux.1 11), .inr (5, (((((((zdef tyX3 18).set 2 (.ref (ux.1 12))).set 3 (.ref (ux.1 13))).set 4 (.ref (ux.1 14))).set 6 (.ref (ux.1 15))).set 7 (.ref (ux.1 16))).set 8 (.ref (ux.1 17))))), (y, .inr (15, (zput ((zdef tyX13 196).set 69 (.int (-1))) qs))), ((qs.getD 0 0), .inl ((cs.getD 0 0), 2000, .inl (fun _ => 0))), ((qs.getD 2 0), .inl ((cs.getD 2 0), 16000, .inl (fun _ => 0))), (x, .inr (14, ((((((((zdef tyX12 13).set 0 (.ref (ux.1 0))).set 5 (.int (-1))).set 6 (.ref (ux.1 1))).set 7 (.ref (ux.1 2))).set 10 (.ref (ux.1 3))).set 11 (.ref (ux.1 4))).set 12 (.ref (ux.1 11)))))] H := hP
    have hD : va_D (fun q : Nat => s.heap.size ≤ q) [((ux.1 0), .inl ((ux.2 0), 2000, .inl (fun _ => 0))), ((ux.1 1), .inl ((ux.2 1), 128, .inl (fun _ => 0))), ((ux.1 11), .inr (5, (((((((zdef tyX3 18).set 2 (.ref (ux.1 12))).set 3 (.ref (ux.1 13))).set 4 (.ref (ux.1 14))).set 6 (.ref (ux.1 15))).set 7 (.ref (ux.1 16))).set 8 (.ref (ux.1 17))))), (y, .inr (15, (zput ((zdef tyX13 196).set 69 (.int (-1))) qs))), ((qs.getD 0 0), .inl ((cs.getD 0 0), 2000, .inl (fun _ => 0))), ((qs.getD 2 0), .inl ((cs.getD 2 0), 16000, .inl (fun _ => 0))), (x, .inr (14, ((((((((zdef tyX12 13).set 0 (.ref (ux.1 0))).set 5 (.int (-1))).set 6 (.ref (ux.1 1))).set 7 (.ref (ux.1 2))).set 10 (.ref (ux.1 3))).set 11 (.ref (ux.1 4))).set 12 (.ref (ux.1 11)))))] := hD
    refine lv_aload_n hx hb dL_law_230 rfl (lv_at hl 1 rfl) ?_
    refine lv_aload_n hx hb dL_law_231 rfl (lv_at hl 3 rfl) ?_
    refine lv_iload_n hx hb dL_law_232 rfl (lv_at hl 0 rfl) ?_
    refine lv_iconst (v := 1) hx hb dL_law_233 (by decide) ?_
    refine lv_iadd hx hb dL_law_234 ?_
    refine lv_topi (fun z_28 ez_28 => ?_)
    have fz_28 : z_28 = 1 := ez_28.trans (by decide)
    clear ez_28
    subst fz_28
    refine va_sld hx hb hX hbl hbA hS (show ¬ ((1 : Int32) < 0 ∨ 6 ≤ (1 : Int32).toNatClampNeg) from by decide) dL_law_235 ?_
    have hPc := hP.sub (ws' := [(y, .inr (15, (zput ((zdef tyX13 196).set 69 (.int (-1))) qs)))]) [3] rfl
    have hDc := hD.sub (ws' := [(y, .inr (15, (zput ((zdef tyX13 196).set 69 (.int (-1))) qs)))]) [3] (by decide) rfl
    have hKc := hK.sub (tys' := []) [] rfl
    have hFc := va_free (wc := [(y, .inr (15, (zput ((zdef tyX13 196).set 69 (.int (-1))) qs)))]) hD hS hA [3] rfl
    refine va_calli (va_runV (As := [.int (xs (1 : Int32).toNatClampNeg)]) (rest := [.int ra1]) ⟨hx, hb, hml, hown, hts⟩ (c_X13_type_none l dC dI H.size y (zput ((zdef tyX13 196).set 69 (.int (-1))) qs) (xs (1 : Int32).toNatClampNeg) (zput_len (zs_len (zdef_len _ _))) (zput_oth hq (by decide) (zs_ne (by decide) (zdef_get (by decide) rfl)))) (cwV 1 hts zgl_X13_type rfl rfl rfl (by decide +kernel) ⟨Nat.le_of_ble_eq_true rfl, Nat.le_of_ble_eq_true rfl⟩) ⟨zPc_blind, va_recv hKc hPc (ci := 15) (q0 := 0) rfl rfl, fun U hU hW => zPc_at hPc hKc hDc hU hW⟩ rfl rfl hl.1 rfl (lv_room (Nat.le_of_ble_eq_true rfl)) dL_law_236 ⟨Nat.le_of_ble_eq_true rfl, Nat.le_of_ble_eq_true rfl⟩) hS (fun q _ h => hFc q h) hFc (fun ra2 u t H1 locs ht hvm hw hB hz1 hk1 hS => ?_)
    obtain ⟨hP1, hK1, hD1⟩ := hB
    obtain ⟨hr2, hu2⟩ := hw
    subst hu2
    rw [ht] at hP1
    have hK1 := va_K.moved hvm.symm hK1
    obtain ⟨hP, hD⟩ := va_join (wr := [((ux.1 0), .inl ((ux.2 0), 2000, .inl (fun _ => 0))), ((ux.1 1), .inl ((ux.2 1), 128, .inl (fun _ => 0))), ((ux.1 11), .inr (5, (((((((zdef tyX3 18).set 2 (.ref (ux.1 12))).set 3 (.ref (ux.1 13))).set 4 (.ref (ux.1 14))).set 6 (.ref (ux.1 15))).set 7 (.ref (ux.1 16))).set 8 (.ref (ux.1 17))))), ((qs.getD 0 0), .inl ((cs.getD 0 0), 2000, .inl (fun _ => 0))), ((qs.getD 2 0), .inl ((cs.getD 2 0), 16000, .inl (fun _ => 0))), (x, .inr (14, ((((((((zdef tyX12 13).set 0 (.ref (ux.1 0))).set 5 (.int (-1))).set 6 (.ref (ux.1 1))).set 7 (.ref (ux.1 2))).set 10 (.ref (ux.1 3))).set 11 (.ref (ux.1 4))).set 12 (.ref (ux.1 11)))))]) (w1 := [(y, .inr (15, (zput ((zdef tyX13 196).set 69 (.int (-1))) qs)))]) hP hD [3] [0, 1, 2, 4, 5, 6] rfl rfl (by decide) (by decide) hk1 hFc hP1 hD1
    generalize H1 = H at hP hS ⊢
    have hP : va_P (dC, dI) vwCl [((ux.1 0), .inl ((ux.2 0), 2000, .inl (fun _ => 0))), ((ux.1 1), .inl ((ux.2 1), 128, .inl (fun _ => 0))), ((ux.1 11), .inr (5, (((((((zdef tyX3 18).set 2 (.ref (ux.1 12))).set 3 (.ref (ux.1 13))).set 4 (.ref (ux.1 14))).set 6 (.ref (ux.1 15))).set 7 (.ref (ux.1 16))).set 8 (.ref (ux.1 17))))), ((qs.getD 0 0), .inl ((cs.getD 0 0), 2000, .inl (fun _ => 0))), ((qs.getD 2 0), .inl ((cs.getD 2 0), 16000, .inl (fun _ => 0))), (x, .inr (14, ((((((((zdef tyX12 13).set 0 (.ref (ux.1 0))).set 5 (.int (-1))).set 6 (.ref (ux.1 1))).set 7 (.ref (ux.1 2))).set 10 (.ref (ux.1 3))).set 11 (.ref (ux.1 4))).set 12 (.ref (ux.1 11))))), (y, .inr (15, (zput ((zdef tyX13 196).set 69 (.int (-1))) qs)))] H := hP
    have hD : va_D (fun q : Nat => s.heap.size ≤ q) [((ux.1 0), .inl ((ux.2 0), 2000, .inl (fun _ => 0))), ((ux.1 1), .inl ((ux.2 1), 128, .inl (fun _ => 0))), ((ux.1 11), .inr (5, (((((((zdef tyX3 18).set 2 (.ref (ux.1 12))).set 3 (.ref (ux.1 13))).set 4 (.ref (ux.1 14))).set 6 (.ref (ux.1 15))).set 7 (.ref (ux.1 16))).set 8 (.ref (ux.1 17))))), ((qs.getD 0 0), .inl ((cs.getD 0 0), 2000, .inl (fun _ => 0))), ((qs.getD 2 0), .inl ((cs.getD 2 0), 16000, .inl (fun _ => 0))), (x, .inr (14, ((((((((zdef tyX12 13).set 0 (.ref (ux.1 0))).set 5 (.int (-1))).set 6 (.ref (ux.1 1))).set 7 (.ref (ux.1 2))).set 10 (.ref (ux.1 3))).set 11 (.ref (ux.1 4))).set 12 (.ref (ux.1 11))))), (y, .inr (15, (zput ((zdef tyX13 196).set 69 (.int (-1))) qs)))] := hD
    refine lv_icmp_eq (tgt := 393) hx hb dL_law_239 (by decide) (fun c_10 => ?_) (fun c_10 => absurd (hr1.trans hr2.symm) c_10)
    refine lv_iinc (v := 6) (lv' := [(3, .int 6), (2, .ref y), (1, .ref x), (0, .ref b)]) hx hb dL_law_393 hl (k := 0) rfl (by decide) (by decide) rfl (fun ls hl => ?_)
    refine lv_goto (tgt := 18) hx hb dL_law_396 (by decide) ?_
    refine lv_iload_n hx hb dL_law_18 rfl (lv_at hl 0 rfl) ?_
    refine lv_aload_n hx hb dL_law_19 rfl (lv_at hl 3 rfl) ?_
    refine va_slen hx hb hX hbl hbA hS dL_law_20 ?_
    refine lv_topi (fun z_30 ez_30 => ?_)
    have fz_30 : z_30 = 6 := ez_30.trans (by decide)
    clear ez_30
    subst fz_30
    refine lv_bipush (v := 6) hx hb dL_law_21 (by decide) ?_
    refine lv_isub hx hb dL_law_23 ?_
    refine lv_topi (fun z_31 ez_31 => ?_)
    have fz_31 : z_31 = 0 := ez_31.trans (by decide)
    clear ez_31
    subst fz_31
    refine lv_icmp_gt (tgt := 399) hx hb dL_law_24 (by decide) (fun c_11 => ?_) (fun c_11 => absurd (by decide) c_11)
    refine lv_iconst (v := 1) hx hb dL_law_399 (by decide) ?_
    refine va_forget (fun q hq => hS.2.2 q hq) ?_
    refine W.widen (k := room_1.cells) (n := room_1.slots) (Nat.le_of_ble_eq_true rfl) (Nat.le_of_ble_eq_true rfl) ?_
    exact lw_ret hx hb hr hlocks dL_law_400
  · have fzo : zo = 6 := ezo
    clear ezo
    subst fzo
    refine lv_tableIn (off := 211) (tgt := 244) hx hb dL_law_33 (by decide) (by decide) (by decide) (by decide) ?_
    refine lv_aload_n hx hb dL_law_244 rfl (lv_at hl 2 rfl) ?_
    refine lv_aload_n hx hb dL_law_245 rfl (lv_at hl 3 rfl) ?_
    refine lv_iload_n hx hb dL_law_246 rfl (lv_at hl 0 rfl) ?_
    refine lv_iconst (v := 1) hx hb dL_law_247 (by decide) ?_
    refine lv_iadd hx hb dL_law_248 ?_
    refine lv_topi (fun z_32 ez_32 => ?_)
    have fz_32 : z_32 = 1 := ez_32.trans (by decide)
    clear ez_32
    subst fz_32
    refine va_sld hx hb hX hbl hbA hS (show ¬ ((1 : Int32) < 0 ∨ 6 ≤ (1 : Int32).toNatClampNeg) from by decide) dL_law_249 ?_
    have hPc := hP.sub (ws' := [(x, .inr (14, ((((((((zdef tyX12 13).set 0 (.ref (ux.1 0))).set 5 (.int (-1))).set 6 (.ref (ux.1 1))).set 7 (.ref (ux.1 2))).set 10 (.ref (ux.1 3))).set 11 (.ref (ux.1 4))).set 12 (.ref (ux.1 11))))), ((ux.1 1), .inl ((ux.2 1), 128, .inl (fun _ => 0)))]) [0, 2] rfl
    have hDc := hD.sub (ws' := [(x, .inr (14, ((((((((zdef tyX12 13).set 0 (.ref (ux.1 0))).set 5 (.int (-1))).set 6 (.ref (ux.1 1))).set 7 (.ref (ux.1 2))).set 10 (.ref (ux.1 3))).set 11 (.ref (ux.1 4))).set 12 (.ref (ux.1 11))))), ((ux.1 1), .inl ((ux.2 1), 128, .inl (fun _ => 0)))]) [0, 2] (by decide) rfl
    have hKc := hK.sub (tys' := [((ux.2 1), .byte)]) [1] rfl
    have hFc := va_free (wc := [(x, .inr (14, ((((((((zdef tyX12 13).set 0 (.ref (ux.1 0))).set 5 (.int (-1))).set 6 (.ref (ux.1 1))).set 7 (.ref (ux.1 2))).set 10 (.ref (ux.1 3))).set 11 (.ref (ux.1 4))).set 12 (.ref (ux.1 11))))), ((ux.1 1), .inl ((ux.2 1), 128, .inl (fun _ => 0)))]) hD hS hA [0, 2] rfl
    refine va_calli (va_runV (As := [.int (xs (1 : Int32).toNatClampNeg)]) (rest := []) ⟨hx, hb, hml, hown, hts⟩ (c_X12_out l dC dI H.size x (ux.1 1) (ux.2 1) ((((((((zdef tyX12 13).set 0 (.ref (ux.1 0))).set 5 (.int (-1))).set 6 (.ref (ux.1 1))).set 7 (.ref (ux.1 2))).set 10 (.ref (ux.1 3))).set 11 (.ref (ux.1 4))).set 12 (.ref (ux.1 11))) 0 128 (fun _ => 0) (xs (1 : Int32).toNatClampNeg) (zs_len (zs_len (zs_len (zs_len (zs_len (zs_len (zs_len (zdef_len _ _)))))))) (zs_ne (by decide) (zs_ne (by decide) (zs_ne (by decide) (zs_ne (by decide) (zs_ne (by decide) (zs_ne (by decide) (zs_ne (by decide) (zdef_get (by decide) rfl)))))))) (zs_ne (by decide) (zs_ne (by decide) (zs_ne (by decide) (zs_ne (by decide) (zs_eq (zs_lt (zs_len (zs_len (zdef_len _ _))) (by decide))))))) (by decide) (by decide)) (cwV 1 hts zgl_X12_out rfl rfl rfl (by decide +kernel) ⟨Nat.le_of_ble_eq_true rfl, Nat.le_of_ble_eq_true rfl⟩) ⟨zPc_blind, va_recv hKc hPc (ci := 14) (q0 := 0) rfl rfl, fun U hU hW => zPc_at hPc hKc hDc hU hW⟩ rfl rfl hl.1 rfl (lv_room (Nat.le_of_ble_eq_true rfl)) dL_law_250 ⟨Nat.le_of_ble_eq_true rfl, Nat.le_of_ble_eq_true rfl⟩) hS (fun q _ h => hFc q h) hFc (fun ra1 u t H1 locs ht hvm hw hB hz1 hk1 hS => ?_)
    obtain ⟨hP1, hK1, hD1⟩ := hB
    obtain ⟨hr1, hu1⟩ := hw
    subst hu1
    rw [ht] at hP1
    have hK1 := va_K.moved hvm.symm hK1
    obtain ⟨hP, hD⟩ := va_join (wr := [((ux.1 0), .inl ((ux.2 0), 2000, .inl (fun _ => 0))), ((ux.1 11), .inr (5, (((((((zdef tyX3 18).set 2 (.ref (ux.1 12))).set 3 (.ref (ux.1 13))).set 4 (.ref (ux.1 14))).set 6 (.ref (ux.1 15))).set 7 (.ref (ux.1 16))).set 8 (.ref (ux.1 17))))), (y, .inr (15, (zput ((zdef tyX13 196).set 69 (.int (-1))) qs))), ((qs.getD 0 0), .inl ((cs.getD 0 0), 2000, .inl (fun _ => 0))), ((qs.getD 2 0), .inl ((cs.getD 2 0), 16000, .inl (fun _ => 0)))]) (w1 := [(x, .inr (14, ((((((((zdef tyX12 13).set 0 (.ref (ux.1 0))).set 5 (.int (-1))).set 6 (.ref (ux.1 1))).set 7 (.ref (ux.1 2))).set 10 (.ref (ux.1 3))).set 11 (.ref (ux.1 4))).set 12 (.ref (ux.1 11))))), ((ux.1 1), .inl ((ux.2 1), 128, .inl (fun _ => 0)))]) hP hD [0, 2] [1, 3, 4, 5, 6] rfl rfl (by decide) (by decide) hk1 hFc hP1 hD1
    generalize H1 = H at hP hS ⊢
    have hP : va_P (dC, dI) vwCl [((ux.1 0), .inl ((ux.2 0), 2000, .inl (fun _ => 0))), ((ux.1 11), .inr (5, (((((((zdef tyX3 18).set 2 (.ref (ux.1 12))).set 3 (.ref (ux.1 13))).set 4 (.ref (ux.1 14))).set 6 (.ref (ux.1 15))).set 7 (.ref (ux.1 16))).set 8 (.ref (ux.1 17))))), (y, .inr (15, (zput ((zdef tyX13 196).set 69 (.int (-1))) qs))), ((qs.getD 0 0), .inl ((cs.getD 0 0), 2000, .inl (fun _ => 0))), ((qs.getD 2 0), .inl ((cs.getD 2 0), 16000, .inl (fun _ => 0))), (x, .inr (14, ((((((((zdef tyX12 13).set 0 (.ref (ux.1 0))).set 5 (.int (-1))).set 6 (.ref (ux.1 1))).set 7 (.ref (ux.1 2))).set 10 (.ref (ux.1 3))).set 11 (.ref (ux.1 4))).set 12 (.ref (ux.1 11))))), ((ux.1 1), .inl ((ux.2 1), 128, .inl (fun _ => 0)))] H := hP
    have hD : va_D (fun q : Nat => s.heap.size ≤ q) [((ux.1 0), .inl ((ux.2 0), 2000, .inl (fun _ => 0))), ((ux.1 11), .inr (5, (((((((zdef tyX3 18).set 2 (.ref (ux.1 12))).set 3 (.ref (ux.1 13))).set 4 (.ref (ux.1 14))).set 6 (.ref (ux.1 15))).set 7 (.ref (ux.1 16))).set 8 (.ref (ux.1 17))))), (y, .inr (15, (zput ((zdef tyX13 196).set 69 (.int (-1))) qs))), ((qs.getD 0 0), .inl ((cs.getD 0 0), 2000, .inl (fun _ => 0))), ((qs.getD 2 0), .inl ((cs.getD 2 0), 16000, .inl (fun _ => 0))), (x, .inr (14, ((((((((zdef tyX12 13).set 0 (.ref (ux.1 0))).set 5 (.int (-1))).set 6 (.ref (ux.1 1))).set 7 (.ref (ux.1 2))).set 10 (.ref (ux.1 3))).set 11 (.ref (ux.1 4))).set 12 (.ref (ux.1 11))))), ((ux.1 1), .inl ((ux.2 1), 128, .inl (fun _ => 0)))] := hD
    refine lv_aload_n hx hb dL_law_253 rfl (lv_at hl 1 rfl) ?_
    refine lv_aload_n hx hb dL_law_254 rfl (lv_at hl 3 rfl) ?_
    refine lv_iload_n hx hb dL_law_255 rfl (lv_at hl 0 rfl) ?_
    refine lv_iconst (v := 1) hx hb dL_law_256 (by decide) ?_
    refine lv_iadd hx hb dL_law_257 ?_
    refine lv_topi (fun z_33 ez_33 => ?_)
    have fz_33 : z_33 = 1 := ez_33.trans (by decide)
    clear ez_33
    subst fz_33
    refine va_sld hx hb hX hbl hbA hS (show ¬ ((1 : Int32) < 0 ∨ 6 ≤ (1 : Int32).toNatClampNeg) from by decide) dL_law_258 ?_
    have hPc := hP.sub (ws' := [(y, .inr (15, (zput ((zdef tyX13 196).set 69 (.int (-1))) qs))), ((qs.getD 2 0), .inl ((cs.getD 2 0), 16000, .inl (fun _ => 0)))]) [2, 4] rfl
    have hDc := hD.sub (ws' := [(y, .inr (15, (zput ((zdef tyX13 196).set 69 (.int (-1))) qs))), ((qs.getD 2 0), .inl ((cs.getD 2 0), 16000, .inl (fun _ => 0)))]) [2, 4] (by decide) rfl
    have hKc := hK.sub (tys' := [((cs.getD 2 0), .byte)]) [3] rfl
    have hFc := va_free (wc := [(y, .inr (15, (zput ((zdef tyX13 196).set 69 (.int (-1))) qs))), ((qs.getD 2 0), .inl ((cs.getD 2 0), 16000, .inl (fun _ => 0)))]) hD hS hA [2, 4] rfl
    refine va_calli (va_runV (As := [.int (xs (1 : Int32).toNatClampNeg)]) (rest := [.int ra1]) ⟨hx, hb, hml, hown, hts⟩ (c_X13_out l dC dI H.size y (qs.getD 2 0) (cs.getD 2 0) (zput ((zdef tyX13 196).set 69 (.int (-1))) qs) 0 16000 (fun _ => 0) (xs (1 : Int32).toNatClampNeg) (zput_len (zs_len (zdef_len _ _))) (zput_oth hq (by decide) (zs_ne (by decide) (zdef_get (by decide) rfl))) (zput_row hq (by decide) rfl (by decide) (zs_lt (zs_len (zdef_len _ _)) (by decide))) (by decide) (by decide)) (cwV 1 hts zgl_X13_out rfl rfl rfl (by decide +kernel) ⟨Nat.le_of_ble_eq_true rfl, Nat.le_of_ble_eq_true rfl⟩) ⟨zPc_blind, va_recv hKc hPc (ci := 15) (q0 := 0) rfl rfl, fun U hU hW => zPc_at hPc hKc hDc hU hW⟩ rfl rfl hl.1 rfl (lv_room (Nat.le_of_ble_eq_true rfl)) dL_law_259 ⟨Nat.le_of_ble_eq_true rfl, Nat.le_of_ble_eq_true rfl⟩) hS (fun q _ h => hFc q h) hFc (fun ra2 u t H1 locs ht hvm hw hB hz1 hk1 hS => ?_)
    obtain ⟨hP1, hK1, hD1⟩ := hB
    obtain ⟨hr2, hu2⟩ := hw
    subst hu2
    rw [ht] at hP1
    have hK1 := va_K.moved hvm.symm hK1
    obtain ⟨hP, hD⟩ := va_join (wr := [((ux.1 0), .inl ((ux.2 0), 2000, .inl (fun _ => 0))), ((ux.1 11), .inr (5, (((((((zdef tyX3 18).set 2 (.ref (ux.1 12))).set 3 (.ref (ux.1 13))).set 4 (.ref (ux.1 14))).set 6 (.ref (ux.1 15))).set 7 (.ref (ux.1 16))).set 8 (.ref (ux.1 17))))), ((qs.getD 0 0), .inl ((cs.getD 0 0), 2000, .inl (fun _ => 0))), (x, .inr (14, ((((((((zdef tyX12 13).set 0 (.ref (ux.1 0))).set 5 (.int (-1))).set 6 (.ref (ux.1 1))).set 7 (.ref (ux.1 2))).set 10 (.ref (ux.1 3))).set 11 (.ref (ux.1 4))).set 12 (.ref (ux.1 11))))), ((ux.1 1), .inl ((ux.2 1), 128, .inl (fun _ => 0)))]) (w1 := [(y, .inr (15, (zput ((zdef tyX13 196).set 69 (.int (-1))) qs))), ((qs.getD 2 0), .inl ((cs.getD 2 0), 16000, .inl (fun _ => 0)))]) hP hD [2, 4] [0, 1, 3, 5, 6] rfl rfl (by decide) (by decide) hk1 hFc hP1 hD1
    generalize H1 = H at hP hS ⊢
    have hP : va_P (dC, dI) vwCl [((ux.1 0), .inl ((ux.2 0), 2000, .inl (fun _ => 0))), ((ux.1 11), .inr (5, (((((((zdef tyX3 18).set 2 (.ref (ux.1 12))).set 3 (.ref (ux.1 13))).set 4 (.ref (ux.1 14))).set 6 (.ref (ux.1 15))).set 7 (.ref (ux.1 16))).set 8 (.ref (ux.1 17))))), ((qs.getD 0 0), .inl ((cs.getD 0 0), 2000, .inl (fun _ => 0))), (x, .inr (14, ((((((((zdef tyX12 13).set 0 (.ref (ux.1 0))).set 5 (.int (-1))).set 6 (.ref (ux.1 1))).set 7 (.ref (ux.1 2))).set 10 (.ref (ux.1 3))).set 11 (.ref (ux.1 4))).set 12 (.ref (ux.1 11))))), ((ux.1 1), .inl ((ux.2 1), 128, .inl (fun _ => 0))), (y, .inr (15, (zput ((zdef tyX13 196).set 69 (.int (-1))) qs))), ((qs.getD 2 0), .inl ((cs.getD 2 0), 16000, .inl (fun _ => 0)))] H := hP
    have hD : va_D (fun q : Nat => s.heap.size ≤ q) [((ux.1 0), .inl ((ux.2 0), 2000, .inl (fun _ => 0))), ((ux.1 11), .inr (5, (((((((zdef tyX3 18).set 2 (.ref (ux.1 12))).set 3 (.ref (ux.1 13))).set 4 (.ref (ux.1 14))).set 6 (.ref (ux.1 15))).set 7 (.ref (ux.1 16))).set 8 (.ref (ux.1 17))))), ((qs.getD 0 0), .inl ((cs.getD 0 0), 2000, .inl (fun _ => 0))), (x, .inr (14, ((((((((zdef tyX12 13).set 0 (.ref (ux.1 0))).set 5 (.int (-1))).set 6 (.ref (ux.1 1))).set 7 (.ref (ux.1 2))).set 10 (.ref (ux.1 3))).set 11 (.ref (ux.1 4))).set 12 (.ref (ux.1 11))))), ((ux.1 1), .inl ((ux.2 1), 128, .inl (fun _ => 0))), (y, .inr (15, (zput ((zdef tyX13 196).set 69 (.int (-1))) qs))), ((qs.getD 2 0), .inl ((cs.getD 2 0), 16000, .inl (fun _ => 0)))] := hD
    refine lv_icmp_eq (tgt := 393) hx hb dL_law_262 (by decide) (fun c_12 => ?_) (fun c_12 => absurd (hr1.trans hr2.symm) c_12)
    refine lv_iinc (v := 6) (lv' := [(3, .int 6), (2, .ref y), (1, .ref x), (0, .ref b)]) hx hb dL_law_393 hl (k := 0) rfl (by decide) (by decide) rfl (fun ls hl => ?_)
    refine lv_goto (tgt := 18) hx hb dL_law_396 (by decide) ?_
    refine lv_iload_n hx hb dL_law_18 rfl (lv_at hl 0 rfl) ?_
    refine lv_aload_n hx hb dL_law_19 rfl (lv_at hl 3 rfl) ?_
    refine va_slen hx hb hX hbl hbA hS dL_law_20 ?_
    refine lv_topi (fun z_35 ez_35 => ?_)
    have fz_35 : z_35 = 6 := ez_35.trans (by decide)
    clear ez_35
    subst fz_35
    refine lv_bipush (v := 6) hx hb dL_law_21 (by decide) ?_
    refine lv_isub hx hb dL_law_23 ?_
    refine lv_topi (fun z_36 ez_36 => ?_)
    have fz_36 : z_36 = 0 := ez_36.trans (by decide)
    clear ez_36
    subst fz_36
    refine lv_icmp_gt (tgt := 399) hx hb dL_law_24 (by decide) (fun c_13 => ?_) (fun c_13 => absurd (by decide) c_13)
    refine lv_iconst (v := 1) hx hb dL_law_399 (by decide) ?_
    refine va_forget (fun q hq => hS.2.2 q hq) ?_
    refine W.widen (k := room_1.cells) (n := room_1.slots) (Nat.le_of_ble_eq_true rfl) (Nat.le_of_ble_eq_true rfl) ?_
    exact lw_ret hx hb hr hlocks dL_law_400
  · have fzo : zo = 7 := ezo
    clear ezo
    subst fzo
    refine lv_tableIn (off := 234) (tgt := 267) hx hb dL_law_33 (by decide) (by decide) (by decide) (by decide) ?_
    refine lv_aload_n hx hb dL_law_267 rfl (lv_at hl 2 rfl) ?_
    refine lv_aload_n hx hb dL_law_268 rfl (lv_at hl 3 rfl) ?_
    refine lv_iload_n hx hb dL_law_269 rfl (lv_at hl 0 rfl) ?_
    refine lv_iconst (v := 1) hx hb dL_law_270 (by decide) ?_
    refine lv_iadd hx hb dL_law_271 ?_
    refine lv_topi (fun z_37 ez_37 => ?_)
    have fz_37 : z_37 = 1 := ez_37.trans (by decide)
    clear ez_37
    subst fz_37
    refine va_sld hx hb hX hbl hbA hS (show ¬ ((1 : Int32) < 0 ∨ 6 ≤ (1 : Int32).toNatClampNeg) from by decide) dL_law_272 ?_
    refine lv_aload_n hx hb dL_law_273 rfl (lv_at hl 3 rfl) ?_
    refine lv_iload_n hx hb dL_law_274 rfl (lv_at hl 0 rfl) ?_
    refine lv_iconst (v := 2) hx hb dL_law_275 (by decide) ?_
    refine lv_iadd hx hb dL_law_276 ?_
    refine lv_topi (fun z_38 ez_38 => ?_)
    have fz_38 : z_38 = 2 := ez_38.trans (by decide)
    clear ez_38
    subst fz_38
    refine va_sld hx hb hX hbl hbA hS (show ¬ ((2 : Int32) < 0 ∨ 6 ≤ (2 : Int32).toNatClampNeg) from by decide) dL_law_277 ?_
    have hPc := hP.sub (ws' := [(x, .inr (14, ((((((((zdef tyX12 13).set 0 (.ref (ux.1 0))).set 5 (.int (-1))).set 6 (.ref (ux.1 1))).set 7 (.ref (ux.1 2))).set 10 (.ref (ux.1 3))).set 11 (.ref (ux.1 4))).set 12 (.ref (ux.1 11)))))]) [0] rfl
    have hDc := hD.sub (ws' := [(x, .inr (14, ((((((((zdef tyX12 13).set 0 (.ref (ux.1 0))).set 5 (.int (-1))).set 6 (.ref (ux.1 1))).set 7 (.ref (ux.1 2))).set 10 (.ref (ux.1 3))).set 11 (.ref (ux.1 4))).set 12 (.ref (ux.1 11)))))]) [0] (by decide) rfl
    have hKc := hK.sub (tys' := []) [] rfl
    have hFc := va_free (wc := [(x, .inr (14, ((((((((zdef tyX12 13).set 0 (.ref (ux.1 0))).set 5 (.int (-1))).set 6 (.ref (ux.1 1))).set 7 (.ref (ux.1 2))).set 10 (.ref (ux.1 3))).set 11 (.ref (ux.1 4))).set 12 (.ref (ux.1 11)))))]) hD hS hA [0] rfl
    refine va_calli (va_runV (As := [.int (xs (1 : Int32).toNatClampNeg), .int (xs (2 : Int32).toNatClampNeg)]) (rest := []) ⟨hx, hb, hml, hown, hts⟩ (c_X12_give_none l dC dI H.size x ((((((((zdef tyX12 13).set 0 (.ref (ux.1 0))).set 5 (.int (-1))).set 6 (.ref (ux.1 1))).set 7 (.ref (ux.1 2))).set 10 (.ref (ux.1 3))).set 11 (.ref (ux.1 4))).set 12 (.ref (ux.1 11))) (xs (1 : Int32).toNatClampNeg) (xs (2 : Int32).toNatClampNeg) (zs_len (zs_len (zs_len (zs_len (zs_len (zs_len (zs_len (zdef_len _ _)))))))) (zs_ne (by decide) (zs_ne (by decide) (zs_ne (by decide) (zs_ne (by decide) (zs_ne (by decide) (zs_ne (by decide) (zs_ne (by decide) (zdef_get (by decide) rfl))))))))) (cwV 2 hts zgl_X12_give rfl rfl rfl (by decide +kernel) ⟨Nat.le_of_ble_eq_true rfl, Nat.le_of_ble_eq_true rfl⟩) ⟨zPc_blind, va_recv hKc hPc (ci := 14) (q0 := 0) rfl rfl, fun U hU hW => zPc_at hPc hKc hDc hU hW⟩ rfl rfl hl.1 rfl (lv_room (Nat.le_of_ble_eq_true rfl)) dL_law_278 ⟨Nat.le_of_ble_eq_true rfl, Nat.le_of_ble_eq_true rfl⟩) hS (fun q _ h => hFc q h) hFc (fun ra1 u t H1 locs ht hvm hw hB hz1 hk1 hS => ?_)
    obtain ⟨hP1, hK1, hD1⟩ := hB
    obtain ⟨hr1, hu1⟩ := hw
    subst hu1
    rw [ht] at hP1
    have hK1 := va_K.moved hvm.symm hK1
    obtain ⟨hP, hD⟩ := va_join (wr := [((ux.1 0), .inl ((ux.2 0), 2000, .inl (fun _ => 0))), ((ux.1 1), .inl ((ux.2 1), 128, .inl (fun _ => 0))), ((ux.1 11), .inr (5, (((((((zdef tyX3 18).set 2 (.ref (ux.1 12))).set 3 (.ref (ux.1 13))).set 4 (.ref (ux.1 14))).set 6 (.ref (ux.1 15))).set 7 (.ref (ux.1 16))).set 8 (.ref (ux.1 17))))), (y, .inr (15, (zput ((zdef tyX13 196).set 69 (.int (-1))) qs))), ((qs.getD 0 0), .inl ((cs.getD 0 0), 2000, .inl (fun _ => 0))), ((qs.getD 2 0), .inl ((cs.getD 2 0), 16000, .inl (fun _ => 0)))]) (w1 := [(x, .inr (14, ((((((((zdef tyX12 13).set 0 (.ref (ux.1 0))).set 5 (.int (-1))).set 6 (.ref (ux.1 1))).set 7 (.ref (ux.1 2))).set 10 (.ref (ux.1 3))).set 11 (.ref (ux.1 4))).set 12 (.ref (ux.1 11)))))]) hP hD [0] [1, 2, 3, 4, 5, 6] rfl rfl (by decide) (by decide) hk1 hFc hP1 hD1
    generalize H1 = H at hP hS ⊢
    have hP : va_P (dC, dI) vwCl [((ux.1 0), .inl ((ux.2 0), 2000, .inl (fun _ => 0))), ((ux.1 1), .inl ((ux.2 1), 128, .inl (fun _ => 0))), ((ux.1 11), .inr (5, (((((((zdef tyX3 18).set 2 (.ref (ux.1 12))).set 3 (.ref (ux.1 13))).set 4 (.ref (ux.1 14))).set 6 (.ref (ux.1 15))).set 7 (.ref (ux.1 16))).set 8 (.ref (ux.1 17))))), (y, .inr (15, (zput ((zdef tyX13 196).set 69 (.int (-1))) qs))), ((qs.getD 0 0), .inl ((cs.getD 0 0), 2000, .inl (fun _ => 0))), ((qs.getD 2 0), .inl ((cs.getD 2 0), 16000, .inl (fun _ => 0))), (x, .inr (14, ((((((((zdef tyX12 13).set 0 (.ref (ux.1 0))).set 5 (.int (-1))).set 6 (.ref (ux.1 1))).set 7 (.ref (ux.1 2))).set 10 (.ref (ux.1 3))).set 11 (.ref (ux.1 4))).set 12 (.ref (ux.1 11)))))] H := hP
    have hD : va_D (fun q : Nat => s.heap.size ≤ q) [((ux.1 0), .inl ((ux.2 0), 2000, .inl (fun _ => 0))), ((ux.1 1), .inl ((ux.2 1), 128, .inl (fun _ => 0))), ((ux.1 11), .inr (5, (((((((zdef tyX3 18).set 2 (.ref (ux.1 12))).set 3 (.ref (ux.1 13))).set 4 (.ref (ux.1 14))).set 6 (.ref (ux.1 15))).set 7 (.ref (ux.1 16))).set 8 (.ref (ux.1 17))))), (y, .inr (15, (zput ((zdef tyX13 196).set 69 (.int (-1))) qs))), ((qs.getD 0 0), .inl ((cs.getD 0 0), 2000, .inl (fun _ => 0))), ((qs.getD 2 0), .inl ((cs.getD 2 0), 16000, .inl (fun _ => 0))), (x, .inr (14, ((((((((zdef tyX12 13).set 0 (.ref (ux.1 0))).set 5 (.int (-1))).set 6 (.ref (ux.1 1))).set 7 (.ref (ux.1 2))).set 10 (.ref (ux.1 3))).set 11 (.ref (ux.1 4))).set 12 (.ref (ux.1 11)))))] := hD
    refine lv_aload_n hx hb dL_law_281 rfl (lv_at hl 1 rfl) ?_
    refine lv_aload_n hx hb dL_law_282 rfl (lv_at hl 3 rfl) ?_
    refine lv_iload_n hx hb dL_law_283 rfl (lv_at hl 0 rfl) ?_
    refine lv_iconst (v := 1) hx hb dL_law_284 (by decide) ?_
    refine lv_iadd hx hb dL_law_285 ?_
    refine lv_topi (fun z_39 ez_39 => ?_)
    have fz_39 : z_39 = 1 := ez_39.trans (by decide)
    clear ez_39
    subst fz_39
    refine va_sld hx hb hX hbl hbA hS (show ¬ ((1 : Int32) < 0 ∨ 6 ≤ (1 : Int32).toNatClampNeg) from by decide) dL_law_286 ?_
    refine lv_aload_n hx hb dL_law_287 rfl (lv_at hl 3 rfl) ?_
    refine lv_iload_n hx hb dL_law_288 rfl (lv_at hl 0 rfl) ?_
    refine lv_iconst (v := 2) hx hb dL_law_289 (by decide) ?_
    refine lv_iadd hx hb dL_law_290 ?_
    refine lv_topi (fun z_40 ez_40 => ?_)
    have fz_40 : z_40 = 2 := ez_40.trans (by decide)
    clear ez_40
    subst fz_40
    refine va_sld hx hb hX hbl hbA hS (show ¬ ((2 : Int32) < 0 ∨ 6 ≤ (2 : Int32).toNatClampNeg) from by decide) dL_law_291 ?_
    have hPc := hP.sub (ws' := [(y, .inr (15, (zput ((zdef tyX13 196).set 69 (.int (-1))) qs)))]) [3] rfl
    have hDc := hD.sub (ws' := [(y, .inr (15, (zput ((zdef tyX13 196).set 69 (.int (-1))) qs)))]) [3] (by decide) rfl
    have hKc := hK.sub (tys' := []) [] rfl
    have hFc := va_free (wc := [(y, .inr (15, (zput ((zdef tyX13 196).set 69 (.int (-1))) qs)))]) hD hS hA [3] rfl
    refine va_calli (va_runV (As := [.int (xs (1 : Int32).toNatClampNeg), .int (xs (2 : Int32).toNatClampNeg)]) (rest := [.int ra1]) ⟨hx, hb, hml, hown, hts⟩ (c_X13_give_none l dC dI H.size y (zput ((zdef tyX13 196).set 69 (.int (-1))) qs) (xs (1 : Int32).toNatClampNeg) (xs (2 : Int32).toNatClampNeg) (zput_len (zs_len (zdef_len _ _))) (zput_oth hq (by decide) (zs_ne (by decide) (zdef_get (by decide) rfl)))) (cwV 2 hts zgl_X13_give rfl rfl rfl (by decide +kernel) ⟨Nat.le_of_ble_eq_true rfl, Nat.le_of_ble_eq_true rfl⟩) ⟨zPc_blind, va_recv hKc hPc (ci := 15) (q0 := 0) rfl rfl, fun U hU hW => zPc_at hPc hKc hDc hU hW⟩ rfl rfl hl.1 rfl (lv_room (Nat.le_of_ble_eq_true rfl)) dL_law_292 ⟨Nat.le_of_ble_eq_true rfl, Nat.le_of_ble_eq_true rfl⟩) hS (fun q _ h => hFc q h) hFc (fun ra2 u t H1 locs ht hvm hw hB hz1 hk1 hS => ?_)
    obtain ⟨hP1, hK1, hD1⟩ := hB
    obtain ⟨hr2, hu2⟩ := hw
    subst hu2
    rw [ht] at hP1
    have hK1 := va_K.moved hvm.symm hK1
    obtain ⟨hP, hD⟩ := va_join (wr := [((ux.1 0), .inl ((ux.2 0), 2000, .inl (fun _ => 0))), ((ux.1 1), .inl ((ux.2 1), 128, .inl (fun _ => 0))), ((ux.1 11), .inr (5, (((((((zdef tyX3 18).set 2 (.ref (ux.1 12))).set 3 (.ref (ux.1 13))).set 4 (.ref (ux.1 14))).set 6 (.ref (ux.1 15))).set 7 (.ref (ux.1 16))).set 8 (.ref (ux.1 17))))), ((qs.getD 0 0), .inl ((cs.getD 0 0), 2000, .inl (fun _ => 0))), ((qs.getD 2 0), .inl ((cs.getD 2 0), 16000, .inl (fun _ => 0))), (x, .inr (14, ((((((((zdef tyX12 13).set 0 (.ref (ux.1 0))).set 5 (.int (-1))).set 6 (.ref (ux.1 1))).set 7 (.ref (ux.1 2))).set 10 (.ref (ux.1 3))).set 11 (.ref (ux.1 4))).set 12 (.ref (ux.1 11)))))]) (w1 := [(y, .inr (15, (zput ((zdef tyX13 196).set 69 (.int (-1))) qs)))]) hP hD [3] [0, 1, 2, 4, 5, 6] rfl rfl (by decide) (by decide) hk1 hFc hP1 hD1
    generalize H1 = H at hP hS ⊢
    have hP : va_P (dC, dI) vwCl [((ux.1 0), .inl ((ux.2 0), 2000, .inl (fun _ => 0))), ((ux.1 1), .inl ((ux.2 1), 128, .inl (fun _ => 0))), ((ux.1 11), .inr (5, (((((((zdef tyX3 18).set 2 (.ref (ux.1 12))).set 3 (.ref (ux.1 13))).set 4 (.ref (ux.1 14))).set 6 (.ref (ux.1 15))).set 7 (.ref (ux.1 16))).set 8 (.ref (ux.1 17))))), ((qs.getD 0 0), .inl ((cs.getD 0 0), 2000, .inl (fun _ => 0))), ((qs.getD 2 0), .inl ((cs.getD 2 0), 16000, .inl (fun _ => 0))), (x, .inr (14, ((((((((zdef tyX12 13).set 0 (.ref (ux.1 0))).set 5 (.int (-1))).set 6 (.ref (ux.1 1))).set 7 (.ref (ux.1 2))).set 10 (.ref (ux.1 3))).set 11 (.ref (ux.1 4))).set 12 (.ref (ux.1 11))))), (y, .inr (15, (zput ((zdef tyX13 196).set 69 (.int (-1))) qs)))] H := hP
    have hD : va_D (fun q : Nat => s.heap.size ≤ q) [((ux.1 0), .inl ((ux.2 0), 2000, .inl (fun _ => 0))), ((ux.1 1), .inl ((ux.2 1), 128, .inl (fun _ => 0))), ((ux.1 11), .inr (5, (((((((zdef tyX3 18).set 2 (.ref (ux.1 12))).set 3 (.ref (ux.1 13))).set 4 (.ref (ux.1 14))).set 6 (.ref (ux.1 15))).set 7 (.ref (ux.1 16))).set 8 (.ref (ux.1 17))))), ((qs.getD 0 0), .inl ((cs.getD 0 0), 2000, .inl (fun _ => 0))), ((qs.getD 2 0), .inl ((cs.getD 2 0), 16000, .inl (fun _ => 0))), (x, .inr (14, ((((((((zdef tyX12 13).set 0 (.ref (ux.1 0))).set 5 (.int (-1))).set 6 (.ref (ux.1 1))).set 7 (.ref (ux.1 2))).set 10 (.ref (ux.1 3))).set 11 (.ref (ux.1 4))).set 12 (.ref (ux.1 11))))), (y, .inr (15, (zput ((zdef tyX13 196).set 69 (.int (-1))) qs)))] := hD
    refine lv_icmp_eq (tgt := 393) hx hb dL_law_295 (by decide) (fun c_14 => ?_) (fun c_14 => absurd (hr1.trans hr2.symm) c_14)
    refine lv_iinc (v := 6) (lv' := [(3, .int 6), (2, .ref y), (1, .ref x), (0, .ref b)]) hx hb dL_law_393 hl (k := 0) rfl (by decide) (by decide) rfl (fun ls hl => ?_)
    refine lv_goto (tgt := 18) hx hb dL_law_396 (by decide) ?_
    refine lv_iload_n hx hb dL_law_18 rfl (lv_at hl 0 rfl) ?_
    refine lv_aload_n hx hb dL_law_19 rfl (lv_at hl 3 rfl) ?_
    refine va_slen hx hb hX hbl hbA hS dL_law_20 ?_
    refine lv_topi (fun z_42 ez_42 => ?_)
    have fz_42 : z_42 = 6 := ez_42.trans (by decide)
    clear ez_42
    subst fz_42
    refine lv_bipush (v := 6) hx hb dL_law_21 (by decide) ?_
    refine lv_isub hx hb dL_law_23 ?_
    refine lv_topi (fun z_43 ez_43 => ?_)
    have fz_43 : z_43 = 0 := ez_43.trans (by decide)
    clear ez_43
    subst fz_43
    refine lv_icmp_gt (tgt := 399) hx hb dL_law_24 (by decide) (fun c_15 => ?_) (fun c_15 => absurd (by decide) c_15)
    refine lv_iconst (v := 1) hx hb dL_law_399 (by decide) ?_
    refine va_forget (fun q hq => hS.2.2 q hq) ?_
    refine W.widen (k := room_1.cells) (n := room_1.slots) (Nat.le_of_ble_eq_true rfl) (Nat.le_of_ble_eq_true rfl) ?_
    exact lw_ret hx hb hr hlocks dL_law_400
  · have fzo : zo = 8 := ezo
    clear ezo
    subst fzo
    refine lv_tableIn (off := 267) (tgt := 300) hx hb dL_law_33 (by decide) (by decide) (by decide) (by decide) ?_
    refine lv_aload_n hx hb dL_law_300 rfl (lv_at hl 2 rfl) ?_
    refine lv_aload_n hx hb dL_law_301 rfl (lv_at hl 3 rfl) ?_
    refine lv_iload_n hx hb dL_law_302 rfl (lv_at hl 0 rfl) ?_
    refine lv_iconst (v := 1) hx hb dL_law_303 (by decide) ?_
    refine lv_iadd hx hb dL_law_304 ?_
    refine lv_topi (fun z_44 ez_44 => ?_)
    have fz_44 : z_44 = 1 := ez_44.trans (by decide)
    clear ez_44
    subst fz_44
    refine va_sld hx hb hX hbl hbA hS (show ¬ ((1 : Int32) < 0 ∨ 6 ≤ (1 : Int32).toNatClampNeg) from by decide) dL_law_305 ?_
    refine lv_aload_n hx hb dL_law_306 rfl (lv_at hl 3 rfl) ?_
    refine lv_iload_n hx hb dL_law_307 rfl (lv_at hl 0 rfl) ?_
    refine lv_iconst (v := 2) hx hb dL_law_308 (by decide) ?_
    refine lv_iadd hx hb dL_law_309 ?_
    refine lv_topi (fun z_45 ez_45 => ?_)
    have fz_45 : z_45 = 2 := ez_45.trans (by decide)
    clear ez_45
    subst fz_45
    refine va_sld hx hb hX hbl hbA hS (show ¬ ((2 : Int32) < 0 ∨ 6 ≤ (2 : Int32).toNatClampNeg) from by decide) dL_law_310 ?_
    refine lv_aload_n hx hb dL_law_311 rfl (lv_at hl 3 rfl) ?_
    refine lv_iload_n hx hb dL_law_312 rfl (lv_at hl 0 rfl) ?_
    refine lv_iconst (v := 3) hx hb dL_law_313 (by decide) ?_
    refine lv_iadd hx hb dL_law_314 ?_
    refine lv_topi (fun z_46 ez_46 => ?_)
    have fz_46 : z_46 = 3 := ez_46.trans (by decide)
    clear ez_46
    subst fz_46
    refine va_sld hx hb hX hbl hbA hS (show ¬ ((3 : Int32) < 0 ∨ 6 ≤ (3 : Int32).toNatClampNeg) from by decide) dL_law_315 ?_
    have hPc := hP.sub (ws' := [(x, .inr (14, ((((((((zdef tyX12 13).set 0 (.ref (ux.1 0))).set 5 (.int (-1))).set 6 (.ref (ux.1 1))).set 7 (.ref (ux.1 2))).set 10 (.ref (ux.1 3))).set 11 (.ref (ux.1 4))).set 12 (.ref (ux.1 11)))))]) [0] rfl
    have hDc := hD.sub (ws' := [(x, .inr (14, ((((((((zdef tyX12 13).set 0 (.ref (ux.1 0))).set 5 (.int (-1))).set 6 (.ref (ux.1 1))).set 7 (.ref (ux.1 2))).set 10 (.ref (ux.1 3))).set 11 (.ref (ux.1 4))).set 12 (.ref (ux.1 11)))))]) [0] (by decide) rfl
    have hKc := hK.sub (tys' := []) [] rfl
    have hFc := va_free (wc := [(x, .inr (14, ((((((((zdef tyX12 13).set 0 (.ref (ux.1 0))).set 5 (.int (-1))).set 6 (.ref (ux.1 1))).set 7 (.ref (ux.1 2))).set 10 (.ref (ux.1 3))).set 11 (.ref (ux.1 4))).set 12 (.ref (ux.1 11)))))]) hD hS hA [0] rfl
    refine va_calli (va_runV (As := [.int (xs (1 : Int32).toNatClampNeg), .int (xs (2 : Int32).toNatClampNeg), .int (xs (3 : Int32).toNatClampNeg)]) (rest := []) ⟨hx, hb, hml, hown, hts⟩ (c_X12_element_none l dC dI H.size x ((((((((zdef tyX12 13).set 0 (.ref (ux.1 0))).set 5 (.int (-1))).set 6 (.ref (ux.1 1))).set 7 (.ref (ux.1 2))).set 10 (.ref (ux.1 3))).set 11 (.ref (ux.1 4))).set 12 (.ref (ux.1 11))) (xs (1 : Int32).toNatClampNeg) (xs (2 : Int32).toNatClampNeg) (xs (3 : Int32).toNatClampNeg) (zs_len (zs_len (zs_len (zs_len (zs_len (zs_len (zs_len (zdef_len _ _)))))))) (zs_ne (by decide) (zs_ne (by decide) (zs_ne (by decide) (zs_ne (by decide) (zs_ne (by decide) (zs_ne (by decide) (zs_ne (by decide) (zdef_get (by decide) rfl))))))))) (cwV 3 hts zgl_X12_element rfl rfl rfl (by decide +kernel) ⟨Nat.le_of_ble_eq_true rfl, Nat.le_of_ble_eq_true rfl⟩) ⟨zPc_blind, va_recv hKc hPc (ci := 14) (q0 := 0) rfl rfl, fun U hU hW => zPc_at hPc hKc hDc hU hW⟩ rfl rfl hl.1 rfl (lv_room (Nat.le_of_ble_eq_true rfl)) dL_law_316 ⟨Nat.le_of_ble_eq_true rfl, Nat.le_of_ble_eq_true rfl⟩) hS (fun q _ h => hFc q h) hFc (fun ra1 u t H1 locs ht hvm hw hB hz1 hk1 hS => ?_)
    obtain ⟨hP1, hK1, hD1⟩ := hB
    obtain ⟨hr1, hu1⟩ := hw
    subst hu1
    rw [ht] at hP1
    have hK1 := va_K.moved hvm.symm hK1
    obtain ⟨hP, hD⟩ := va_join (wr := [((ux.1 0), .inl ((ux.2 0), 2000, .inl (fun _ => 0))), ((ux.1 1), .inl ((ux.2 1), 128, .inl (fun _ => 0))), ((ux.1 11), .inr (5, (((((((zdef tyX3 18).set 2 (.ref (ux.1 12))).set 3 (.ref (ux.1 13))).set 4 (.ref (ux.1 14))).set 6 (.ref (ux.1 15))).set 7 (.ref (ux.1 16))).set 8 (.ref (ux.1 17))))), (y, .inr (15, (zput ((zdef tyX13 196).set 69 (.int (-1))) qs))), ((qs.getD 0 0), .inl ((cs.getD 0 0), 2000, .inl (fun _ => 0))), ((qs.getD 2 0), .inl ((cs.getD 2 0), 16000, .inl (fun _ => 0)))]) (w1 := [(x, .inr (14, ((((((((zdef tyX12 13).set 0 (.ref (ux.1 0))).set 5 (.int (-1))).set 6 (.ref (ux.1 1))).set 7 (.ref (ux.1 2))).set 10 (.ref (ux.1 3))).set 11 (.ref (ux.1 4))).set 12 (.ref (ux.1 11)))))]) hP hD [0] [1, 2, 3, 4, 5, 6] rfl rfl (by decide) (by decide) hk1 hFc hP1 hD1
    generalize H1 = H at hP hS ⊢
    have hP : va_P (dC, dI) vwCl [((ux.1 0), .inl ((ux.2 0), 2000, .inl (fun _ => 0))), ((ux.1 1), .inl ((ux.2 1), 128, .inl (fun _ => 0))), ((ux.1 11), .inr (5, (((((((zdef tyX3 18).set 2 (.ref (ux.1 12))).set 3 (.ref (ux.1 13))).set 4 (.ref (ux.1 14))).set 6 (.ref (ux.1 15))).set 7 (.ref (ux.1 16))).set 8 (.ref (ux.1 17))))), (y, .inr (15, (zput ((zdef tyX13 196).set 69 (.int (-1))) qs))), ((qs.getD 0 0), .inl ((cs.getD 0 0), 2000, .inl (fun _ => 0))), ((qs.getD 2 0), .inl ((cs.getD 2 0), 16000, .inl (fun _ => 0))), (x, .inr (14, ((((((((zdef tyX12 13).set 0 (.ref (ux.1 0))).set 5 (.int (-1))).set 6 (.ref (ux.1 1))).set 7 (.ref (ux.1 2))).set 10 (.ref (ux.1 3))).set 11 (.ref (ux.1 4))).set 12 (.ref (ux.1 11)))))] H := hP
    have hD : va_D (fun q : Nat => s.heap.size ≤ q) [((ux.1 0), .inl ((ux.2 0), 2000, .inl (fun _ => 0))), ((ux.1 1), .inl ((ux.2 1), 128, .inl (fun _ => 0))), ((ux.1 11), .inr (5, (((((((zdef tyX3 18).set 2 (.ref (ux.1 12))).set 3 (.ref (ux.1 13))).set 4 (.ref (ux.1 14))).set 6 (.ref (ux.1 15))).set 7 (.ref (ux.1 16))).set 8 (.ref (ux.1 17))))), (y, .inr (15, (zput ((zdef tyX13 196).set 69 (.int (-1))) qs))), ((qs.getD 0 0), .inl ((cs.getD 0 0), 2000, .inl (fun _ => 0))), ((qs.getD 2 0), .inl ((cs.getD 2 0), 16000, .inl (fun _ => 0))), (x, .inr (14, ((((((((zdef tyX12 13).set 0 (.ref (ux.1 0))).set 5 (.int (-1))).set 6 (.ref (ux.1 1))).set 7 (.ref (ux.1 2))).set 10 (.ref (ux.1 3))).set 11 (.ref (ux.1 4))).set 12 (.ref (ux.1 11)))))] := hD
    refine lv_aload_n hx hb dL_law_319 rfl (lv_at hl 1 rfl) ?_
    refine lv_aload_n hx hb dL_law_320 rfl (lv_at hl 3 rfl) ?_
    refine lv_iload_n hx hb dL_law_321 rfl (lv_at hl 0 rfl) ?_
    refine lv_iconst (v := 1) hx hb dL_law_322 (by decide) ?_
    refine lv_iadd hx hb dL_law_323 ?_
    refine lv_topi (fun z_47 ez_47 => ?_)
    have fz_47 : z_47 = 1 := ez_47.trans (by decide)
    clear ez_47
    subst fz_47
    refine va_sld hx hb hX hbl hbA hS (show ¬ ((1 : Int32) < 0 ∨ 6 ≤ (1 : Int32).toNatClampNeg) from by decide) dL_law_324 ?_
    refine lv_aload_n hx hb dL_law_325 rfl (lv_at hl 3 rfl) ?_
    refine lv_iload_n hx hb dL_law_326 rfl (lv_at hl 0 rfl) ?_
    refine lv_iconst (v := 2) hx hb dL_law_327 (by decide) ?_
    refine lv_iadd hx hb dL_law_328 ?_
    refine lv_topi (fun z_48 ez_48 => ?_)
    have fz_48 : z_48 = 2 := ez_48.trans (by decide)
    clear ez_48
    subst fz_48
    refine va_sld hx hb hX hbl hbA hS (show ¬ ((2 : Int32) < 0 ∨ 6 ≤ (2 : Int32).toNatClampNeg) from by decide) dL_law_329 ?_
    refine lv_aload_n hx hb dL_law_330 rfl (lv_at hl 3 rfl) ?_
    refine lv_iload_n hx hb dL_law_331 rfl (lv_at hl 0 rfl) ?_
    refine lv_iconst (v := 3) hx hb dL_law_332 (by decide) ?_
    refine lv_iadd hx hb dL_law_333 ?_
    refine lv_topi (fun z_49 ez_49 => ?_)
    have fz_49 : z_49 = 3 := ez_49.trans (by decide)
    clear ez_49
    subst fz_49
    refine va_sld hx hb hX hbl hbA hS (show ¬ ((3 : Int32) < 0 ∨ 6 ≤ (3 : Int32).toNatClampNeg) from by decide) dL_law_334 ?_
    have hPc := hP.sub (ws' := [(y, .inr (15, (zput ((zdef tyX13 196).set 69 (.int (-1))) qs)))]) [3] rfl
    have hDc := hD.sub (ws' := [(y, .inr (15, (zput ((zdef tyX13 196).set 69 (.int (-1))) qs)))]) [3] (by decide) rfl
    have hKc := hK.sub (tys' := []) [] rfl
    have hFc := va_free (wc := [(y, .inr (15, (zput ((zdef tyX13 196).set 69 (.int (-1))) qs)))]) hD hS hA [3] rfl
    refine va_calli (va_runV (As := [.int (xs (1 : Int32).toNatClampNeg), .int (xs (2 : Int32).toNatClampNeg), .int (xs (3 : Int32).toNatClampNeg)]) (rest := [.int ra1]) ⟨hx, hb, hml, hown, hts⟩ (c_X13_element_none l dC dI H.size y (zput ((zdef tyX13 196).set 69 (.int (-1))) qs) (xs (1 : Int32).toNatClampNeg) (xs (2 : Int32).toNatClampNeg) (xs (3 : Int32).toNatClampNeg) (zput_len (zs_len (zdef_len _ _))) (zput_oth hq (by decide) (zs_ne (by decide) (zdef_get (by decide) rfl)))) (cwV 3 hts zgl_X13_element rfl rfl rfl (by decide +kernel) ⟨Nat.le_of_ble_eq_true rfl, Nat.le_of_ble_eq_true rfl⟩) ⟨zPc_blind, va_recv hKc hPc (ci := 15) (q0 := 0) rfl rfl, fun U hU hW => zPc_at hPc hKc hDc hU hW⟩ rfl rfl hl.1 rfl (lv_room (Nat.le_of_ble_eq_true rfl)) dL_law_335 ⟨Nat.le_of_ble_eq_true rfl, Nat.le_of_ble_eq_true rfl⟩) hS (fun q _ h => hFc q h) hFc (fun ra2 u t H1 locs ht hvm hw hB hz1 hk1 hS => ?_)
    obtain ⟨hP1, hK1, hD1⟩ := hB
    obtain ⟨hr2, hu2⟩ := hw
    subst hu2
    rw [ht] at hP1
    have hK1 := va_K.moved hvm.symm hK1
    obtain ⟨hP, hD⟩ := va_join (wr := [((ux.1 0), .inl ((ux.2 0), 2000, .inl (fun _ => 0))), ((ux.1 1), .inl ((ux.2 1), 128, .inl (fun _ => 0))), ((ux.1 11), .inr (5, (((((((zdef tyX3 18).set 2 (.ref (ux.1 12))).set 3 (.ref (ux.1 13))).set 4 (.ref (ux.1 14))).set 6 (.ref (ux.1 15))).set 7 (.ref (ux.1 16))).set 8 (.ref (ux.1 17))))), ((qs.getD 0 0), .inl ((cs.getD 0 0), 2000, .inl (fun _ => 0))), ((qs.getD 2 0), .inl ((cs.getD 2 0), 16000, .inl (fun _ => 0))), (x, .inr (14, ((((((((zdef tyX12 13).set 0 (.ref (ux.1 0))).set 5 (.int (-1))).set 6 (.ref (ux.1 1))).set 7 (.ref (ux.1 2))).set 10 (.ref (ux.1 3))).set 11 (.ref (ux.1 4))).set 12 (.ref (ux.1 11)))))]) (w1 := [(y, .inr (15, (zput ((zdef tyX13 196).set 69 (.int (-1))) qs)))]) hP hD [3] [0, 1, 2, 4, 5, 6] rfl rfl (by decide) (by decide) hk1 hFc hP1 hD1
    generalize H1 = H at hP hS ⊢
    have hP : va_P (dC, dI) vwCl [((ux.1 0), .inl ((ux.2 0), 2000, .inl (fun _ => 0))), ((ux.1 1), .inl ((ux.2 1), 128, .inl (fun _ => 0))), ((ux.1 11), .inr (5, (((((((zdef tyX3 18).set 2 (.ref (ux.1 12))).set 3 (.ref (ux.1 13))).set 4 (.ref (ux.1 14))).set 6 (.ref (ux.1 15))).set 7 (.ref (ux.1 16))).set 8 (.ref (ux.1 17))))), ((qs.getD 0 0), .inl ((cs.getD 0 0), 2000, .inl (fun _ => 0))), ((qs.getD 2 0), .inl ((cs.getD 2 0), 16000, .inl (fun _ => 0))), (x, .inr (14, ((((((((zdef tyX12 13).set 0 (.ref (ux.1 0))).set 5 (.int (-1))).set 6 (.ref (ux.1 1))).set 7 (.ref (ux.1 2))).set 10 (.ref (ux.1 3))).set 11 (.ref (ux.1 4))).set 12 (.ref (ux.1 11))))), (y, .inr (15, (zput ((zdef tyX13 196).set 69 (.int (-1))) qs)))] H := hP
    have hD : va_D (fun q : Nat => s.heap.size ≤ q) [((ux.1 0), .inl ((ux.2 0), 2000, .inl (fun _ => 0))), ((ux.1 1), .inl ((ux.2 1), 128, .inl (fun _ => 0))), ((ux.1 11), .inr (5, (((((((zdef tyX3 18).set 2 (.ref (ux.1 12))).set 3 (.ref (ux.1 13))).set 4 (.ref (ux.1 14))).set 6 (.ref (ux.1 15))).set 7 (.ref (ux.1 16))).set 8 (.ref (ux.1 17))))), ((qs.getD 0 0), .inl ((cs.getD 0 0), 2000, .inl (fun _ => 0))), ((qs.getD 2 0), .inl ((cs.getD 2 0), 16000, .inl (fun _ => 0))), (x, .inr (14, ((((((((zdef tyX12 13).set 0 (.ref (ux.1 0))).set 5 (.int (-1))).set 6 (.ref (ux.1 1))).set 7 (.ref (ux.1 2))).set 10 (.ref (ux.1 3))).set 11 (.ref (ux.1 4))).set 12 (.ref (ux.1 11))))), (y, .inr (15, (zput ((zdef tyX13 196).set 69 (.int (-1))) qs)))] := hD
    refine lv_icmp_eq (tgt := 393) hx hb dL_law_338 (by decide) (fun c_16 => ?_) (fun c_16 => absurd (hr1.trans hr2.symm) c_16)
    refine lv_iinc (v := 6) (lv' := [(3, .int 6), (2, .ref y), (1, .ref x), (0, .ref b)]) hx hb dL_law_393 hl (k := 0) rfl (by decide) (by decide) rfl (fun ls hl => ?_)
    refine lv_goto (tgt := 18) hx hb dL_law_396 (by decide) ?_
    refine lv_iload_n hx hb dL_law_18 rfl (lv_at hl 0 rfl) ?_
    refine lv_aload_n hx hb dL_law_19 rfl (lv_at hl 3 rfl) ?_
    refine va_slen hx hb hX hbl hbA hS dL_law_20 ?_
    refine lv_topi (fun z_51 ez_51 => ?_)
    have fz_51 : z_51 = 6 := ez_51.trans (by decide)
    clear ez_51
    subst fz_51
    refine lv_bipush (v := 6) hx hb dL_law_21 (by decide) ?_
    refine lv_isub hx hb dL_law_23 ?_
    refine lv_topi (fun z_52 ez_52 => ?_)
    have fz_52 : z_52 = 0 := ez_52.trans (by decide)
    clear ez_52
    subst fz_52
    refine lv_icmp_gt (tgt := 399) hx hb dL_law_24 (by decide) (fun c_17 => ?_) (fun c_17 => absurd (by decide) c_17)
    refine lv_iconst (v := 1) hx hb dL_law_399 (by decide) ?_
    refine va_forget (fun q hq => hS.2.2 q hq) ?_
    refine W.widen (k := room_1.cells) (n := room_1.slots) (Nat.le_of_ble_eq_true rfl) (Nat.le_of_ble_eq_true rfl) ?_
    exact lw_ret hx hb hr hlocks dL_law_400
  · have fzo : zo = 9 := ezo
    clear ezo
    subst fzo
    refine lv_tableIn (off := 310) (tgt := 343) hx hb dL_law_33 (by decide) (by decide) (by decide) (by decide) ?_
    refine lv_aload_n hx hb dL_law_343 rfl (lv_at hl 2 rfl) ?_
    refine lv_aload_n hx hb dL_law_344 rfl (lv_at hl 3 rfl) ?_
    refine lv_iload_n hx hb dL_law_345 rfl (lv_at hl 0 rfl) ?_
    refine lv_iconst (v := 1) hx hb dL_law_346 (by decide) ?_
    refine lv_iadd hx hb dL_law_347 ?_
    refine lv_topi (fun z_53 ez_53 => ?_)
    have fz_53 : z_53 = 1 := ez_53.trans (by decide)
    clear ez_53
    subst fz_53
    refine va_sld hx hb hX hbl hbA hS (show ¬ ((1 : Int32) < 0 ∨ 6 ≤ (1 : Int32).toNatClampNeg) from by decide) dL_law_348 ?_
    have hPc := hP.sub (ws' := [(x, .inr (14, ((((((((zdef tyX12 13).set 0 (.ref (ux.1 0))).set 5 (.int (-1))).set 6 (.ref (ux.1 1))).set 7 (.ref (ux.1 2))).set 10 (.ref (ux.1 3))).set 11 (.ref (ux.1 4))).set 12 (.ref (ux.1 11)))))]) [0] rfl
    have hDc := hD.sub (ws' := [(x, .inr (14, ((((((((zdef tyX12 13).set 0 (.ref (ux.1 0))).set 5 (.int (-1))).set 6 (.ref (ux.1 1))).set 7 (.ref (ux.1 2))).set 10 (.ref (ux.1 3))).set 11 (.ref (ux.1 4))).set 12 (.ref (ux.1 11)))))]) [0] (by decide) rfl
    have hKc := hK.sub (tys' := []) [] rfl
    have hFc := va_free (wc := [(x, .inr (14, ((((((((zdef tyX12 13).set 0 (.ref (ux.1 0))).set 5 (.int (-1))).set 6 (.ref (ux.1 1))).set 7 (.ref (ux.1 2))).set 10 (.ref (ux.1 3))).set 11 (.ref (ux.1 4))).set 12 (.ref (ux.1 11)))))]) hD hS hA [0] rfl
    refine va_calli (va_runV (As := [.int (xs (1 : Int32).toNatClampNeg)]) (rest := []) ⟨hx, hb, hml, hown, hts⟩ (c_X12_run_none l dC dI H.size x ((((((((zdef tyX12 13).set 0 (.ref (ux.1 0))).set 5 (.int (-1))).set 6 (.ref (ux.1 1))).set 7 (.ref (ux.1 2))).set 10 (.ref (ux.1 3))).set 11 (.ref (ux.1 4))).set 12 (.ref (ux.1 11))) (xs (1 : Int32).toNatClampNeg) (zs_len (zs_len (zs_len (zs_len (zs_len (zs_len (zs_len (zdef_len _ _)))))))) (zs_ne (by decide) (zs_ne (by decide) (zs_ne (by decide) (zs_ne (by decide) (zs_ne (by decide) (zs_ne (by decide) (zs_ne (by decide) (zdef_get (by decide) rfl))))))))) (cwV 1 hts zgl_X12_run rfl rfl rfl (by decide +kernel) ⟨Nat.le_of_ble_eq_true rfl, Nat.le_of_ble_eq_true rfl⟩) ⟨zPc_blind, va_recv hKc hPc (ci := 14) (q0 := 0) rfl rfl, fun U hU hW => zPc_at hPc hKc hDc hU hW⟩ rfl rfl hl.1 rfl (lv_room (Nat.le_of_ble_eq_true rfl)) dL_law_349 ⟨Nat.le_of_ble_eq_true rfl, Nat.le_of_ble_eq_true rfl⟩) hS (fun q _ h => hFc q h) hFc (fun ra1 u t H1 locs ht hvm hw hB hz1 hk1 hS => ?_)
    obtain ⟨hP1, hK1, hD1⟩ := hB
    obtain ⟨hr1, hu1⟩ := hw
    subst hu1
    rw [ht] at hP1
    have hK1 := va_K.moved hvm.symm hK1
    obtain ⟨hP, hD⟩ := va_join (wr := [((ux.1 0), .inl ((ux.2 0), 2000, .inl (fun _ => 0))), ((ux.1 1), .inl ((ux.2 1), 128, .inl (fun _ => 0))), ((ux.1 11), .inr (5, (((((((zdef tyX3 18).set 2 (.ref (ux.1 12))).set 3 (.ref (ux.1 13))).set 4 (.ref (ux.1 14))).set 6 (.ref (ux.1 15))).set 7 (.ref (ux.1 16))).set 8 (.ref (ux.1 17))))), (y, .inr (15, (zput ((zdef tyX13 196).set 69 (.int (-1))) qs))), ((qs.getD 0 0), .inl ((cs.getD 0 0), 2000, .inl (fun _ => 0))), ((qs.getD 2 0), .inl ((cs.getD 2 0), 16000, .inl (fun _ => 0)))]) (w1 := [(x, .inr (14, ((((((((zdef tyX12 13).set 0 (.ref (ux.1 0))).set 5 (.int (-1))).set 6 (.ref (ux.1 1))).set 7 (.ref (ux.1 2))).set 10 (.ref (ux.1 3))).set 11 (.ref (ux.1 4))).set 12 (.ref (ux.1 11)))))]) hP hD [0] [1, 2, 3, 4, 5, 6] rfl rfl (by decide) (by decide) hk1 hFc hP1 hD1
    generalize H1 = H at hP hS ⊢
    have hP : va_P (dC, dI) vwCl [((ux.1 0), .inl ((ux.2 0), 2000, .inl (fun _ => 0))), ((ux.1 1), .inl ((ux.2 1), 128, .inl (fun _ => 0))), ((ux.1 11), .inr (5, (((((((zdef tyX3 18).set 2 (.ref (ux.1 12))).set 3 (.ref (ux.1 13))).set 4 (.ref (ux.1 14))).set 6 (.ref (ux.1 15))).set 7 (.ref (ux.1 16))).set 8 (.ref (ux.1 17))))), (y, .inr (15, (zput ((zdef tyX13 196).set 69 (.int (-1))) qs))), ((qs.getD 0 0), .inl ((cs.getD 0 0), 2000, .inl (fun _ => 0))), ((qs.getD 2 0), .inl ((cs.getD 2 0), 16000, .inl (fun _ => 0))), (x, .inr (14, ((((((((zdef tyX12 13).set 0 (.ref (ux.1 0))).set 5 (.int (-1))).set 6 (.ref (ux.1 1))).set 7 (.ref (ux.1 2))).set 10 (.ref (ux.1 3))).set 11 (.ref (ux.1 4))).set 12 (.ref (ux.1 11)))))] H := hP
    have hD : va_D (fun q : Nat => s.heap.size ≤ q) [((ux.1 0), .inl ((ux.2 0), 2000, .inl (fun _ => 0))), ((ux.1 1), .inl ((ux.2 1), 128, .inl (fun _ => 0))), ((ux.1 11), .inr (5, (((((((zdef tyX3 18).set 2 (.ref (ux.1 12))).set 3 (.ref (ux.1 13))).set 4 (.ref (ux.1 14))).set 6 (.ref (ux.1 15))).set 7 (.ref (ux.1 16))).set 8 (.ref (ux.1 17))))), (y, .inr (15, (zput ((zdef tyX13 196).set 69 (.int (-1))) qs))), ((qs.getD 0 0), .inl ((cs.getD 0 0), 2000, .inl (fun _ => 0))), ((qs.getD 2 0), .inl ((cs.getD 2 0), 16000, .inl (fun _ => 0))), (x, .inr (14, ((((((((zdef tyX12 13).set 0 (.ref (ux.1 0))).set 5 (.int (-1))).set 6 (.ref (ux.1 1))).set 7 (.ref (ux.1 2))).set 10 (.ref (ux.1 3))).set 11 (.ref (ux.1 4))).set 12 (.ref (ux.1 11)))))] := hD
    refine lv_aload_n hx hb dL_law_352 rfl (lv_at hl 1 rfl) ?_
    refine lv_aload_n hx hb dL_law_353 rfl (lv_at hl 3 rfl) ?_
    refine lv_iload_n hx hb dL_law_354 rfl (lv_at hl 0 rfl) ?_
    refine lv_iconst (v := 1) hx hb dL_law_355 (by decide) ?_
    refine lv_iadd hx hb dL_law_356 ?_
    refine lv_topi (fun z_54 ez_54 => ?_)
    have fz_54 : z_54 = 1 := ez_54.trans (by decide)
    clear ez_54
    subst fz_54
    refine va_sld hx hb hX hbl hbA hS (show ¬ ((1 : Int32) < 0 ∨ 6 ≤ (1 : Int32).toNatClampNeg) from by decide) dL_law_357 ?_
    have hPc := hP.sub (ws' := [(y, .inr (15, (zput ((zdef tyX13 196).set 69 (.int (-1))) qs)))]) [3] rfl
    have hDc := hD.sub (ws' := [(y, .inr (15, (zput ((zdef tyX13 196).set 69 (.int (-1))) qs)))]) [3] (by decide) rfl
    have hKc := hK.sub (tys' := []) [] rfl
    have hFc := va_free (wc := [(y, .inr (15, (zput ((zdef tyX13 196).set 69 (.int (-1))) qs)))]) hD hS hA [3] rfl
    refine va_calli (va_runV (As := [.int (xs (1 : Int32).toNatClampNeg)]) (rest := [.int ra1]) ⟨hx, hb, hml, hown, hts⟩ (c_X13_run_none l dC dI H.size y (zput ((zdef tyX13 196).set 69 (.int (-1))) qs) (xs (1 : Int32).toNatClampNeg) (zput_len (zs_len (zdef_len _ _))) (zput_oth hq (by decide) (zs_ne (by decide) (zdef_get (by decide) rfl)))) (cwV 1 hts zgl_X13_run rfl rfl rfl (by decide +kernel) ⟨Nat.le_of_ble_eq_true rfl, Nat.le_of_ble_eq_true rfl⟩) ⟨zPc_blind, va_recv hKc hPc (ci := 15) (q0 := 0) rfl rfl, fun U hU hW => zPc_at hPc hKc hDc hU hW⟩ rfl rfl hl.1 rfl (lv_room (Nat.le_of_ble_eq_true rfl)) dL_law_358 ⟨Nat.le_of_ble_eq_true rfl, Nat.le_of_ble_eq_true rfl⟩) hS (fun q _ h => hFc q h) hFc (fun ra2 u t H1 locs ht hvm hw hB hz1 hk1 hS => ?_)
    obtain ⟨hP1, hK1, hD1⟩ := hB
    obtain ⟨hr2, hu2⟩ := hw
    subst hu2
    rw [ht] at hP1
    have hK1 := va_K.moved hvm.symm hK1
    obtain ⟨hP, hD⟩ := va_join (wr := [((ux.1 0), .inl ((ux.2 0), 2000, .inl (fun _ => 0))), ((ux.1 1), .inl ((ux.2 1), 128, .inl (fun _ => 0))), ((ux.1 11), .inr (5, (((((((zdef tyX3 18).set 2 (.ref (ux.1 12))).set 3 (.ref (ux.1 13))).set 4 (.ref (ux.1 14))).set 6 (.ref (ux.1 15))).set 7 (.ref (ux.1 16))).set 8 (.ref (ux.1 17))))), ((qs.getD 0 0), .inl ((cs.getD 0 0), 2000, .inl (fun _ => 0))), ((qs.getD 2 0), .inl ((cs.getD 2 0), 16000, .inl (fun _ => 0))), (x, .inr (14, ((((((((zdef tyX12 13).set 0 (.ref (ux.1 0))).set 5 (.int (-1))).set 6 (.ref (ux.1 1))).set 7 (.ref (ux.1 2))).set 10 (.ref (ux.1 3))).set 11 (.ref (ux.1 4))).set 12 (.ref (ux.1 11)))))]) (w1 := [(y, .inr (15, (zput ((zdef tyX13 196).set 69 (.int (-1))) qs)))]) hP hD [3] [0, 1, 2, 4, 5, 6] rfl rfl (by decide) (by decide) hk1 hFc hP1 hD1
    generalize H1 = H at hP hS ⊢
    have hP : va_P (dC, dI) vwCl [((ux.1 0), .inl ((ux.2 0), 2000, .inl (fun _ => 0))), ((ux.1 1), .inl ((ux.2 1), 128, .inl (fun _ => 0))), ((ux.1 11), .inr (5, (((((((zdef tyX3 18).set 2 (.ref (ux.1 12))).set 3 (.ref (ux.1 13))).set 4 (.ref (ux.1 14))).set 6 (.ref (ux.1 15))).set 7 (.ref (ux.1 16))).set 8 (.ref (ux.1 17))))), ((qs.getD 0 0), .inl ((cs.getD 0 0), 2000, .inl (fun _ => 0))), ((qs.getD 2 0), .inl ((cs.getD 2 0), 16000, .inl (fun _ => 0))), (x, .inr (14, ((((((((zdef tyX12 13).set 0 (.ref (ux.1 0))).set 5 (.int (-1))).set 6 (.ref (ux.1 1))).set 7 (.ref (ux.1 2))).set 10 (.ref (ux.1 3))).set 11 (.ref (ux.1 4))).set 12 (.ref (ux.1 11))))), (y, .inr (15, (zput ((zdef tyX13 196).set 69 (.int (-1))) qs)))] H := hP
    have hD : va_D (fun q : Nat => s.heap.size ≤ q) [((ux.1 0), .inl ((ux.2 0), 2000, .inl (fun _ => 0))), ((ux.1 1), .inl ((ux.2 1), 128, .inl (fun _ => 0))), ((ux.1 11), .inr (5, (((((((zdef tyX3 18).set 2 (.ref (ux.1 12))).set 3 (.ref (ux.1 13))).set 4 (.ref (ux.1 14))).set 6 (.ref (ux.1 15))).set 7 (.ref (ux.1 16))).set 8 (.ref (ux.1 17))))), ((qs.getD 0 0), .inl ((cs.getD 0 0), 2000, .inl (fun _ => 0))), ((qs.getD 2 0), .inl ((cs.getD 2 0), 16000, .inl (fun _ => 0))), (x, .inr (14, ((((((((zdef tyX12 13).set 0 (.ref (ux.1 0))).set 5 (.int (-1))).set 6 (.ref (ux.1 1))).set 7 (.ref (ux.1 2))).set 10 (.ref (ux.1 3))).set 11 (.ref (ux.1 4))).set 12 (.ref (ux.1 11))))), (y, .inr (15, (zput ((zdef tyX13 196).set 69 (.int (-1))) qs)))] := hD
    refine lv_icmp_eq (tgt := 393) hx hb dL_law_361 (by decide) (fun c_18 => ?_) (fun c_18 => absurd (hr1.trans hr2.symm) c_18)
    refine lv_iinc (v := 6) (lv' := [(3, .int 6), (2, .ref y), (1, .ref x), (0, .ref b)]) hx hb dL_law_393 hl (k := 0) rfl (by decide) (by decide) rfl (fun ls hl => ?_)
    refine lv_goto (tgt := 18) hx hb dL_law_396 (by decide) ?_
    refine lv_iload_n hx hb dL_law_18 rfl (lv_at hl 0 rfl) ?_
    refine lv_aload_n hx hb dL_law_19 rfl (lv_at hl 3 rfl) ?_
    refine va_slen hx hb hX hbl hbA hS dL_law_20 ?_
    refine lv_topi (fun z_56 ez_56 => ?_)
    have fz_56 : z_56 = 6 := ez_56.trans (by decide)
    clear ez_56
    subst fz_56
    refine lv_bipush (v := 6) hx hb dL_law_21 (by decide) ?_
    refine lv_isub hx hb dL_law_23 ?_
    refine lv_topi (fun z_57 ez_57 => ?_)
    have fz_57 : z_57 = 0 := ez_57.trans (by decide)
    clear ez_57
    subst fz_57
    refine lv_icmp_gt (tgt := 399) hx hb dL_law_24 (by decide) (fun c_19 => ?_) (fun c_19 => absurd (by decide) c_19)
    refine lv_iconst (v := 1) hx hb dL_law_399 (by decide) ?_
    refine va_forget (fun q hq => hS.2.2 q hq) ?_
    refine W.widen (k := room_1.cells) (n := room_1.slots) (Nat.le_of_ble_eq_true rfl) (Nat.le_of_ble_eq_true rfl) ?_
    exact lw_ret hx hb hr hlocks dL_law_400
  · have fzo : zo = 10 := ezo
    clear ezo
    subst fzo
    refine lv_tableIn (off := 333) (tgt := 366) hx hb dL_law_33 (by decide) (by decide) (by decide) (by decide) ?_
    refine lv_aload_n hx hb dL_law_366 rfl (lv_at hl 2 rfl) ?_
    have hPc := hP.sub (ws' := [(x, .inr (14, ((((((((zdef tyX12 13).set 0 (.ref (ux.1 0))).set 5 (.int (-1))).set 6 (.ref (ux.1 1))).set 7 (.ref (ux.1 2))).set 10 (.ref (ux.1 3))).set 11 (.ref (ux.1 4))).set 12 (.ref (ux.1 11))))), ((ux.1 11), .inr (5, (((((((zdef tyX3 18).set 2 (.ref (ux.1 12))).set 3 (.ref (ux.1 13))).set 4 (.ref (ux.1 14))).set 6 (.ref (ux.1 15))).set 7 (.ref (ux.1 16))).set 8 (.ref (ux.1 17)))))]) [0, 3] rfl
    have hDc := hD.sub (ws' := [(x, .inr (14, ((((((((zdef tyX12 13).set 0 (.ref (ux.1 0))).set 5 (.int (-1))).set 6 (.ref (ux.1 1))).set 7 (.ref (ux.1 2))).set 10 (.ref (ux.1 3))).set 11 (.ref (ux.1 4))).set 12 (.ref (ux.1 11))))), ((ux.1 11), .inr (5, (((((((zdef tyX3 18).set 2 (.ref (ux.1 12))).set 3 (.ref (ux.1 13))).set 4 (.ref (ux.1 14))).set 6 (.ref (ux.1 15))).set 7 (.ref (ux.1 16))).set 8 (.ref (ux.1 17)))))]) [0, 3] (by decide) rfl
    have hKc := hK.sub (tys' := []) [] rfl
    have hFc := va_free (wc := [(x, .inr (14, ((((((((zdef tyX12 13).set 0 (.ref (ux.1 0))).set 5 (.int (-1))).set 6 (.ref (ux.1 1))).set 7 (.ref (ux.1 2))).set 10 (.ref (ux.1 3))).set 11 (.ref (ux.1 4))).set 12 (.ref (ux.1 11))))), ((ux.1 11), .inr (5, (((((((zdef tyX3 18).set 2 (.ref (ux.1 12))).set 3 (.ref (ux.1 13))).set 4 (.ref (ux.1 14))).set 6 (.ref (ux.1 15))).set 7 (.ref (ux.1 16))).set 8 (.ref (ux.1 17)))))]) hD hS hA [0, 3] rfl
    refine va_calll (va_runV (As := []) (rest := []) ⟨hx, hb, hml, hown, hts⟩ (c_X12_value l dC dI H.size x (ux.1 11) ((((((((zdef tyX12 13).set 0 (.ref (ux.1 0))).set 5 (.int (-1))).set 6 (.ref (ux.1 1))).set 7 (.ref (ux.1 2))).set 10 (.ref (ux.1 3))).set 11 (.ref (ux.1 4))).set 12 (.ref (ux.1 11))) (((((((zdef tyX3 18).set 2 (.ref (ux.1 12))).set 3 (.ref (ux.1 13))).set 4 (.ref (ux.1 14))).set 6 (.ref (ux.1 15))).set 7 (.ref (ux.1 16))).set 8 (.ref (ux.1 17))) 0 (zs_len (zs_len (zs_len (zs_len (zs_len (zs_len (zs_len (zdef_len _ _)))))))) (zs_len (zs_len (zs_len (zs_len (zs_len (zs_len (zdef_len _ _))))))) (zs_eq (zs_lt (zs_len (zs_len (zs_len (zs_len (zs_len (zs_len (zdef_len _ _))))))) (by decide))) (zs_ne (by decide) (zs_ne (by decide) (zs_ne (by decide) (zs_ne (by decide) (zs_ne (by decide) (zs_ne (by decide) (zdef_get (by decide) rfl)))))))) (cwV 0 hts zgl_X12_value rfl rfl rfl (by decide +kernel) ⟨Nat.le_of_ble_eq_true rfl, Nat.le_of_ble_eq_true rfl⟩) ⟨zPc_blind, va_recv hKc hPc (ci := 14) (q0 := 0) rfl rfl, fun U hU hW => zPc_at hPc hKc hDc hU hW⟩ rfl rfl hl.1 rfl (lv_room (Nat.le_of_ble_eq_true rfl)) dL_law_367 ⟨Nat.le_of_ble_eq_true rfl, Nat.le_of_ble_eq_true rfl⟩) hS (fun q _ h => hFc q h) hFc (fun ra1 u t H1 locs ht hvm hw hB hz1 hk1 hS => ?_)
    obtain ⟨hP1, hK1, hD1⟩ := hB
    obtain ⟨hr1, hu1⟩ := hw
    subst hu1
    rw [ht] at hP1
    have hK1 := va_K.moved hvm.symm hK1
    obtain ⟨hP, hD⟩ := va_join (wr := [((ux.1 0), .inl ((ux.2 0), 2000, .inl (fun _ => 0))), ((ux.1 1), .inl ((ux.2 1), 128, .inl (fun _ => 0))), (y, .inr (15, (zput ((zdef tyX13 196).set 69 (.int (-1))) qs))), ((qs.getD 0 0), .inl ((cs.getD 0 0), 2000, .inl (fun _ => 0))), ((qs.getD 2 0), .inl ((cs.getD 2 0), 16000, .inl (fun _ => 0)))]) (w1 := [(x, .inr (14, ((((((((zdef tyX12 13).set 0 (.ref (ux.1 0))).set 5 (.int (-1))).set 6 (.ref (ux.1 1))).set 7 (.ref (ux.1 2))).set 10 (.ref (ux.1 3))).set 11 (.ref (ux.1 4))).set 12 (.ref (ux.1 11))))), ((ux.1 11), .inr (5, (((((((zdef tyX3 18).set 2 (.ref (ux.1 12))).set 3 (.ref (ux.1 13))).set 4 (.ref (ux.1 14))).set 6 (.ref (ux.1 15))).set 7 (.ref (ux.1 16))).set 8 (.ref (ux.1 17)))))]) hP hD [0, 3] [1, 2, 4, 5, 6] rfl rfl (by decide) (by decide) hk1 hFc hP1 hD1
    generalize H1 = H at hP hS ⊢
    have hP : va_P (dC, dI) vwCl [((ux.1 0), .inl ((ux.2 0), 2000, .inl (fun _ => 0))), ((ux.1 1), .inl ((ux.2 1), 128, .inl (fun _ => 0))), (y, .inr (15, (zput ((zdef tyX13 196).set 69 (.int (-1))) qs))), ((qs.getD 0 0), .inl ((cs.getD 0 0), 2000, .inl (fun _ => 0))), ((qs.getD 2 0), .inl ((cs.getD 2 0), 16000, .inl (fun _ => 0))), (x, .inr (14, ((((((((zdef tyX12 13).set 0 (.ref (ux.1 0))).set 5 (.int (-1))).set 6 (.ref (ux.1 1))).set 7 (.ref (ux.1 2))).set 10 (.ref (ux.1 3))).set 11 (.ref (ux.1 4))).set 12 (.ref (ux.1 11))))), ((ux.1 11), .inr (5, (((((((zdef tyX3 18).set 2 (.ref (ux.1 12))).set 3 (.ref (ux.1 13))).set 4 (.ref (ux.1 14))).set 6 (.ref (ux.1 15))).set 7 (.ref (ux.1 16))).set 8 (.ref (ux.1 17)))))] H := hP
    have hD : va_D (fun q : Nat => s.heap.size ≤ q) [((ux.1 0), .inl ((ux.2 0), 2000, .inl (fun _ => 0))), ((ux.1 1), .inl ((ux.2 1), 128, .inl (fun _ => 0))), (y, .inr (15, (zput ((zdef tyX13 196).set 69 (.int (-1))) qs))), ((qs.getD 0 0), .inl ((cs.getD 0 0), 2000, .inl (fun _ => 0))), ((qs.getD 2 0), .inl ((cs.getD 2 0), 16000, .inl (fun _ => 0))), (x, .inr (14, ((((((((zdef tyX12 13).set 0 (.ref (ux.1 0))).set 5 (.int (-1))).set 6 (.ref (ux.1 1))).set 7 (.ref (ux.1 2))).set 10 (.ref (ux.1 3))).set 11 (.ref (ux.1 4))).set 12 (.ref (ux.1 11))))), ((ux.1 11), .inr (5, (((((((zdef tyX3 18).set 2 (.ref (ux.1 12))).set 3 (.ref (ux.1 13))).set 4 (.ref (ux.1 14))).set 6 (.ref (ux.1 15))).set 7 (.ref (ux.1 16))).set 8 (.ref (ux.1 17)))))] := hD
    refine lv_aload_n hx hb dL_law_370 rfl (lv_at hl 1 rfl) ?_
    have hPc := hP.sub (ws' := [(y, .inr (15, (zput ((zdef tyX13 196).set 69 (.int (-1))) qs)))]) [2] rfl
    have hDc := hD.sub (ws' := [(y, .inr (15, (zput ((zdef tyX13 196).set 69 (.int (-1))) qs)))]) [2] (by decide) rfl
    have hKc := hK.sub (tys' := []) [] rfl
    have hFc := va_free (wc := [(y, .inr (15, (zput ((zdef tyX13 196).set 69 (.int (-1))) qs)))]) hD hS hA [2] rfl
    refine va_calll (va_runV (As := []) (rest := [.long ra1]) ⟨hx, hb, hml, hown, hts⟩ (c_X13_value l dC dI H.size y (zput ((zdef tyX13 196).set 69 (.int (-1))) qs) 0 0 (zput_len (zs_len (zdef_len _ _))) (zput_oth hq (by decide) (zs_ne (by decide) (zdef_get (by decide) rfl))) (zput_oth hq (by decide) (zs_ne (by decide) (zdef_get (by decide) rfl)))) (cwV 0 hts zgl_X13_value rfl rfl rfl (by decide +kernel) ⟨Nat.le_of_ble_eq_true rfl, Nat.le_of_ble_eq_true rfl⟩) ⟨zPc_blind, va_recv hKc hPc (ci := 15) (q0 := 0) rfl rfl, fun U hU hW => zPc_at hPc hKc hDc hU hW⟩ rfl rfl hl.1 rfl (lv_room (Nat.le_of_ble_eq_true rfl)) dL_law_371 ⟨Nat.le_of_ble_eq_true rfl, Nat.le_of_ble_eq_true rfl⟩) hS (fun q _ h => hFc q h) hFc (fun ra2 u t H1 locs ht hvm hw hB hz1 hk1 hS => ?_)
    obtain ⟨hP1, hK1, hD1⟩ := hB
    obtain ⟨hr2, hu2⟩ := hw
    subst hu2
    rw [ht] at hP1
    have hK1 := va_K.moved hvm.symm hK1
    obtain ⟨hP, hD⟩ := va_join (wr := [((ux.1 0), .inl ((ux.2 0), 2000, .inl (fun _ => 0))), ((ux.1 1), .inl ((ux.2 1), 128, .inl (fun _ => 0))), ((qs.getD 0 0), .inl ((cs.getD 0 0), 2000, .inl (fun _ => 0))), ((qs.getD 2 0), .inl ((cs.getD 2 0), 16000, .inl (fun _ => 0))), (x, .inr (14, ((((((((zdef tyX12 13).set 0 (.ref (ux.1 0))).set 5 (.int (-1))).set 6 (.ref (ux.1 1))).set 7 (.ref (ux.1 2))).set 10 (.ref (ux.1 3))).set 11 (.ref (ux.1 4))).set 12 (.ref (ux.1 11))))), ((ux.1 11), .inr (5, (((((((zdef tyX3 18).set 2 (.ref (ux.1 12))).set 3 (.ref (ux.1 13))).set 4 (.ref (ux.1 14))).set 6 (.ref (ux.1 15))).set 7 (.ref (ux.1 16))).set 8 (.ref (ux.1 17)))))]) (w1 := [(y, .inr (15, (zput ((zdef tyX13 196).set 69 (.int (-1))) qs)))]) hP hD [2] [0, 1, 3, 4, 5, 6] rfl rfl (by decide) (by decide) hk1 hFc hP1 hD1
    generalize H1 = H at hP hS ⊢
    have hP : va_P (dC, dI) vwCl [((ux.1 0), .inl ((ux.2 0), 2000, .inl (fun _ => 0))), ((ux.1 1), .inl ((ux.2 1), 128, .inl (fun _ => 0))), ((qs.getD 0 0), .inl ((cs.getD 0 0), 2000, .inl (fun _ => 0))), ((qs.getD 2 0), .inl ((cs.getD 2 0), 16000, .inl (fun _ => 0))), (x, .inr (14, ((((((((zdef tyX12 13).set 0 (.ref (ux.1 0))).set 5 (.int (-1))).set 6 (.ref (ux.1 1))).set 7 (.ref (ux.1 2))).set 10 (.ref (ux.1 3))).set 11 (.ref (ux.1 4))).set 12 (.ref (ux.1 11))))), ((ux.1 11), .inr (5, (((((((zdef tyX3 18).set 2 (.ref (ux.1 12))).set 3 (.ref (ux.1 13))).set 4 (.ref (ux.1 14))).set 6 (.ref (ux.1 15))).set 7 (.ref (ux.1 16))).set 8 (.ref (ux.1 17))))), (y, .inr (15, (zput ((zdef tyX13 196).set 69 (.int (-1))) qs)))] H := hP
    have hD : va_D (fun q : Nat => s.heap.size ≤ q) [((ux.1 0), .inl ((ux.2 0), 2000, .inl (fun _ => 0))), ((ux.1 1), .inl ((ux.2 1), 128, .inl (fun _ => 0))), ((qs.getD 0 0), .inl ((cs.getD 0 0), 2000, .inl (fun _ => 0))), ((qs.getD 2 0), .inl ((cs.getD 2 0), 16000, .inl (fun _ => 0))), (x, .inr (14, ((((((((zdef tyX12 13).set 0 (.ref (ux.1 0))).set 5 (.int (-1))).set 6 (.ref (ux.1 1))).set 7 (.ref (ux.1 2))).set 10 (.ref (ux.1 3))).set 11 (.ref (ux.1 4))).set 12 (.ref (ux.1 11))))), ((ux.1 11), .inr (5, (((((((zdef tyX3 18).set 2 (.ref (ux.1 12))).set 3 (.ref (ux.1 13))).set 4 (.ref (ux.1 14))).set 6 (.ref (ux.1 15))).set 7 (.ref (ux.1 16))).set 8 (.ref (ux.1 17))))), (y, .inr (15, (zput ((zdef tyX13 196).set 69 (.int (-1))) qs)))] := hD
    refine W.lcmp hx hb dL_law_374 ?_
    refine lv_if_eq (tgt := 393) hx hb dL_law_375 (by decide) (fun c_20 => ?_) (fun c_20 => absurd (zval_eq hr1 hr2) c_20)
    refine lv_iinc (v := 6) (lv' := [(3, .int 6), (2, .ref y), (1, .ref x), (0, .ref b)]) hx hb dL_law_393 hl (k := 0) rfl (by decide) (by decide) rfl (fun ls hl => ?_)
    refine lv_goto (tgt := 18) hx hb dL_law_396 (by decide) ?_
    refine lv_iload_n hx hb dL_law_18 rfl (lv_at hl 0 rfl) ?_
    refine lv_aload_n hx hb dL_law_19 rfl (lv_at hl 3 rfl) ?_
    refine va_slen hx hb hX hbl hbA hS dL_law_20 ?_
    refine lv_topi (fun z_59 ez_59 => ?_)
    have fz_59 : z_59 = 6 := ez_59.trans (by decide)
    clear ez_59
    subst fz_59
    refine lv_bipush (v := 6) hx hb dL_law_21 (by decide) ?_
    refine lv_isub hx hb dL_law_23 ?_
    refine lv_topi (fun z_60 ez_60 => ?_)
    have fz_60 : z_60 = 0 := ez_60.trans (by decide)
    clear ez_60
    subst fz_60
    refine lv_icmp_gt (tgt := 399) hx hb dL_law_24 (by decide) (fun c_21 => ?_) (fun c_21 => absurd (by decide) c_21)
    refine lv_iconst (v := 1) hx hb dL_law_399 (by decide) ?_
    refine va_forget (fun q hq => hS.2.2 q hq) ?_
    refine W.widen (k := room_1.cells) (n := room_1.slots) (Nat.le_of_ble_eq_true rfl) (Nat.le_of_ble_eq_true rfl) ?_
    exact lw_ret hx hb hr hlocks dL_law_400
  · have fzo : zo = 11 := ezo
    clear ezo
    subst fzo
    refine lv_tableIn (off := 347) (tgt := 380) hx hb dL_law_33 (by decide) (by decide) (by decide) (by decide) ?_
    refine lv_aload_n hx hb dL_law_380 rfl (lv_at hl 2 rfl) ?_
    have hPc := hP.sub (ws' := [(x, .inr (14, ((((((((zdef tyX12 13).set 0 (.ref (ux.1 0))).set 5 (.int (-1))).set 6 (.ref (ux.1 1))).set 7 (.ref (ux.1 2))).set 10 (.ref (ux.1 3))).set 11 (.ref (ux.1 4))).set 12 (.ref (ux.1 11))))), ((ux.1 11), .inr (5, (((((((zdef tyX3 18).set 2 (.ref (ux.1 12))).set 3 (.ref (ux.1 13))).set 4 (.ref (ux.1 14))).set 6 (.ref (ux.1 15))).set 7 (.ref (ux.1 16))).set 8 (.ref (ux.1 17)))))]) [0, 3] rfl
    have hDc := hD.sub (ws' := [(x, .inr (14, ((((((((zdef tyX12 13).set 0 (.ref (ux.1 0))).set 5 (.int (-1))).set 6 (.ref (ux.1 1))).set 7 (.ref (ux.1 2))).set 10 (.ref (ux.1 3))).set 11 (.ref (ux.1 4))).set 12 (.ref (ux.1 11))))), ((ux.1 11), .inr (5, (((((((zdef tyX3 18).set 2 (.ref (ux.1 12))).set 3 (.ref (ux.1 13))).set 4 (.ref (ux.1 14))).set 6 (.ref (ux.1 15))).set 7 (.ref (ux.1 16))).set 8 (.ref (ux.1 17)))))]) [0, 3] (by decide) rfl
    have hKc := hK.sub (tys' := []) [] rfl
    have hFc := va_free (wc := [(x, .inr (14, ((((((((zdef tyX12 13).set 0 (.ref (ux.1 0))).set 5 (.int (-1))).set 6 (.ref (ux.1 1))).set 7 (.ref (ux.1 2))).set 10 (.ref (ux.1 3))).set 11 (.ref (ux.1 4))).set 12 (.ref (ux.1 11))))), ((ux.1 11), .inr (5, (((((((zdef tyX3 18).set 2 (.ref (ux.1 12))).set 3 (.ref (ux.1 13))).set 4 (.ref (ux.1 14))).set 6 (.ref (ux.1 15))).set 7 (.ref (ux.1 16))).set 8 (.ref (ux.1 17)))))]) hD hS hA [0, 3] rfl
    refine va_calli (va_runV (As := []) (rest := []) ⟨hx, hb, hml, hown, hts⟩ (c_X12_fuel l dC dI H.size x (ux.1 11) ((((((((zdef tyX12 13).set 0 (.ref (ux.1 0))).set 5 (.int (-1))).set 6 (.ref (ux.1 1))).set 7 (.ref (ux.1 2))).set 10 (.ref (ux.1 3))).set 11 (.ref (ux.1 4))).set 12 (.ref (ux.1 11))) (((((((zdef tyX3 18).set 2 (.ref (ux.1 12))).set 3 (.ref (ux.1 13))).set 4 (.ref (ux.1 14))).set 6 (.ref (ux.1 15))).set 7 (.ref (ux.1 16))).set 8 (.ref (ux.1 17))) 0 (zs_len (zs_len (zs_len (zs_len (zs_len (zs_len (zs_len (zdef_len _ _)))))))) (zs_len (zs_len (zs_len (zs_len (zs_len (zs_len (zdef_len _ _))))))) (zs_eq (zs_lt (zs_len (zs_len (zs_len (zs_len (zs_len (zs_len (zdef_len _ _))))))) (by decide))) (zs_ne (by decide) (zs_ne (by decide) (zs_ne (by decide) (zs_ne (by decide) (zs_ne (by decide) (zs_ne (by decide) (zdef_get (by decide) rfl)))))))) (cwV 0 hts zgl_X12_fuel rfl rfl rfl (by decide +kernel) ⟨Nat.le_of_ble_eq_true rfl, Nat.le_of_ble_eq_true rfl⟩) ⟨zPc_blind, va_recv hKc hPc (ci := 14) (q0 := 0) rfl rfl, fun U hU hW => zPc_at hPc hKc hDc hU hW⟩ rfl rfl hl.1 rfl (lv_room (Nat.le_of_ble_eq_true rfl)) dL_law_381 ⟨Nat.le_of_ble_eq_true rfl, Nat.le_of_ble_eq_true rfl⟩) hS (fun q _ h => hFc q h) hFc (fun ra1 u t H1 locs ht hvm hw hB hz1 hk1 hS => ?_)
    obtain ⟨hP1, hK1, hD1⟩ := hB
    obtain ⟨hr1, hu1⟩ := hw
    subst hu1
    rw [ht] at hP1
    have hK1 := va_K.moved hvm.symm hK1
    obtain ⟨hP, hD⟩ := va_join (wr := [((ux.1 0), .inl ((ux.2 0), 2000, .inl (fun _ => 0))), ((ux.1 1), .inl ((ux.2 1), 128, .inl (fun _ => 0))), (y, .inr (15, (zput ((zdef tyX13 196).set 69 (.int (-1))) qs))), ((qs.getD 0 0), .inl ((cs.getD 0 0), 2000, .inl (fun _ => 0))), ((qs.getD 2 0), .inl ((cs.getD 2 0), 16000, .inl (fun _ => 0)))]) (w1 := [(x, .inr (14, ((((((((zdef tyX12 13).set 0 (.ref (ux.1 0))).set 5 (.int (-1))).set 6 (.ref (ux.1 1))).set 7 (.ref (ux.1 2))).set 10 (.ref (ux.1 3))).set 11 (.ref (ux.1 4))).set 12 (.ref (ux.1 11))))), ((ux.1 11), .inr (5, (((((((zdef tyX3 18).set 2 (.ref (ux.1 12))).set 3 (.ref (ux.1 13))).set 4 (.ref (ux.1 14))).set 6 (.ref (ux.1 15))).set 7 (.ref (ux.1 16))).set 8 (.ref (ux.1 17)))))]) hP hD [0, 3] [1, 2, 4, 5, 6] rfl rfl (by decide) (by decide) hk1 hFc hP1 hD1
    generalize H1 = H at hP hS ⊢
    have hP : va_P (dC, dI) vwCl [((ux.1 0), .inl ((ux.2 0), 2000, .inl (fun _ => 0))), ((ux.1 1), .inl ((ux.2 1), 128, .inl (fun _ => 0))), (y, .inr (15, (zput ((zdef tyX13 196).set 69 (.int (-1))) qs))), ((qs.getD 0 0), .inl ((cs.getD 0 0), 2000, .inl (fun _ => 0))), ((qs.getD 2 0), .inl ((cs.getD 2 0), 16000, .inl (fun _ => 0))), (x, .inr (14, ((((((((zdef tyX12 13).set 0 (.ref (ux.1 0))).set 5 (.int (-1))).set 6 (.ref (ux.1 1))).set 7 (.ref (ux.1 2))).set 10 (.ref (ux.1 3))).set 11 (.ref (ux.1 4))).set 12 (.ref (ux.1 11))))), ((ux.1 11), .inr (5, (((((((zdef tyX3 18).set 2 (.ref (ux.1 12))).set 3 (.ref (ux.1 13))).set 4 (.ref (ux.1 14))).set 6 (.ref (ux.1 15))).set 7 (.ref (ux.1 16))).set 8 (.ref (ux.1 17)))))] H := hP
    have hD : va_D (fun q : Nat => s.heap.size ≤ q) [((ux.1 0), .inl ((ux.2 0), 2000, .inl (fun _ => 0))), ((ux.1 1), .inl ((ux.2 1), 128, .inl (fun _ => 0))), (y, .inr (15, (zput ((zdef tyX13 196).set 69 (.int (-1))) qs))), ((qs.getD 0 0), .inl ((cs.getD 0 0), 2000, .inl (fun _ => 0))), ((qs.getD 2 0), .inl ((cs.getD 2 0), 16000, .inl (fun _ => 0))), (x, .inr (14, ((((((((zdef tyX12 13).set 0 (.ref (ux.1 0))).set 5 (.int (-1))).set 6 (.ref (ux.1 1))).set 7 (.ref (ux.1 2))).set 10 (.ref (ux.1 3))).set 11 (.ref (ux.1 4))).set 12 (.ref (ux.1 11))))), ((ux.1 11), .inr (5, (((((((zdef tyX3 18).set 2 (.ref (ux.1 12))).set 3 (.ref (ux.1 13))).set 4 (.ref (ux.1 14))).set 6 (.ref (ux.1 15))).set 7 (.ref (ux.1 16))).set 8 (.ref (ux.1 17)))))] := hD
    refine lv_aload_n hx hb dL_law_384 rfl (lv_at hl 1 rfl) ?_
    have hPc := hP.sub (ws' := [(y, .inr (15, (zput ((zdef tyX13 196).set 69 (.int (-1))) qs)))]) [2] rfl
    have hDc := hD.sub (ws' := [(y, .inr (15, (zput ((zdef tyX13 196).set 69 (.int (-1))) qs)))]) [2] (by decide) rfl
    have hKc := hK.sub (tys' := []) [] rfl
    have hFc := va_free (wc := [(y, .inr (15, (zput ((zdef tyX13 196).set 69 (.int (-1))) qs)))]) hD hS hA [2] rfl
    refine va_calli (va_runV (As := []) (rest := [.int ra1]) ⟨hx, hb, hml, hown, hts⟩ (c_X13_fuel l dC dI H.size y (zput ((zdef tyX13 196).set 69 (.int (-1))) qs) 0 (zput_len (zs_len (zdef_len _ _))) (zput_oth hq (by decide) (zs_ne (by decide) (zdef_get (by decide) rfl)))) (cwV 0 hts zgl_X13_fuel rfl rfl rfl (by decide +kernel) ⟨Nat.le_of_ble_eq_true rfl, Nat.le_of_ble_eq_true rfl⟩) ⟨zPc_blind, va_recv hKc hPc (ci := 15) (q0 := 0) rfl rfl, fun U hU hW => zPc_at hPc hKc hDc hU hW⟩ rfl rfl hl.1 rfl (lv_room (Nat.le_of_ble_eq_true rfl)) dL_law_385 ⟨Nat.le_of_ble_eq_true rfl, Nat.le_of_ble_eq_true rfl⟩) hS (fun q _ h => hFc q h) hFc (fun ra2 u t H1 locs ht hvm hw hB hz1 hk1 hS => ?_)
    obtain ⟨hP1, hK1, hD1⟩ := hB
    obtain ⟨hr2, hu2⟩ := hw
    subst hu2
    rw [ht] at hP1
    have hK1 := va_K.moved hvm.symm hK1
    obtain ⟨hP, hD⟩ := va_join (wr := [((ux.1 0), .inl ((ux.2 0), 2000, .inl (fun _ => 0))), ((ux.1 1), .inl ((ux.2 1), 128, .inl (fun _ => 0))), ((qs.getD 0 0), .inl ((cs.getD 0 0), 2000, .inl (fun _ => 0))), ((qs.getD 2 0), .inl ((cs.getD 2 0), 16000, .inl (fun _ => 0))), (x, .inr (14, ((((((((zdef tyX12 13).set 0 (.ref (ux.1 0))).set 5 (.int (-1))).set 6 (.ref (ux.1 1))).set 7 (.ref (ux.1 2))).set 10 (.ref (ux.1 3))).set 11 (.ref (ux.1 4))).set 12 (.ref (ux.1 11))))), ((ux.1 11), .inr (5, (((((((zdef tyX3 18).set 2 (.ref (ux.1 12))).set 3 (.ref (ux.1 13))).set 4 (.ref (ux.1 14))).set 6 (.ref (ux.1 15))).set 7 (.ref (ux.1 16))).set 8 (.ref (ux.1 17)))))]) (w1 := [(y, .inr (15, (zput ((zdef tyX13 196).set 69 (.int (-1))) qs)))]) hP hD [2] [0, 1, 3, 4, 5, 6] rfl rfl (by decide) (by decide) hk1 hFc hP1 hD1
    generalize H1 = H at hP hS ⊢
    have hP : va_P (dC, dI) vwCl [((ux.1 0), .inl ((ux.2 0), 2000, .inl (fun _ => 0))), ((ux.1 1), .inl ((ux.2 1), 128, .inl (fun _ => 0))), ((qs.getD 0 0), .inl ((cs.getD 0 0), 2000, .inl (fun _ => 0))), ((qs.getD 2 0), .inl ((cs.getD 2 0), 16000, .inl (fun _ => 0))), (x, .inr (14, ((((((((zdef tyX12 13).set 0 (.ref (ux.1 0))).set 5 (.int (-1))).set 6 (.ref (ux.1 1))).set 7 (.ref (ux.1 2))).set 10 (.ref (ux.1 3))).set 11 (.ref (ux.1 4))).set 12 (.ref (ux.1 11))))), ((ux.1 11), .inr (5, (((((((zdef tyX3 18).set 2 (.ref (ux.1 12))).set 3 (.ref (ux.1 13))).set 4 (.ref (ux.1 14))).set 6 (.ref (ux.1 15))).set 7 (.ref (ux.1 16))).set 8 (.ref (ux.1 17))))), (y, .inr (15, (zput ((zdef tyX13 196).set 69 (.int (-1))) qs)))] H := hP
    have hD : va_D (fun q : Nat => s.heap.size ≤ q) [((ux.1 0), .inl ((ux.2 0), 2000, .inl (fun _ => 0))), ((ux.1 1), .inl ((ux.2 1), 128, .inl (fun _ => 0))), ((qs.getD 0 0), .inl ((cs.getD 0 0), 2000, .inl (fun _ => 0))), ((qs.getD 2 0), .inl ((cs.getD 2 0), 16000, .inl (fun _ => 0))), (x, .inr (14, ((((((((zdef tyX12 13).set 0 (.ref (ux.1 0))).set 5 (.int (-1))).set 6 (.ref (ux.1 1))).set 7 (.ref (ux.1 2))).set 10 (.ref (ux.1 3))).set 11 (.ref (ux.1 4))).set 12 (.ref (ux.1 11))))), ((ux.1 11), .inr (5, (((((((zdef tyX3 18).set 2 (.ref (ux.1 12))).set 3 (.ref (ux.1 13))).set 4 (.ref (ux.1 14))).set 6 (.ref (ux.1 15))).set 7 (.ref (ux.1 16))).set 8 (.ref (ux.1 17))))), (y, .inr (15, (zput ((zdef tyX13 196).set 69 (.int (-1))) qs)))] := hD
    refine lv_icmp_eq (tgt := 393) hx hb dL_law_388 (by decide) (fun c_22 => ?_) (fun c_22 => absurd (hr1.trans hr2.symm) c_22)
    refine lv_iinc (v := 6) (lv' := [(3, .int 6), (2, .ref y), (1, .ref x), (0, .ref b)]) hx hb dL_law_393 hl (k := 0) rfl (by decide) (by decide) rfl (fun ls hl => ?_)
    refine lv_goto (tgt := 18) hx hb dL_law_396 (by decide) ?_
    refine lv_iload_n hx hb dL_law_18 rfl (lv_at hl 0 rfl) ?_
    refine lv_aload_n hx hb dL_law_19 rfl (lv_at hl 3 rfl) ?_
    refine va_slen hx hb hX hbl hbA hS dL_law_20 ?_
    refine lv_topi (fun z_62 ez_62 => ?_)
    have fz_62 : z_62 = 6 := ez_62.trans (by decide)
    clear ez_62
    subst fz_62
    refine lv_bipush (v := 6) hx hb dL_law_21 (by decide) ?_
    refine lv_isub hx hb dL_law_23 ?_
    refine lv_topi (fun z_63 ez_63 => ?_)
    have fz_63 : z_63 = 0 := ez_63.trans (by decide)
    clear ez_63
    subst fz_63
    refine lv_icmp_gt (tgt := 399) hx hb dL_law_24 (by decide) (fun c_23 => ?_) (fun c_23 => absurd (by decide) c_23)
    refine lv_iconst (v := 1) hx hb dL_law_399 (by decide) ?_
    refine va_forget (fun q hq => hS.2.2 q hq) ?_
    refine W.widen (k := room_1.cells) (n := room_1.slots) (Nat.le_of_ble_eq_true rfl) (Nat.le_of_ble_eq_true rfl) ?_
    exact lw_ret hx hb hr hlocks dL_law_400
  · have fzo : zo = 12 := ezo
    clear ezo
    subst fzo
    refine lv_tableOut (tgt := 393) hx hb dL_law_33 (by decide) (by decide) ?_
    refine lv_iinc (v := 6) (lv' := [(3, .int 6), (2, .ref y), (1, .ref x), (0, .ref b)]) hx hb dL_law_393 hl (k := 0) rfl (by decide) (by decide) rfl (fun ls hl => ?_)
    refine lv_goto (tgt := 18) hx hb dL_law_396 (by decide) ?_
    refine lv_iload_n hx hb dL_law_18 rfl (lv_at hl 0 rfl) ?_
    refine lv_aload_n hx hb dL_law_19 rfl (lv_at hl 3 rfl) ?_
    refine va_slen hx hb hX hbl hbA hS dL_law_20 ?_
    refine lv_topi (fun z_65 ez_65 => ?_)
    have fz_65 : z_65 = 6 := ez_65.trans (by decide)
    clear ez_65
    subst fz_65
    refine lv_bipush (v := 6) hx hb dL_law_21 (by decide) ?_
    refine lv_isub hx hb dL_law_23 ?_
    refine lv_topi (fun z_66 ez_66 => ?_)
    have fz_66 : z_66 = 0 := ez_66.trans (by decide)
    clear ez_66
    subst fz_66
    refine lv_icmp_gt (tgt := 399) hx hb dL_law_24 (by decide) (fun c_24 => ?_) (fun c_24 => absurd (by decide) c_24)
    refine lv_iconst (v := 1) hx hb dL_law_399 (by decide) ?_
    refine va_forget (fun q hq => hS.2.2 q hq) ?_
    refine W.widen (k := room_1.cells) (n := room_1.slots) (Nat.le_of_ble_eq_true rfl) (Nat.le_of_ble_eq_true rfl) ?_
    exact lw_ret hx hb hr hlocks dL_law_400
  · have fzo : zo = 13 := ezo
    clear ezo
    subst fzo
    refine lv_tableOut (tgt := 393) hx hb dL_law_33 (by decide) (by decide) ?_
    refine lv_iinc (v := 6) (lv' := [(3, .int 6), (2, .ref y), (1, .ref x), (0, .ref b)]) hx hb dL_law_393 hl (k := 0) rfl (by decide) (by decide) rfl (fun ls hl => ?_)
    refine lv_goto (tgt := 18) hx hb dL_law_396 (by decide) ?_
    refine lv_iload_n hx hb dL_law_18 rfl (lv_at hl 0 rfl) ?_
    refine lv_aload_n hx hb dL_law_19 rfl (lv_at hl 3 rfl) ?_
    refine va_slen hx hb hX hbl hbA hS dL_law_20 ?_
    refine lv_topi (fun z_68 ez_68 => ?_)
    have fz_68 : z_68 = 6 := ez_68.trans (by decide)
    clear ez_68
    subst fz_68
    refine lv_bipush (v := 6) hx hb dL_law_21 (by decide) ?_
    refine lv_isub hx hb dL_law_23 ?_
    refine lv_topi (fun z_69 ez_69 => ?_)
    have fz_69 : z_69 = 0 := ez_69.trans (by decide)
    clear ez_69
    subst fz_69
    refine lv_icmp_gt (tgt := 399) hx hb dL_law_24 (by decide) (fun c_25 => ?_) (fun c_25 => absurd (by decide) c_25)
    refine lv_iconst (v := 1) hx hb dL_law_399 (by decide) ?_
    refine va_forget (fun q hq => hS.2.2 q hq) ?_
    refine W.widen (k := room_1.cells) (n := room_1.slots) (Nat.le_of_ble_eq_true rfl) (Nat.le_of_ble_eq_true rfl) ?_
    exact lw_ret hx hb hr hlocks dL_law_400
  · have fzo : zo = 14 := ezo
    clear ezo
    subst fzo
    refine lv_tableOut (tgt := 393) hx hb dL_law_33 (by decide) (by decide) ?_
    refine lv_iinc (v := 6) (lv' := [(3, .int 6), (2, .ref y), (1, .ref x), (0, .ref b)]) hx hb dL_law_393 hl (k := 0) rfl (by decide) (by decide) rfl (fun ls hl => ?_)
    refine lv_goto (tgt := 18) hx hb dL_law_396 (by decide) ?_
    refine lv_iload_n hx hb dL_law_18 rfl (lv_at hl 0 rfl) ?_
    refine lv_aload_n hx hb dL_law_19 rfl (lv_at hl 3 rfl) ?_
    refine va_slen hx hb hX hbl hbA hS dL_law_20 ?_
    refine lv_topi (fun z_71 ez_71 => ?_)
    have fz_71 : z_71 = 6 := ez_71.trans (by decide)
    clear ez_71
    subst fz_71
    refine lv_bipush (v := 6) hx hb dL_law_21 (by decide) ?_
    refine lv_isub hx hb dL_law_23 ?_
    refine lv_topi (fun z_72 ez_72 => ?_)
    have fz_72 : z_72 = 0 := ez_72.trans (by decide)
    clear ez_72
    subst fz_72
    refine lv_icmp_gt (tgt := 399) hx hb dL_law_24 (by decide) (fun c_26 => ?_) (fun c_26 => absurd (by decide) c_26)
    refine lv_iconst (v := 1) hx hb dL_law_399 (by decide) ?_
    refine va_forget (fun q hq => hS.2.2 q hq) ?_
    refine W.widen (k := room_1.cells) (n := room_1.slots) (Nat.le_of_ble_eq_true rfl) (Nat.le_of_ble_eq_true rfl) ?_
    exact lw_ret hx hb hr hlocks dL_law_400
  · have fzo : zo = 15 := ezo
    clear ezo
    subst fzo
    refine lv_tableOut (tgt := 393) hx hb dL_law_33 (by decide) (by decide) ?_
    refine lv_iinc (v := 6) (lv' := [(3, .int 6), (2, .ref y), (1, .ref x), (0, .ref b)]) hx hb dL_law_393 hl (k := 0) rfl (by decide) (by decide) rfl (fun ls hl => ?_)
    refine lv_goto (tgt := 18) hx hb dL_law_396 (by decide) ?_
    refine lv_iload_n hx hb dL_law_18 rfl (lv_at hl 0 rfl) ?_
    refine lv_aload_n hx hb dL_law_19 rfl (lv_at hl 3 rfl) ?_
    refine va_slen hx hb hX hbl hbA hS dL_law_20 ?_
    refine lv_topi (fun z_74 ez_74 => ?_)
    have fz_74 : z_74 = 6 := ez_74.trans (by decide)
    clear ez_74
    subst fz_74
    refine lv_bipush (v := 6) hx hb dL_law_21 (by decide) ?_
    refine lv_isub hx hb dL_law_23 ?_
    refine lv_topi (fun z_75 ez_75 => ?_)
    have fz_75 : z_75 = 0 := ez_75.trans (by decide)
    clear ez_75
    subst fz_75
    refine lv_icmp_gt (tgt := 399) hx hb dL_law_24 (by decide) (fun c_27 => ?_) (fun c_27 => absurd (by decide) c_27)
    refine lv_iconst (v := 1) hx hb dL_law_399 (by decide) ?_
    refine va_forget (fun q hq => hS.2.2 q hq) ?_
    refine W.widen (k := room_1.cells) (n := room_1.slots) (Nat.le_of_ble_eq_true rfl) (Nat.le_of_ble_eq_true rfl) ?_
    exact lw_ret hx hb hr hlocks dL_law_400
