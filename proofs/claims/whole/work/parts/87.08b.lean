/-! the methods of the class as plain functions (128 to 142) -/
theorem olk_X7_single_25 {x : Int32} (h0 : ¬ x = 40) (h1 : ¬ x = 205) (h2 : ¬ x = 217) (h3 : ¬ x = 223) : Op.lookupswitch.offset (#[(40, 60), (205, 80), (217, 43), (223, 80)] : Array (Int × Int)).toList 96 x.toInt = 96 := by
  have a0 := z_ne h0 (k := 40) (by decide)
  have a1 := z_ne h1 (k := 205) (by decide)
  have a2 := z_ne h2 (k := 217) (by decide)
  have a3 := z_ne h3 (k := 223) (by decide)
  simp [Op.lookupswitch.offset, a0, Ne.symm a0, a1, Ne.symm a1, a2, Ne.symm a2, a3, Ne.symm a3]
def ob_X7_single (n : Nat) (call : oCl) (κ : oKv) (x0 : Option Nat) (x1 : Int32) (σ : oSt) : oRs :=
  obn (oob σ x0 9) fun a1 =>
  oin (call 104 [va_rf x0] σ) fun r5 s3 =>
  obn (oob s3 x0 9) fun a6 =>
  orn (call 118 [va_rf x0, .int r5] s3) fun r10 s8 =>
  if x1 ≤ 30 then
    obn (oob s8 x0 9) fun a12 =>
    oin (call 104 [va_rf x0] s8) fun r16 s14 =>
    if r16 = 40 then
      obn (oob s14 x0 9) fun a18 =>
      ocv (call 105 [va_rf x0] s14) fun s20 =>
      obn (oob s20 x0 9) fun a23 =>
      orn (call 127 [va_rf x0, .int (x1 + 1)] s20) fun r27 s25 =>
      obn (oob s25 x0 9) fun a28 =>
      ocv (call 108 [va_rf x0, .int 41] s25) fun s30 =>
      some (some (va_rf r27), s30)
    else
    if r16 = 205 then
      obn (oob s14 x0 9) fun a34 =>
      ocv (call 105 [va_rf x0] s14) fun s36 =>
      obn (ovi (ofd s36 x0 9 14)) fun v39 =>
      obn (opf s36 x0 9 14 (.int (v39 + 1))) fun s41 =>
      some (some (va_rf r10), s41)
    else
    if r16 = 217 then
      obn (oob s14 x0 9) fun a44 =>
      ocv (call 105 [va_rf x0] s14) fun s46 =>
      obn (oob s46 x0 9) fun a49 =>
      orn (call 128 [va_rf x0, .int (x1 + 1)] s46) fun r53 s51 =>
      obn (opf s51 r10 7 12 (va_rf r53)) fun s54 =>
      some (some (va_rf r10), s54)
    else
    if r16 = 223 then
      obn (oob s14 x0 9) fun a57 =>
      ocv (call 105 [va_rf x0] s14) fun s59 =>
      obn (ovi (ofd s59 x0 9 14)) fun v62 =>
      obn (opf s59 x0 9 14 (.int (v62 + 1))) fun s64 =>
      some (some (va_rf r10), s64)
    else
    obn (oob s14 x0 9) fun a66 =>
    orn (call 125 [va_rf x0, va_rf r10] s14) fun r70 s68 =>
    some (some (va_rf r70), s68)
  else
    obn (oob s8 x0 9) fun a71 =>
    ocv (call 107 [va_rf x0] s8) fun s73 =>
    some (some (va_rf r10), s73)
set_option maxHeartbeats 4000000 in
theorem qb_X7_single {κ : oKv} {n : Nat} {call : oCl} {kc : Nat → List Value → oSt → Option Value × oSt → Prop} {v : Option Value × oSt} {X : Nat → zLv → List Value → oSt → Prop} (hX : oSem RX7 cX7_single 3 0 (some (.object "LiquidTongue$Node")) κ kc v X) (hc : ∀ j av s w, call j av s = some w → kc j av s w) {x0 : Option Nat} {x1 : Int32} {σ : oSt} (h : ob_X7_single n call κ x0 x1 σ = some v) : X 0 [some (va_rf x0), some (.int x1), none] [] σ := by
  rw [ob_X7_single] at h
  refine os_aload_n (r := x0) hX dX7_single_0 rfl rfl ?_
  refine os_aload_n (r := x0) hX dX7_single_1 rfl rfl ?_
  obtain ⟨a1, e2, h⟩ := obn_e h
  obtain ⟨r5, s3, e4, h⟩ := oin_e h
  refine oc_RX7_57 (rb := x0)  hX dX7_single_2 (by simp only [List.map_cons, List.map_nil, List.sum_cons, List.sum_nil, ocat]; exact Nat.le_of_ble_eq_true rfl) e2 (hc _ _ _ _ e4) ?_
  obtain ⟨a6, e7, h⟩ := obn_e h
  obtain ⟨r10, s8, e9, h⟩ := orn_e h
  refine oc_RX7_163 (rb := x0) (a1 := .int r5) hX dX7_single_5 (Nat.le_of_ble_eq_true rfl) e7 (hc _ _ _ _ e9) ?_
  refine os_astore_n (r := r10) hX dX7_single_8 rfl (by decide) rfl ?_
  dsimp only [List.set]
  refine os_iload_n hX dX7_single_9 rfl rfl ?_
  refine os_bipush (v := 30) hX dX7_single_10 (by decide) ?_
  refine os_icmp_le (tgt := 21) hX dX7_single_12 (by decide) (fun c11 => ?_) (fun c11 => ?_)
  · rw [if_pos c11] at h
    refine os_aload_n (r := x0) hX dX7_single_21 rfl rfl ?_
    obtain ⟨a12, e13, h⟩ := obn_e h
    obtain ⟨r16, s14, e15, h⟩ := oin_e h
    refine oc_RX7_57 (rb := x0)  hX dX7_single_22 (Nat.le_of_ble_eq_true rfl) e13 (hc _ _ _ _ e15) ?_
    by_cases c17 : r16 = 40
    · rw [if_pos c17] at h
      refine os_lookup (tgt := 85) (off := 60) hX dX7_single_25 (by decide) (by rw [c17]; rfl) (by decide) ?_
      refine os_aload_n (r := x0) hX dX7_single_85 rfl rfl ?_
      obtain ⟨a18, e19, h⟩ := obn_e h
      obtain ⟨s20, e21, h⟩ := ocv_e h
      refine oc_RX7_98 (rb := x0)  hX dX7_single_86 (Nat.le_of_ble_eq_true rfl) e19 (hc _ _ _ _ e21) ?_
      refine os_aload_n (r := x0) hX dX7_single_89 rfl rfl ?_
      refine os_iload_n hX dX7_single_90 rfl rfl ?_
      refine os_iconst (v := 1) hX dX7_single_91 (by decide) ?_
      refine os_iadd hX dX7_single_92 ?_
      obtain ⟨a23, e24, h⟩ := obn_e h
      obtain ⟨r27, s25, e26, h⟩ := orn_e h
      refine oc_RX7_313 (rb := x0) (a1 := .int (x1 + 1)) hX dX7_single_93 (Nat.le_of_ble_eq_true rfl) e24 (hc _ _ _ _ e26) ?_
      refine os_astore_n (r := r27) hX dX7_single_96 rfl (by decide) rfl ?_
      dsimp only [List.set]
      refine os_aload_n (r := x0) hX dX7_single_97 rfl rfl ?_
      refine os_bipush (v := 41) hX dX7_single_98 (by decide) ?_
      obtain ⟨a28, e29, h⟩ := obn_e h
      obtain ⟨s30, e31, h⟩ := ocv_e h
      refine oc_RX7_109 (rb := x0) (a1 := .int 41) hX dX7_single_100 (Nat.le_of_ble_eq_true rfl) e29 (hc _ _ _ _ e31) ?_
      refine os_aload_n (r := r27) hX dX7_single_103 rfl rfl ?_
      exact os_aret (r := r27) hX dX7_single_104 rfl (Option.some.inj h)
    rw [if_neg c17] at h
    by_cases c33 : r16 = 205
    · rw [if_pos c33] at h
      refine os_lookup (tgt := 105) (off := 80) hX dX7_single_25 (by decide) (by rw [c33]; rfl) (by decide) ?_
      refine os_aload_n (r := x0) hX dX7_single_105 rfl rfl ?_
      obtain ⟨a34, e35, h⟩ := obn_e h
      obtain ⟨s36, e37, h⟩ := ocv_e h
      refine oc_RX7_98 (rb := x0)  hX dX7_single_106 (Nat.le_of_ble_eq_true rfl) e35 (hc _ _ _ _ e37) ?_
      refine os_aload_n (r := x0) hX dX7_single_109 rfl rfl ?_
      refine os_dup hX dX7_single_110 (ocat x0) ?_
      obtain ⟨v39, e40, h⟩ := obn_e h
      refine ow_get (r := x0) hX dX7_single_111 oF_RX7_310 (ovi_e e40) ?_
      refine os_iconst (v := 1) hX dX7_single_114 (by decide) ?_
      refine os_iadd hX dX7_single_115 ?_
      obtain ⟨s41, e42, h⟩ := obn_e h
      refine ow_put (r := x0) (x := .int (v39 + 1)) hX dX7_single_116 oF_RX7_310 (by decide) (opn_I oT_9_14) e42 ?_
      refine os_aload_n (r := r10) hX dX7_single_119 rfl rfl ?_
      exact os_aret (r := r10) hX dX7_single_120 rfl (Option.some.inj h)
    rw [if_neg c33] at h
    by_cases c43 : r16 = 217
    · rw [if_pos c43] at h
      refine os_lookup (tgt := 68) (off := 43) hX dX7_single_25 (by decide) (by rw [c43]; rfl) (by decide) ?_
      refine os_aload_n (r := x0) hX dX7_single_68 rfl rfl ?_
      obtain ⟨a44, e45, h⟩ := obn_e h
      obtain ⟨s46, e47, h⟩ := ocv_e h
      refine oc_RX7_98 (rb := x0)  hX dX7_single_69 (Nat.le_of_ble_eq_true rfl) e45 (hc _ _ _ _ e47) ?_
      refine os_aload_n (r := r10) hX dX7_single_72 rfl rfl ?_
      refine os_aload_n (r := x0) hX dX7_single_73 rfl rfl ?_
      refine os_iload_n hX dX7_single_74 rfl rfl ?_
      refine os_iconst (v := 1) hX dX7_single_75 (by decide) ?_
      refine os_iadd hX dX7_single_76 ?_
      obtain ⟨a49, e50, h⟩ := obn_e h
      obtain ⟨r53, s51, e52, h⟩ := orn_e h
      refine oc_RX7_319 (rb := x0) (a1 := .int (x1 + 1)) hX dX7_single_77 (by simp only [List.map_cons, List.map_nil, List.sum_cons, List.sum_nil, ocat]; exact Nat.le_of_ble_eq_true rfl) e50 (hc _ _ _ _ e52) ?_
      obtain ⟨s54, e55, h⟩ := obn_e h
      refine ow_put (r := r10) (x := va_rf r53) hX dX7_single_80 oF_RX7_212 (by decide) (orf_n (Or.inl ⟨_, oT_7_12⟩) r53) e55 ?_
      refine os_aload_n (r := r10) hX dX7_single_83 rfl rfl ?_
      exact os_aret (r := r10) hX dX7_single_84 rfl (Option.some.inj h)
    rw [if_neg c43] at h
    by_cases c56 : r16 = 223
    · rw [if_pos c56] at h
      refine os_lookup (tgt := 105) (off := 80) hX dX7_single_25 (by decide) (by rw [c56]; rfl) (by decide) ?_
      refine os_aload_n (r := x0) hX dX7_single_105 rfl rfl ?_
      obtain ⟨a57, e58, h⟩ := obn_e h
      obtain ⟨s59, e60, h⟩ := ocv_e h
      refine oc_RX7_98 (rb := x0)  hX dX7_single_106 (Nat.le_of_ble_eq_true rfl) e58 (hc _ _ _ _ e60) ?_
      refine os_aload_n (r := x0) hX dX7_single_109 rfl rfl ?_
      refine os_dup hX dX7_single_110 (ocat x0) ?_
      obtain ⟨v62, e63, h⟩ := obn_e h
      refine ow_get (r := x0) hX dX7_single_111 oF_RX7_310 (ovi_e e63) ?_
      refine os_iconst (v := 1) hX dX7_single_114 (by decide) ?_
      refine os_iadd hX dX7_single_115 ?_
      obtain ⟨s64, e65, h⟩ := obn_e h
      refine ow_put (r := x0) (x := .int (v62 + 1)) hX dX7_single_116 oF_RX7_310 (by decide) (opn_I oT_9_14) e65 ?_
      refine os_aload_n (r := r10) hX dX7_single_119 rfl rfl ?_
      exact os_aret (r := r10) hX dX7_single_120 rfl (Option.some.inj h)
    rw [if_neg c56] at h
    refine os_lookup (tgt := 121) (off := 96) hX dX7_single_25 (by decide) (olk_X7_single_25 c17 c33 c43 c56) (by decide) ?_
    refine os_aload_n (r := x0) hX dX7_single_121 rfl rfl ?_
    refine os_aload_n (r := r10) hX dX7_single_122 rfl rfl ?_
    obtain ⟨a66, e67, h⟩ := obn_e h
    obtain ⟨r70, s68, e69, h⟩ := orn_e h
    refine oc_RX7_322 (rb := x0) (a1 := va_rf r10) hX dX7_single_123 (Nat.le_of_ble_eq_true rfl) e67 (hc _ _ _ _ e69) ?_
    exact os_aret (r := r70) hX dX7_single_126 rfl (Option.some.inj h)
  · rw [if_neg c11] at h
    refine os_aload_n (r := x0) hX dX7_single_15 rfl rfl ?_
    obtain ⟨a71, e72, h⟩ := obn_e h
    obtain ⟨s73, e74, h⟩ := ocv_e h
    refine oc_RX7_78 (rb := x0)  hX dX7_single_16 (Nat.le_of_ble_eq_true rfl) e72 (hc _ _ _ _ e74) ?_
    refine os_aload_n (r := r10) hX dX7_single_19 rfl rfl ?_
    exact os_aret (r := r10) hX dX7_single_20 rfl (Option.some.inj h)
def ob_X7_test (n : Nat) (call : oCl) (κ : oKv) (x0 : Option Nat) (x1 : Int32) (σ : oSt) : oRs :=
  obn (oob σ x0 9) fun a1 =>
  oin (call 106 [va_rf x0] σ) fun r5 s3 =>
  obn (ovi (ofd s3 x0 9 14)) fun v6 =>
  obn (oob s3 x0 9) fun a8 =>
  orn (call 127 [va_rf x0, .int x1] s3) fun r12 s10 =>
  obn (ovi (ofd s10 x0 9 13)) fun v13 =>
  obn (ovi (ofd s10 x0 9 14)) fun v15 =>
  obn (opf s10 x0 9 13 (.int (v13 + (v15 - v6)))) fun s17 =>
  obn (ovi (ofd s17 x0 9 13)) fun v19 =>
  if v19 ≤ 6 then
    some (some (va_rf r12), s17)
  else
    obn (oob s17 x0 9) fun a22 =>
    ocv (call 122 [va_rf x0, .int r5] s17) fun s24 =>
    some (some (va_rf r12), s24)
set_option maxHeartbeats 4000000 in
theorem qb_X7_test {κ : oKv} {n : Nat} {call : oCl} {kc : Nat → List Value → oSt → Option Value × oSt → Prop} {v : Option Value × oSt} {X : Nat → zLv → List Value → oSt → Prop} (hX : oSem RX7 cX7_test 5 0 (some (.object "LiquidTongue$Node")) κ kc v X) (hc : ∀ j av s w, call j av s = some w → kc j av s w) {x0 : Option Nat} {x1 : Int32} {σ : oSt} (h : ob_X7_test n call κ x0 x1 σ = some v) : X 0 [some (va_rf x0), some (.int x1), none, none, none] [] σ := by
  rw [ob_X7_test] at h
  refine os_aload_n (r := x0) hX dX7_test_0 rfl rfl ?_
  obtain ⟨a1, e2, h⟩ := obn_e h
  obtain ⟨r5, s3, e4, h⟩ := oin_e h
  refine oc_RX7_95 (rb := x0)  hX dX7_test_1 (Nat.le_of_ble_eq_true rfl) e2 (hc _ _ _ _ e4) ?_
  refine os_istore_n hX dX7_test_4 rfl (by decide) rfl ?_
  dsimp only [List.set]
  refine os_aload_n (r := x0) hX dX7_test_5 rfl rfl ?_
  obtain ⟨v6, e7, h⟩ := obn_e h
  refine ow_get (r := x0) hX dX7_test_6 oF_RX7_310 (ovi_e e7) ?_
  refine os_istore_n hX dX7_test_9 rfl (by decide) rfl ?_
  dsimp only [List.set]
  refine os_aload_n (r := x0) hX dX7_test_10 rfl rfl ?_
  refine os_iload_n hX dX7_test_11 rfl rfl ?_
  obtain ⟨a8, e9, h⟩ := obn_e h
  obtain ⟨r12, s10, e11, h⟩ := orn_e h
  refine oc_RX7_313 (rb := x0) (a1 := .int x1) hX dX7_test_12 (Nat.le_of_ble_eq_true rfl) e9 (hc _ _ _ _ e11) ?_
  refine os_astore (r := r12) hX dX7_test_15 (by decide) rfl ?_
  dsimp only [List.set]
  refine os_aload_n (r := x0) hX dX7_test_17 rfl rfl ?_
  refine os_dup hX dX7_test_18 (ocat x0) ?_
  obtain ⟨v13, e14, h⟩ := obn_e h
  refine ow_get (r := x0) hX dX7_test_19 oF_RX7_244 (ovi_e e14) ?_
  refine os_aload_n (r := x0) hX dX7_test_22 rfl rfl ?_
  obtain ⟨v15, e16, h⟩ := obn_e h
  refine ow_get (r := x0) hX dX7_test_23 oF_RX7_310 (ovi_e e16) ?_
  refine os_iload_n hX dX7_test_26 rfl rfl ?_
  refine os_isub hX dX7_test_27 ?_
  refine os_iadd hX dX7_test_28 ?_
  obtain ⟨s17, e18, h⟩ := obn_e h
  refine ow_put (r := x0) (x := .int (v13 + (v15 - v6))) hX dX7_test_29 oF_RX7_244 (by decide) (opn_I oT_9_13) e18 ?_
  refine os_aload_n (r := x0) hX dX7_test_32 rfl rfl ?_
  obtain ⟨v19, e20, h⟩ := obn_e h
  refine ow_get (r := x0) hX dX7_test_33 oF_RX7_244 (ovi_e e20) ?_
  refine os_bipush (v := 6) hX dX7_test_36 (by decide) ?_
  refine os_icmp_le (tgt := 46) hX dX7_test_38 (by decide) (fun c21 => ?_) (fun c21 => ?_)
  · rw [if_pos c21] at h
    refine os_aload (r := r12) hX dX7_test_46 rfl ?_
    exact os_aret (r := r12) hX dX7_test_48 rfl (Option.some.inj h)
  · rw [if_neg c21] at h
    refine os_aload_n (r := x0) hX dX7_test_41 rfl rfl ?_
    refine os_iload_n hX dX7_test_42 rfl rfl ?_
    obtain ⟨a22, e23, h⟩ := obn_e h
    obtain ⟨s24, e25, h⟩ := ocv_e h
    refine oc_RX7_299 (rb := x0) (a1 := .int r5) hX dX7_test_43 (Nat.le_of_ble_eq_true rfl) e23 (hc _ _ _ _ e25) ?_
    refine os_aload (r := r12) hX dX7_test_46 rfl ?_
    exact os_aret (r := r12) hX dX7_test_48 rfl (Option.some.inj h)
def oj_X7_beginsArgument_30 (n : Nat) (call : oCl) (κ : oKv) (σ : oSt) : oRs :=
  some (some (.int 1), σ)
def ob_X7_beginsArgument (n : Nat) (call : oCl) (κ : oKv) (x0 : Int32) (σ : oSt) : oRs :=
  if x0 = 2 then
    oj_X7_beginsArgument_30 n call κ σ
  else
    if x0 = 1 then
      oj_X7_beginsArgument_30 n call κ σ
    else
      if x0 = 40 then
        oj_X7_beginsArgument_30 n call κ σ
      else
        if x0 = 223 then
          oj_X7_beginsArgument_30 n call κ σ
        else
          if x0 = 205 then
            oj_X7_beginsArgument_30 n call κ σ
          else
            some (some (.int 0), σ)
set_option maxHeartbeats 4000000 in
theorem qj_X7_beginsArgument_30 {κ : oKv} {n : Nat} {call : oCl} {kc : Nat → List Value → oSt → Option Value × oSt → Prop} {v : Option Value × oSt} {X : Nat → zLv → List Value → oSt → Prop} (hX : oSem RX7 cX7_beginsArgument 1 1 (some .boolean) κ kc v X) (hc : ∀ j av s w, call j av s = some w → kc j av s w) {σ : oSt} (h : oj_X7_beginsArgument_30 n call κ σ = some v) : X 30 [none] [] σ := by
  rw [oj_X7_beginsArgument_30] at h
  refine os_iconst (v := 1) hX dX7_beginsArgument_30 (by decide) ?_
  refine os_goto (tgt := 35) hX dX7_beginsArgument_31 (by decide) ?_
  exact os_nret (ty := .boolean) hX dX7_beginsArgument_35 rfl rfl (by decide) (Option.some.inj h)
set_option maxHeartbeats 4000000 in
theorem qb_X7_beginsArgument {κ : oKv} {n : Nat} {call : oCl} {kc : Nat → List Value → oSt → Option Value × oSt → Prop} {v : Option Value × oSt} {X : Nat → zLv → List Value → oSt → Prop} (hX : oSem RX7 cX7_beginsArgument 1 1 (some .boolean) κ kc v X) (hc : ∀ j av s w, call j av s = some w → kc j av s w) {x0 : Int32} {σ : oSt} (h : ob_X7_beginsArgument n call κ x0 σ = some v) : X 0 [some (.int x0)] [] σ := by
  rw [ob_X7_beginsArgument] at h
  refine os_iload_n hX dX7_beginsArgument_0 rfl rfl ?_
  refine os_iconst (v := 2) hX dX7_beginsArgument_1 (by decide) ?_
  refine os_icmp_eq (tgt := 30) hX dX7_beginsArgument_2 (by decide) (fun c1 => ?_) (fun c1 => ?_)
  · rw [if_pos c1] at h
    refine os_weak hX (lw := [none]) trivial ?_
    exact qj_X7_beginsArgument_30 hX hc h
  · rw [if_neg c1] at h
    refine os_iload_n hX dX7_beginsArgument_5 rfl rfl ?_
    refine os_iconst (v := 1) hX dX7_beginsArgument_6 (by decide) ?_
    refine os_icmp_eq (tgt := 30) hX dX7_beginsArgument_7 (by decide) (fun c2 => ?_) (fun c2 => ?_)
    · rw [if_pos c2] at h
      refine os_weak hX (lw := [none]) trivial ?_
      exact qj_X7_beginsArgument_30 hX hc h
    · rw [if_neg c2] at h
      refine os_iload_n hX dX7_beginsArgument_10 rfl rfl ?_
      refine os_bipush (v := 40) hX dX7_beginsArgument_11 (by decide) ?_
      refine os_icmp_eq (tgt := 30) hX dX7_beginsArgument_13 (by decide) (fun c3 => ?_) (fun c3 => ?_)
      · rw [if_pos c3] at h
        refine os_weak hX (lw := [none]) trivial ?_
        exact qj_X7_beginsArgument_30 hX hc h
      · rw [if_neg c3] at h
        refine os_iload_n hX dX7_beginsArgument_16 rfl rfl ?_
        refine os_sipush (v := 223) hX dX7_beginsArgument_17 (by decide) ?_
        refine os_icmp_eq (tgt := 30) hX dX7_beginsArgument_20 (by decide) (fun c4 => ?_) (fun c4 => ?_)
        · rw [if_pos c4] at h
          refine os_weak hX (lw := [none]) trivial ?_
          exact qj_X7_beginsArgument_30 hX hc h
        · rw [if_neg c4] at h
          refine os_iload_n hX dX7_beginsArgument_23 rfl rfl ?_
          refine os_sipush (v := 205) hX dX7_beginsArgument_24 (by decide) ?_
          refine os_icmp_ne (tgt := 34) hX dX7_beginsArgument_27 (by decide) (fun c5 => ?_) (fun c5 => ?_)
          · rw [if_neg c5] at h
            refine os_iconst (v := 0) hX dX7_beginsArgument_34 (by decide) ?_
            exact os_nret (ty := .boolean) hX dX7_beginsArgument_35 rfl rfl (by decide) (Option.some.inj h)
          · rw [if_pos c5] at h
            refine os_weak hX (lw := [none]) trivial ?_
            exact qj_X7_beginsArgument_30 hX hc h
def ob_X7_beFunction (n : Nat) (call : oCl) (κ : oKv) (x0 : Option Nat) (x1 : Option Nat) (σ : oSt) : oRs :=
  obn (ovr (ofd σ x0 9 3)) fun v1 =>
  obn (oob σ v1 1) fun a3 =>
  oin (call 236 [va_rf v1] σ) fun r7 s5 =>
  obn (opf s5 x1 7 7 (.int r7)) fun s8 =>
  obn (ovr (ofd s8 x0 9 3)) fun v10 =>
  obn (oob s8 v10 1) fun a12 =>
  oin (call 227 [va_rf v10, va_rf x1] s8) fun r16 s14 =>
  olet (onew s14 (.inr (1, odef 1)) (oq 1).2.2) fun s17 =>
  obn ((some s14.2.1)) fun a19 =>
  ocv (call 224 [va_rf (some s14.2.1)] s17) fun s21 =>
  obn (opf s21 x1 7 11 (va_rf (some s14.2.1))) fun s24 =>
  some (none, s24)
set_option maxHeartbeats 4000000 in
theorem qb_X7_beFunction {κ : oKv} {n : Nat} {call : oCl} {kc : Nat → List Value → oSt → Option Value × oSt → Prop} {v : Option Value × oSt} {X : Nat → zLv → List Value → oSt → Prop} (hX : oSem RX7 cX7_beFunction 2 0 none κ kc v X) (hc : ∀ j av s w, call j av s = some w → kc j av s w) {x0 : Option Nat} {x1 : Option Nat} {σ : oSt} (h : ob_X7_beFunction n call κ x0 x1 σ = some v) : X 0 [some (va_rf x0), some (va_rf x1)] [] σ := by
  rw [ob_X7_beFunction] at h
  refine os_aload_n (r := x1) hX dX7_beFunction_0 rfl rfl ?_
  refine os_aload_n (r := x0) hX dX7_beFunction_1 rfl rfl ?_
  obtain ⟨v1, e2, h⟩ := obn_e h
  refine ow_get (r := x0) hX dX7_beFunction_2 oF_RX7_24 (ovr_e e2) ?_
  obtain ⟨a3, e4, h⟩ := obn_e h
  obtain ⟨r7, s5, e6, h⟩ := oin_e h
  refine oc_RX7_238 (rb := v1)  hX dX7_beFunction_5 (by simp only [List.map_cons, List.map_nil, List.sum_cons, List.sum_nil, ocat]; exact Nat.le_of_ble_eq_true rfl) e4 (hc _ _ _ _ e6) ?_
  obtain ⟨s8, e9, h⟩ := obn_e h
  refine ow_put (r := x1) (x := .int r7) hX dX7_beFunction_8 oF_RX7_241 (by decide) (opn_I oT_7_7) e9 ?_
  refine os_aload_n (r := x0) hX dX7_beFunction_11 rfl rfl ?_
  obtain ⟨v10, e11, h⟩ := obn_e h
  refine ow_get (r := x0) hX dX7_beFunction_12 oF_RX7_24 (ovr_e e11) ?_
  refine os_aload_n (r := x1) hX dX7_beFunction_15 rfl rfl ?_
  obtain ⟨a12, e13, h⟩ := obn_e h
  obtain ⟨r16, s14, e15, h⟩ := oin_e h
  refine oc_RX7_151 (rb := v10) (a1 := va_rf x1) hX dX7_beFunction_16 (Nat.le_of_ble_eq_true rfl) e13 (hc _ _ _ _ e15) ?_
  refine os_pop hX dX7_beFunction_19 rfl ?_
  refine os_aload_n (r := x1) hX dX7_beFunction_20 rfl rfl ?_
  obtain ⟨s17, e18, h⟩ := olet_e h
  refine os_new hX dX7_beFunction_21 oN_RX7_17 ?_
  rw [← e18]
  refine os_dup hX dX7_beFunction_24 (ocat (some s14.2.1)) ?_
  obtain ⟨a19, e20, h⟩ := obn_e h
  obtain ⟨s21, e22, h⟩ := ocv_e h
  refine oc_RX7_19 (rb := (some s14.2.1))  hX dX7_beFunction_25 (by simp only [List.map_cons, List.map_nil, List.sum_cons, List.sum_nil, ocat]; exact Nat.le_of_ble_eq_true rfl) e20 (hc _ _ _ _ e22) ?_
  obtain ⟨s24, e25, h⟩ := obn_e h
  refine ow_put (r := x1) (x := va_rf (some s14.2.1)) hX dX7_beFunction_28 oF_RX7_235 (by decide) (orf_n (Or.inl ⟨_, oT_7_11⟩) (some s14.2.1)) e25 ?_
  exact os_vret hX dX7_beFunction_31 rfl (Option.some.inj h)
def ob_X7_tellParameter (n : Nat) (call : oCl) (κ : oKv) (x0 : Option Nat) (x1 : Option Nat) (σ : oSt) : oRs :=
  obn (oob σ x0 9) fun a1 =>
  orn (call 115 [va_rf x0] σ) fun r5 s3 =>
  obn (ovr (ofd s3 x1 7 11)) fun v6 =>
  obn (oob s3 v6 1) fun a8 =>
  oin (call 227 [va_rf v6, va_rf r5] s3) fun r12 s10 =>
  obn (oob s10 x0 9) fun a13 =>
  ocv (call 116 [va_rf x0, va_rf r5] s10) fun s15 =>
  some (none, s15)
set_option maxHeartbeats 4000000 in
theorem qb_X7_tellParameter {κ : oKv} {n : Nat} {call : oCl} {kc : Nat → List Value → oSt → Option Value × oSt → Prop} {v : Option Value × oSt} {X : Nat → zLv → List Value → oSt → Prop} (hX : oSem RX7 cX7_tellParameter 3 0 none κ kc v X) (hc : ∀ j av s w, call j av s = some w → kc j av s w) {x0 : Option Nat} {x1 : Option Nat} {σ : oSt} (h : ob_X7_tellParameter n call κ x0 x1 σ = some v) : X 0 [some (va_rf x0), some (va_rf x1), none] [] σ := by
  rw [ob_X7_tellParameter] at h
  refine os_aload_n (r := x0) hX dX7_tellParameter_0 rfl rfl ?_
  obtain ⟨a1, e2, h⟩ := obn_e h
  obtain ⟨r5, s3, e4, h⟩ := orn_e h
  refine oc_RX7_124 (rb := x0)  hX dX7_tellParameter_1 (Nat.le_of_ble_eq_true rfl) e2 (hc _ _ _ _ e4) ?_
  refine os_astore_n (r := r5) hX dX7_tellParameter_4 rfl (by decide) (ozlo (i := 1) (r := x1) rfl) ?_
  dsimp only [List.set]
  refine os_aload_n (r := x1) hX dX7_tellParameter_5 rfl rfl ?_
  obtain ⟨v6, e7, h⟩ := obn_e h
  refine ow_get (r := x1) hX dX7_tellParameter_6 oF_RX7_235 (ovr_e e7) ?_
  refine os_aload_n (r := r5) hX dX7_tellParameter_9 rfl rfl ?_
  obtain ⟨a8, e9, h⟩ := obn_e h
  obtain ⟨r12, s10, e11, h⟩ := oin_e h
  refine oc_RX7_151 (rb := v6) (a1 := va_rf r5) hX dX7_tellParameter_10 (Nat.le_of_ble_eq_true rfl) e9 (hc _ _ _ _ e11) ?_
  refine os_pop hX dX7_tellParameter_13 rfl ?_
  refine os_aload_n (r := x0) hX dX7_tellParameter_14 rfl rfl ?_
  refine os_aload_n (r := r5) hX dX7_tellParameter_15 rfl rfl ?_
  obtain ⟨a13, e14, h⟩ := obn_e h
  obtain ⟨s15, e16, h⟩ := ocv_e h
  refine oc_RX7_131 (rb := x0) (a1 := va_rf r5) hX dX7_tellParameter_16 (Nat.le_of_ble_eq_true rfl) e14 (hc _ _ _ _ e16) ?_
  exact os_vret hX dX7_tellParameter_19 rfl (Option.some.inj h)
def ob_X7_readIndex (n : Nat) (call : oCl) (κ : oKv) (x0 : Option Nat) (x1 : Option Nat) (σ : oSt) : oRs :=
  obn (oob σ x0 9) fun a1 =>
  oin (call 106 [va_rf x0] σ) fun r5 s3 =>
  obn (opf s3 x1 7 4 (.int r5)) fun s6 =>
  obn (oob s6 x0 9) fun a8 =>
  orn (call 119 [va_rf x0] s6) fun r12 s10 =>
  obn (opf s10 x1 7 9 (va_rf r12)) fun s13 =>
  obn (oob s13 x0 9) fun a15 =>
  oin (call 106 [va_rf x0] s13) fun r19 s17 =>
  obn (opf s17 x1 7 3 (.int r19)) fun s20 =>
  obn (oob s20 x0 9) fun a22 =>
  ocv (call 108 [va_rf x0, .int 91] s20) fun s24 =>
  obn (oob s24 x0 9) fun a27 =>
  orn (call 121 [va_rf x0] s24) fun r31 s29 =>
  obn (opf s29 x1 7 15 (va_rf r31)) fun s32 =>
  obn (oob s32 x0 9) fun a34 =>
  ocv (call 108 [va_rf x0, .int 93] s32) fun s36 =>
  olet (onew s36 (.inr (11, odef 11)) (oq 11).2.2) fun s39 =>
  obn ((some s36.2.1)) fun a41 =>
  ocv (call 8 [va_rf (some s36.2.1)] s39) fun s43 =>
  obn (ovr (ofd s43 x1 7 15)) fun v46 =>
  obn (ovr (ofd s43 v46 7 19)) fun v48 =>
  obn (oob s43 (some s36.2.1) 11) fun a50 =>
  ocv (call 124 [va_rf (some s36.2.1), va_rf v48, .int 1] s43) fun s52 =>
  obn (ovr (ofd s52 x1 7 9)) fun v55 =>
  obn (oob s52 (some s36.2.1) 11) fun a57 =>
  ocv (call 10 [va_rf (some s36.2.1), va_rf v55, .int (-1)] s52) fun s59 =>
  obn (oob s59 x0 9) fun a62 =>
  orn (call 118 [va_rf x0, .int 302] s59) fun r66 s64 =>
  obn (opf s64 x1 7 17 (va_rf r66)) fun s67 =>
  obn (ovr (ofd s67 x1 7 17)) fun v69 =>
  olet (onew s67 (.inr (1, odef 1)) (oq 1).2.2) fun s71 =>
  obn ((some s67.2.1)) fun a73 =>
  ocv (call 224 [va_rf (some s67.2.1)] s71) fun s75 =>
  obn (opf s75 v69 7 18 (va_rf (some s67.2.1))) fun s78 =>
  obn (ovr (ofd s78 x1 7 17)) fun v80 =>
  obn (ovr (ofd s78 v80 7 18)) fun v82 =>
  obn (ovr (ofd s78 x1 7 15)) fun v84 =>
  obn (ovr (ofd s78 v84 7 19)) fun v86 =>
  obn (oob s78 x0 9) fun a88 =>
  orn (call 123 [va_rf x0, va_rf v86, .int 301] s78) fun r92 s90 =>
  obn (oob s90 v82 1) fun a93 =>
  oin (call 227 [va_rf v82, va_rf r92] s90) fun r97 s95 =>
  obn (ovr (ofd s95 x1 7 17)) fun v98 =>
  obn (ovr (ofd s95 v98 7 18)) fun v100 =>
  obn (oob s95 x0 9) fun a102 =>
  orn (call 123 [va_rf x0, va_rf (some s36.2.1), .int 60] s95) fun r106 s104 =>
  obn (oob s104 v100 1) fun a107 =>
  oin (call 227 [va_rf v100, va_rf r106] s104) fun r111 s109 =>
  some (none, s109)
set_option maxHeartbeats 4000000 in
theorem qb_X7_readIndex {κ : oKv} {n : Nat} {call : oCl} {kc : Nat → List Value → oSt → Option Value × oSt → Prop} {v : Option Value × oSt} {X : Nat → zLv → List Value → oSt → Prop} (hX : oSem RX7 cX7_readIndex 3 0 none κ kc v X) (hc : ∀ j av s w, call j av s = some w → kc j av s w) {x0 : Option Nat} {x1 : Option Nat} {σ : oSt} (h : ob_X7_readIndex n call κ x0 x1 σ = some v) : X 0 [some (va_rf x0), some (va_rf x1), none] [] σ := by
  rw [ob_X7_readIndex] at h
  refine os_aload_n (r := x1) hX dX7_readIndex_0 rfl rfl ?_
  refine os_aload_n (r := x0) hX dX7_readIndex_1 rfl rfl ?_
  obtain ⟨a1, e2, h⟩ := obn_e h
  obtain ⟨r5, s3, e4, h⟩ := oin_e h
  refine oc_RX7_95 (rb := x0)  hX dX7_readIndex_2 (by simp only [List.map_cons, List.map_nil, List.sum_cons, List.sum_nil, ocat]; exact Nat.le_of_ble_eq_true rfl) e2 (hc _ _ _ _ e4) ?_
  obtain ⟨s6, e7, h⟩ := obn_e h
  refine ow_put (r := x1) (x := .int r5) hX dX7_readIndex_5 oF_RX7_202 (by decide) (opn_I oT_7_4) e7 ?_
  refine os_aload_n (r := x1) hX dX7_readIndex_8 rfl rfl ?_
  refine os_aload_n (r := x0) hX dX7_readIndex_9 rfl rfl ?_
  obtain ⟨a8, e9, h⟩ := obn_e h
  obtain ⟨r12, s10, e11, h⟩ := orn_e h
  refine oc_RX7_205 (rb := x0)  hX dX7_readIndex_10 (by simp only [List.map_cons, List.map_nil, List.sum_cons, List.sum_nil, ocat]; exact Nat.le_of_ble_eq_true rfl) e9 (hc _ _ _ _ e11) ?_
  obtain ⟨s13, e14, h⟩ := obn_e h
  refine ow_put (r := x1) (x := va_rf r12) hX dX7_readIndex_13 oF_RX7_208 (by decide) (orf_n (Or.inl ⟨_, oT_7_9⟩) r12) e14 ?_
  refine os_aload_n (r := x1) hX dX7_readIndex_16 rfl rfl ?_
  refine os_aload_n (r := x0) hX dX7_readIndex_17 rfl rfl ?_
  obtain ⟨a15, e16, h⟩ := obn_e h
  obtain ⟨r19, s17, e18, h⟩ := oin_e h
  refine oc_RX7_95 (rb := x0)  hX dX7_readIndex_18 (by simp only [List.map_cons, List.map_nil, List.sum_cons, List.sum_nil, ocat]; exact Nat.le_of_ble_eq_true rfl) e16 (hc _ _ _ _ e18) ?_
  obtain ⟨s20, e21, h⟩ := obn_e h
  refine ow_put (r := x1) (x := .int r19) hX dX7_readIndex_21 oF_RX7_258 (by decide) (opn_I oT_7_3) e21 ?_
  refine os_aload_n (r := x0) hX dX7_readIndex_24 rfl rfl ?_
  refine os_bipush (v := 91) hX dX7_readIndex_25 (by decide) ?_
  obtain ⟨a22, e23, h⟩ := obn_e h
  obtain ⟨s24, e25, h⟩ := ocv_e h
  refine oc_RX7_109 (rb := x0) (a1 := .int 91) hX dX7_readIndex_27 (Nat.le_of_ble_eq_true rfl) e23 (hc _ _ _ _ e25) ?_
  refine os_aload_n (r := x1) hX dX7_readIndex_30 rfl rfl ?_
  refine os_aload_n (r := x0) hX dX7_readIndex_31 rfl rfl ?_
  obtain ⟨a27, e28, h⟩ := obn_e h
  obtain ⟨r31, s29, e30, h⟩ := orn_e h
  refine oc_RX7_185 (rb := x0)  hX dX7_readIndex_32 (by simp only [List.map_cons, List.map_nil, List.sum_cons, List.sum_nil, ocat]; exact Nat.le_of_ble_eq_true rfl) e28 (hc _ _ _ _ e30) ?_
  obtain ⟨s32, e33, h⟩ := obn_e h
  refine ow_put (r := x1) (x := va_rf r31) hX dX7_readIndex_35 oF_RX7_189 (by decide) (orf_n (Or.inl ⟨_, oT_7_15⟩) r31) e33 ?_
  refine os_aload_n (r := x0) hX dX7_readIndex_38 rfl rfl ?_
  refine os_bipush (v := 93) hX dX7_readIndex_39 (by decide) ?_
  obtain ⟨a34, e35, h⟩ := obn_e h
  obtain ⟨s36, e37, h⟩ := ocv_e h
  refine oc_RX7_109 (rb := x0) (a1 := .int 93) hX dX7_readIndex_41 (Nat.le_of_ble_eq_true rfl) e35 (hc _ _ _ _ e37) ?_
  obtain ⟨s39, e40, h⟩ := olet_e h
  refine os_new hX dX7_readIndex_44 oN_RX7_261 ?_
  rw [← e40]
  refine os_dup hX dX7_readIndex_47 (ocat (some s36.2.1)) ?_
  obtain ⟨a41, e42, h⟩ := obn_e h
  obtain ⟨s43, e44, h⟩ := ocv_e h
  refine oc_RX7_263 (rb := (some s36.2.1))  hX dX7_readIndex_48 (by simp only [List.map_cons, List.map_nil, List.sum_cons, List.sum_nil, ocat]; exact Nat.le_of_ble_eq_true rfl) e42 (hc _ _ _ _ e44) ?_
  refine os_astore_n (r := (some s36.2.1)) hX dX7_readIndex_51 rfl (by decide) (ozlo (i := 1) (r := x1) rfl) ?_
  dsimp only [List.set]
  refine os_aload_n (r := (some s36.2.1)) hX dX7_readIndex_52 rfl rfl ?_
  refine os_aload_n (r := x1) hX dX7_readIndex_53 rfl rfl ?_
  obtain ⟨v46, e47, h⟩ := obn_e h
  refine ow_get (r := x1) hX dX7_readIndex_54 oF_RX7_189 (ovr_e e47) ?_
  obtain ⟨v48, e49, h⟩ := obn_e h
  refine ow_get (r := v46) hX dX7_readIndex_57 oF_RX7_192 (ovr_e e49) ?_
  refine os_iconst (v := 1) hX dX7_readIndex_60 (by decide) ?_
  obtain ⟨a50, e51, h⟩ := obn_e h
  obtain ⟨s52, e53, h⟩ := ocv_e h
  refine oc_RX7_264 (rb := (some s36.2.1)) (a1 := va_rf v48) (a2 := .int 1) hX dX7_readIndex_61 (Nat.le_of_ble_eq_true rfl) e51 (hc _ _ _ _ e53) ?_
  refine os_aload_n (r := (some s36.2.1)) hX dX7_readIndex_64 rfl rfl ?_
  refine os_aload_n (r := x1) hX dX7_readIndex_65 rfl rfl ?_
  obtain ⟨v55, e56, h⟩ := obn_e h
  refine ow_get (r := x1) hX dX7_readIndex_66 oF_RX7_208 (ovr_e e56) ?_
  refine os_iconst (v := (-1)) hX dX7_readIndex_69 (by decide) ?_
  obtain ⟨a57, e58, h⟩ := obn_e h
  obtain ⟨s59, e60, h⟩ := ocv_e h
  refine oc_RX7_268 (rb := (some s36.2.1)) (a1 := va_rf v55) (a2 := .int (-1)) hX dX7_readIndex_70 (Nat.le_of_ble_eq_true rfl) e58 (hc _ _ _ _ e60) ?_
  refine os_aload_n (r := x1) hX dX7_readIndex_73 rfl rfl ?_
  refine os_aload_n (r := x0) hX dX7_readIndex_74 rfl rfl ?_
  refine os_sipush (v := 302) hX dX7_readIndex_75 (by decide) ?_
  obtain ⟨a62, e63, h⟩ := obn_e h
  obtain ⟨r66, s64, e65, h⟩ := orn_e h
  refine oc_RX7_163 (rb := x0) (a1 := .int 302) hX dX7_readIndex_78 (by simp only [List.map_cons, List.map_nil, List.sum_cons, List.sum_nil, ocat]; exact Nat.le_of_ble_eq_true rfl) e63 (hc _ _ _ _ e65) ?_
  obtain ⟨s67, e68, h⟩ := obn_e h
  refine ow_put (r := x1) (x := va_rf r66) hX dX7_readIndex_81 oF_RX7_199 (by decide) (orf_n (Or.inl ⟨_, oT_7_17⟩) r66) e68 ?_
  refine os_aload_n (r := x1) hX dX7_readIndex_84 rfl rfl ?_
  obtain ⟨v69, e70, h⟩ := obn_e h
  refine ow_get (r := x1) hX dX7_readIndex_85 oF_RX7_199 (ovr_e e70) ?_
  obtain ⟨s71, e72, h⟩ := olet_e h
  refine os_new hX dX7_readIndex_88 oN_RX7_17 ?_
  rw [← e72]
  refine os_dup hX dX7_readIndex_91 (ocat (some s67.2.1)) ?_
  obtain ⟨a73, e74, h⟩ := obn_e h
  obtain ⟨s75, e76, h⟩ := ocv_e h
  refine oc_RX7_19 (rb := (some s67.2.1))  hX dX7_readIndex_92 (by simp only [List.map_cons, List.map_nil, List.sum_cons, List.sum_nil, ocat]; exact Nat.le_of_ble_eq_true rfl) e74 (hc _ _ _ _ e76) ?_
  obtain ⟨s78, e79, h⟩ := obn_e h
  refine ow_put (r := v69) (x := va_rf (some s67.2.1)) hX dX7_readIndex_95 oF_RX7_271 (by decide) (orf_n (Or.inl ⟨_, oT_7_18⟩) (some s67.2.1)) e79 ?_
  refine os_aload_n (r := x1) hX dX7_readIndex_98 rfl rfl ?_
  obtain ⟨v80, e81, h⟩ := obn_e h
  refine ow_get (r := x1) hX dX7_readIndex_99 oF_RX7_199 (ovr_e e81) ?_
  obtain ⟨v82, e83, h⟩ := obn_e h
  refine ow_get (r := v80) hX dX7_readIndex_102 oF_RX7_271 (ovr_e e83) ?_
  refine os_aload_n (r := x0) hX dX7_readIndex_105 rfl rfl ?_
  refine os_aload_n (r := x1) hX dX7_readIndex_106 rfl rfl ?_
  obtain ⟨v84, e85, h⟩ := obn_e h
  refine ow_get (r := x1) hX dX7_readIndex_107 oF_RX7_189 (ovr_e e85) ?_
  obtain ⟨v86, e87, h⟩ := obn_e h
  refine ow_get (r := v84) hX dX7_readIndex_110 oF_RX7_192 (ovr_e e87) ?_
  refine os_sipush (v := 301) hX dX7_readIndex_113 (by decide) ?_
  obtain ⟨a88, e89, h⟩ := obn_e h
  obtain ⟨r92, s90, e91, h⟩ := orn_e h
  refine oc_RX7_195 (rb := x0) (a1 := va_rf v86) (a2 := .int 301) hX dX7_readIndex_116 (by simp only [List.map_cons, List.map_nil, List.sum_cons, List.sum_nil, ocat]; exact Nat.le_of_ble_eq_true rfl) e89 (hc _ _ _ _ e91) ?_
  obtain ⟨a93, e94, h⟩ := obn_e h
  obtain ⟨r97, s95, e96, h⟩ := oin_e h
  refine oc_RX7_151 (rb := v82) (a1 := va_rf r92) hX dX7_readIndex_119 (Nat.le_of_ble_eq_true rfl) e94 (hc _ _ _ _ e96) ?_
  refine os_pop hX dX7_readIndex_122 rfl ?_
  refine os_aload_n (r := x1) hX dX7_readIndex_123 rfl rfl ?_
  obtain ⟨v98, e99, h⟩ := obn_e h
  refine ow_get (r := x1) hX dX7_readIndex_124 oF_RX7_199 (ovr_e e99) ?_
  obtain ⟨v100, e101, h⟩ := obn_e h
  refine ow_get (r := v98) hX dX7_readIndex_127 oF_RX7_271 (ovr_e e101) ?_
  refine os_aload_n (r := x0) hX dX7_readIndex_130 rfl rfl ?_
  refine os_aload_n (r := (some s36.2.1)) hX dX7_readIndex_131 rfl rfl ?_
  refine os_bipush (v := 60) hX dX7_readIndex_132 (by decide) ?_
  obtain ⟨a102, e103, h⟩ := obn_e h
  obtain ⟨r106, s104, e105, h⟩ := orn_e h
  refine oc_RX7_195 (rb := x0) (a1 := va_rf (some s36.2.1)) (a2 := .int 60) hX dX7_readIndex_134 (by simp only [List.map_cons, List.map_nil, List.sum_cons, List.sum_nil, ocat]; exact Nat.le_of_ble_eq_true rfl) e103 (hc _ _ _ _ e105) ?_
  obtain ⟨a107, e108, h⟩ := obn_e h
  obtain ⟨r111, s109, e110, h⟩ := oin_e h
  refine oc_RX7_151 (rb := v100) (a1 := va_rf r106) hX dX7_readIndex_137 (Nat.le_of_ble_eq_true rfl) e108 (hc _ _ _ _ e110) ?_
  refine os_pop hX dX7_readIndex_140 rfl ?_
  exact os_vret hX dX7_readIndex_141 rfl (Option.some.inj h)
def oj_X7_argument_115 (n : Nat) (call : oCl) (κ : oKv) (x2 : Int32) (x3 : Option Nat) (σ : oSt) : oRs :=
  obn (opf σ x3 7 3 (.int x2)) fun s1 =>
  some (some (va_rf x3), s1)
def oj_X7_argument_109 (n : Nat) (call : oCl) (κ : oKv) (x0 : Option Nat) (x2 : Int32) (x3 : Option Nat) (σ : oSt) : oRs :=
  obn (oob σ x0 9) fun a1 =>
  ocv (call 108 [va_rf x0, .int 41] σ) fun s3 =>
  oj_X7_argument_115 n call κ x2 x3 s3
def oj_X7_argument_34 (n : Nat) (call : oCl) (κ : oKv) (x0 : Option Nat) (x2 : Int32) (x3 : Option Nat) (σ : oSt) : oRs :=
  obn (oob σ x0 9) fun a1 =>
  ocv (call 105 [va_rf x0] σ) fun s3 =>
  oj_X7_argument_115 n call κ x2 x3 s3
def ob_X7_argument (n : Nat) (call : oCl) (κ : oKv) (x0 : Option Nat) (x1 : Int32) (σ : oSt) : oRs :=
  obn (oob σ x0 9) fun a1 =>
  oin (call 106 [va_rf x0] σ) fun r5 s3 =>
  obn (oob s3 x0 9) fun a6 =>
  oin (call 104 [va_rf x0] s3) fun r10 s8 =>
  obn (oob s8 x0 9) fun a11 =>
  orn (call 118 [va_rf x0, .int r10] s8) fun r15 s13 =>
  obn (oob s13 x0 9) fun a16 =>
  oin (call 104 [va_rf x0] s13) fun r20 s18 =>
  if r20 = 223 then
    oj_X7_argument_34 n call κ x0 r5 r15 s18
  else
    obn (oob s18 x0 9) fun a22 =>
    oin (call 104 [va_rf x0] s18) fun r26 s24 =>
    if r26 = 205 then
      oj_X7_argument_34 n call κ x0 r5 r15 s24
    else
      obn (oob s24 x0 9) fun a28 =>
      oin (call 104 [va_rf x0] s24) fun r32 s30 =>
      if r32 = 40 then
        obn (oob s30 x0 9) fun a34 =>
        ocv (call 105 [va_rf x0] s30) fun s36 =>
        obn (oob s36 x0 9) fun a39 =>
        oin (call 104 [va_rf x0] s36) fun r43 s41 =>
        if r43 = 206 then
          obn (oob s41 x0 9) fun a65 =>
          orn (call 135 [va_rf x0, .int (x1 + 1)] s41) fun r69 s67 =>
          oj_X7_argument_109 n call κ x0 r5 r69 s67
        else
          obn (oob s41 x0 9) fun a45 =>
          orn (call 121 [va_rf x0] s41) fun r49 s47 =>
          obn (opf s47 r49 7 6 (.int 0)) fun s50 =>
          obn (ovr (ofd s50 r49 7 19)) fun v52 =>
          obn (oob s50 v52 11) fun a54 =>
          oin (call 14 [va_rf v52] s50) fun r58 s56 =>
          if r58 = 0 then
            obn (oob s56 x0 9) fun a60 =>
            ocv (call 122 [va_rf x0, .int r5] s56) fun s62 =>
            oj_X7_argument_109 n call κ x0 r5 r49 s62
          else
            oj_X7_argument_109 n call κ x0 r5 r49 s56
      else
        obn (oob s30 x0 9) fun a70 =>
        orn (call 120 [va_rf x0, .int 1] s30) fun r74 s72 =>
        oj_X7_argument_115 n call κ r5 r74 s72
set_option maxHeartbeats 4000000 in
theorem qj_X7_argument_115 {κ : oKv} {n : Nat} {call : oCl} {kc : Nat → List Value → oSt → Option Value × oSt → Prop} {v : Option Value × oSt} {X : Nat → zLv → List Value → oSt → Prop} (hX : oSem RX7 cX7_argument 4 0 (some (.object "LiquidTongue$Node")) κ kc v X) (hc : ∀ j av s w, call j av s = some w → kc j av s w) {x2 : Int32} {x3 : Option Nat} {σ : oSt} (h : oj_X7_argument_115 n call κ x2 x3 σ = some v) : X 115 [none, none, some (.int x2), some (va_rf x3)] [] σ := by
  rw [oj_X7_argument_115] at h
  refine os_aload_n (r := x3) hX dX7_argument_115 rfl rfl ?_
  refine os_iload_n hX dX7_argument_116 rfl rfl ?_
  obtain ⟨s1, e2, h⟩ := obn_e h
  refine ow_put (r := x3) (x := .int x2) hX dX7_argument_117 oF_RX7_258 (by decide) (opn_I oT_7_3) e2 ?_
  refine os_aload_n (r := x3) hX dX7_argument_120 rfl rfl ?_
  exact os_aret (r := x3) hX dX7_argument_121 rfl (Option.some.inj h)
set_option maxHeartbeats 4000000 in
theorem qj_X7_argument_109 {κ : oKv} {n : Nat} {call : oCl} {kc : Nat → List Value → oSt → Option Value × oSt → Prop} {v : Option Value × oSt} {X : Nat → zLv → List Value → oSt → Prop} (hX : oSem RX7 cX7_argument 4 0 (some (.object "LiquidTongue$Node")) κ kc v X) (hc : ∀ j av s w, call j av s = some w → kc j av s w) {x0 : Option Nat} {x2 : Int32} {x3 : Option Nat} {σ : oSt} (h : oj_X7_argument_109 n call κ x0 x2 x3 σ = some v) : X 109 [some (va_rf x0), none, some (.int x2), some (va_rf x3)] [] σ := by
  rw [oj_X7_argument_109] at h
  refine os_aload_n (r := x0) hX dX7_argument_109 rfl rfl ?_
  refine os_bipush (v := 41) hX dX7_argument_110 (by decide) ?_
  obtain ⟨a1, e2, h⟩ := obn_e h
  obtain ⟨s3, e4, h⟩ := ocv_e h
  refine oc_RX7_109 (rb := x0) (a1 := .int 41) hX dX7_argument_112 (Nat.le_of_ble_eq_true rfl) e2 (hc _ _ _ _ e4) ?_
  refine os_weak hX (lw := [none, none, some (.int x2), some (va_rf x3)]) ⟨rfl, rfl, trivial⟩ ?_
  exact qj_X7_argument_115 hX hc h
set_option maxHeartbeats 4000000 in
theorem qj_X7_argument_34 {κ : oKv} {n : Nat} {call : oCl} {kc : Nat → List Value → oSt → Option Value × oSt → Prop} {v : Option Value × oSt} {X : Nat → zLv → List Value → oSt → Prop} (hX : oSem RX7 cX7_argument 4 0 (some (.object "LiquidTongue$Node")) κ kc v X) (hc : ∀ j av s w, call j av s = some w → kc j av s w) {x0 : Option Nat} {x2 : Int32} {x3 : Option Nat} {σ : oSt} (h : oj_X7_argument_34 n call κ x0 x2 x3 σ = some v) : X 34 [some (va_rf x0), none, some (.int x2), some (va_rf x3)] [] σ := by
  rw [oj_X7_argument_34] at h
  refine os_aload_n (r := x0) hX dX7_argument_34 rfl rfl ?_
  obtain ⟨a1, e2, h⟩ := obn_e h
  obtain ⟨s3, e4, h⟩ := ocv_e h
  refine oc_RX7_98 (rb := x0)  hX dX7_argument_35 (Nat.le_of_ble_eq_true rfl) e2 (hc _ _ _ _ e4) ?_
  refine os_goto (tgt := 115) hX dX7_argument_38 (by decide) ?_
  refine os_weak hX (lw := [none, none, some (.int x2), some (va_rf x3)]) ⟨rfl, rfl, trivial⟩ ?_
  exact qj_X7_argument_115 hX hc h
set_option maxHeartbeats 4000000 in
theorem qb_X7_argument {κ : oKv} {n : Nat} {call : oCl} {kc : Nat → List Value → oSt → Option Value × oSt → Prop} {v : Option Value × oSt} {X : Nat → zLv → List Value → oSt → Prop} (hX : oSem RX7 cX7_argument 4 0 (some (.object "LiquidTongue$Node")) κ kc v X) (hc : ∀ j av s w, call j av s = some w → kc j av s w) {x0 : Option Nat} {x1 : Int32} {σ : oSt} (h : ob_X7_argument n call κ x0 x1 σ = some v) : X 0 [some (va_rf x0), some (.int x1), none, none] [] σ := by
  rw [ob_X7_argument] at h
  refine os_aload_n (r := x0) hX dX7_argument_0 rfl rfl ?_
  obtain ⟨a1, e2, h⟩ := obn_e h
  obtain ⟨r5, s3, e4, h⟩ := oin_e h
  refine oc_RX7_95 (rb := x0)  hX dX7_argument_1 (Nat.le_of_ble_eq_true rfl) e2 (hc _ _ _ _ e4) ?_
  refine os_istore_n hX dX7_argument_4 rfl (by decide) rfl ?_
  dsimp only [List.set]
  refine os_aload_n (r := x0) hX dX7_argument_5 rfl rfl ?_
  refine os_aload_n (r := x0) hX dX7_argument_6 rfl rfl ?_
  obtain ⟨a6, e7, h⟩ := obn_e h
  obtain ⟨r10, s8, e9, h⟩ := oin_e h
  refine oc_RX7_57 (rb := x0)  hX dX7_argument_7 (by simp only [List.map_cons, List.map_nil, List.sum_cons, List.sum_nil, ocat]; exact Nat.le_of_ble_eq_true rfl) e7 (hc _ _ _ _ e9) ?_
  obtain ⟨a11, e12, h⟩ := obn_e h
  obtain ⟨r15, s13, e14, h⟩ := orn_e h
  refine oc_RX7_163 (rb := x0) (a1 := .int r10) hX dX7_argument_10 (Nat.le_of_ble_eq_true rfl) e12 (hc _ _ _ _ e14) ?_
  refine os_astore_n (r := r15) hX dX7_argument_13 rfl (by decide) rfl ?_
  dsimp only [List.set]
  refine os_aload_n (r := x0) hX dX7_argument_14 rfl rfl ?_
  obtain ⟨a16, e17, h⟩ := obn_e h
  obtain ⟨r20, s18, e19, h⟩ := oin_e h
  refine oc_RX7_57 (rb := x0)  hX dX7_argument_15 (Nat.le_of_ble_eq_true rfl) e17 (hc _ _ _ _ e19) ?_
  refine os_sipush (v := 223) hX dX7_argument_18 (by decide) ?_
  refine os_icmp_eq (tgt := 34) hX dX7_argument_21 (by decide) (fun c21 => ?_) (fun c21 => ?_)
  · rw [if_pos c21] at h
    refine os_weak hX (lw := [some (va_rf x0), none, some (.int r5), some (va_rf r15)]) ⟨rfl, rfl, rfl, trivial⟩ ?_
    exact qj_X7_argument_34 hX hc h
  · rw [if_neg c21] at h
    refine os_aload_n (r := x0) hX dX7_argument_24 rfl rfl ?_
    obtain ⟨a22, e23, h⟩ := obn_e h
    obtain ⟨r26, s24, e25, h⟩ := oin_e h
    refine oc_RX7_57 (rb := x0)  hX dX7_argument_25 (Nat.le_of_ble_eq_true rfl) e23 (hc _ _ _ _ e25) ?_
    refine os_sipush (v := 205) hX dX7_argument_28 (by decide) ?_
    refine os_icmp_ne (tgt := 41) hX dX7_argument_31 (by decide) (fun c27 => ?_) (fun c27 => ?_)
    · rw [if_neg c27] at h
      refine os_aload_n (r := x0) hX dX7_argument_41 rfl rfl ?_
      obtain ⟨a28, e29, h⟩ := obn_e h
      obtain ⟨r32, s30, e31, h⟩ := oin_e h
      refine oc_RX7_57 (rb := x0)  hX dX7_argument_42 (Nat.le_of_ble_eq_true rfl) e29 (hc _ _ _ _ e31) ?_
      refine os_bipush (v := 40) hX dX7_argument_45 (by decide) ?_
      refine os_icmp_eq (tgt := 59) hX dX7_argument_47 (by decide) (fun c33 => ?_) (fun c33 => ?_)
      · rw [if_pos c33] at h
        refine os_aload_n (r := x0) hX dX7_argument_59 rfl rfl ?_
        obtain ⟨a34, e35, h⟩ := obn_e h
        obtain ⟨s36, e37, h⟩ := ocv_e h
        refine oc_RX7_98 (rb := x0)  hX dX7_argument_60 (Nat.le_of_ble_eq_true rfl) e35 (hc _ _ _ _ e37) ?_
        refine os_aload_n (r := x0) hX dX7_argument_63 rfl rfl ?_
        obtain ⟨a39, e40, h⟩ := obn_e h
        obtain ⟨r43, s41, e42, h⟩ := oin_e h
        refine oc_RX7_57 (rb := x0)  hX dX7_argument_64 (Nat.le_of_ble_eq_true rfl) e40 (hc _ _ _ _ e42) ?_
        refine os_sipush (v := 206) hX dX7_argument_67 (by decide) ?_
        refine os_icmp_ne (tgt := 84) hX dX7_argument_70 (by decide) (fun c44 => ?_) (fun c44 => ?_)
        · rw [if_neg c44] at h
          refine os_aload_n (r := x0) hX dX7_argument_84 rfl rfl ?_
          obtain ⟨a45, e46, h⟩ := obn_e h
          obtain ⟨r49, s47, e48, h⟩ := orn_e h
          refine oc_RX7_185 (rb := x0)  hX dX7_argument_85 (Nat.le_of_ble_eq_true rfl) e46 (hc _ _ _ _ e48) ?_
          refine os_astore_n (r := r49) hX dX7_argument_88 rfl (by decide) rfl ?_
          dsimp only [List.set]
          refine os_aload_n (r := r49) hX dX7_argument_89 rfl rfl ?_
          refine os_iconst (v := 0) hX dX7_argument_90 (by decide) ?_
          obtain ⟨s50, e51, h⟩ := obn_e h
          refine ow_put (r := r49) (x := .int 0) hX dX7_argument_91 oF_RX7_292 (by decide) (opn_I oT_7_6) e51 ?_
          refine os_aload_n (r := r49) hX dX7_argument_94 rfl rfl ?_
          obtain ⟨v52, e53, h⟩ := obn_e h
          refine ow_get (r := r49) hX dX7_argument_95 oF_RX7_192 (ovr_e e53) ?_
          obtain ⟨a54, e55, h⟩ := obn_e h
          obtain ⟨r58, s56, e57, h⟩ := oin_e h
          refine oc_RX7_295 (rb := v52)  hX dX7_argument_98 (Nat.le_of_ble_eq_true rfl) e55 (hc _ _ _ _ e57) ?_
          refine os_if_ne (tgt := 109) hX dX7_argument_101 (by decide) (fun c59 => ?_) (fun c59 => ?_)
          · rw [if_neg c59] at h
            refine os_weak hX (lw := [some (va_rf x0), none, some (.int r5), some (va_rf r49)]) ⟨rfl, rfl, rfl, trivial⟩ ?_
            exact qj_X7_argument_109 hX hc h
          · rw [if_pos c59] at h
            refine os_aload_n (r := x0) hX dX7_argument_104 rfl rfl ?_
            refine os_iload_n hX dX7_argument_105 rfl rfl ?_
            obtain ⟨a60, e61, h⟩ := obn_e h
            obtain ⟨s62, e63, h⟩ := ocv_e h
            refine oc_RX7_299 (rb := x0) (a1 := .int r5) hX dX7_argument_106 (Nat.le_of_ble_eq_true rfl) e61 (hc _ _ _ _ e63) ?_
            refine os_weak hX (lw := [some (va_rf x0), none, some (.int r5), some (va_rf r49)]) ⟨rfl, rfl, rfl, trivial⟩ ?_
            exact qj_X7_argument_109 hX hc h
        · rw [if_pos c44] at h
          refine os_aload_n (r := x0) hX dX7_argument_73 rfl rfl ?_
          refine os_iload_n hX dX7_argument_74 rfl rfl ?_
          refine os_iconst (v := 1) hX dX7_argument_75 (by decide) ?_
          refine os_iadd hX dX7_argument_76 ?_
          obtain ⟨a65, e66, h⟩ := obn_e h
          obtain ⟨r69, s67, e68, h⟩ := orn_e h
          refine oc_RX7_70 (rb := x0) (a1 := .int (x1 + 1)) hX dX7_argument_77 (Nat.le_of_ble_eq_true rfl) e66 (hc _ _ _ _ e68) ?_
          refine os_astore_n (r := r69) hX dX7_argument_80 rfl (by decide) rfl ?_
          dsimp only [List.set]
          refine os_goto (tgt := 109) hX dX7_argument_81 (by decide) ?_
          refine os_weak hX (lw := [some (va_rf x0), none, some (.int r5), some (va_rf r69)]) ⟨rfl, rfl, rfl, trivial⟩ ?_
          exact qj_X7_argument_109 hX hc h
      · rw [if_neg c33] at h
        refine os_aload_n (r := x0) hX dX7_argument_50 rfl rfl ?_
        refine os_iconst (v := 1) hX dX7_argument_51 (by decide) ?_
        obtain ⟨a70, e71, h⟩ := obn_e h
        obtain ⟨r74, s72, e73, h⟩ := orn_e h
        refine oc_RX7_290 (rb := x0) (a1 := .int 1) hX dX7_argument_52 (Nat.le_of_ble_eq_true rfl) e71 (hc _ _ _ _ e73) ?_
        refine os_astore_n (r := r74) hX dX7_argument_55 rfl (by decide) rfl ?_
        dsimp only [List.set]
        refine os_goto (tgt := 115) hX dX7_argument_56 (by decide) ?_
        refine os_weak hX (lw := [none, none, some (.int r5), some (va_rf r74)]) ⟨rfl, rfl, trivial⟩ ?_
        exact qj_X7_argument_115 hX hc h
    · rw [if_pos c27] at h
      refine os_weak hX (lw := [some (va_rf x0), none, some (.int r5), some (va_rf r15)]) ⟨rfl, rfl, rfl, trivial⟩ ?_
      exact qj_X7_argument_34 hX hc h
theorem olk_X7_expression_25 {x : Int32} (h0 : ¬ x = 40) (h1 : ¬ x = 201) (h2 : ¬ x = 203) (h3 : ¬ x = 205) (h4 : ¬ x = 206) (h5 : ¬ x = 207) (h6 : ¬ x = 212) (h7 : ¬ x = 214) (h8 : ¬ x = 215) (h9 : ¬ x = 216) (h10 : ¬ x = 220) (h11 : ¬ x = 223) : Op.lookupswitch.offset (#[(40, 232), (201, 134), (203, 194), (205, 225), (206, 116), (207, 125), (212, 107), (214, 152), (215, 161), (216, 225), (220, 143), (223, 225)] : Array (Int × Int)).toList 256 x.toInt = 256 := by
  have a0 := z_ne h0 (k := 40) (by decide)
  have a1 := z_ne h1 (k := 201) (by decide)
  have a2 := z_ne h2 (k := 203) (by decide)
  have a3 := z_ne h3 (k := 205) (by decide)
  have a4 := z_ne h4 (k := 206) (by decide)
  have a5 := z_ne h5 (k := 207) (by decide)
  have a6 := z_ne h6 (k := 212) (by decide)
  have a7 := z_ne h7 (k := 214) (by decide)
  have a8 := z_ne h8 (k := 215) (by decide)
  have a9 := z_ne h9 (k := 216) (by decide)
  have a10 := z_ne h10 (k := 220) (by decide)
  have a11 := z_ne h11 (k := 223) (by decide)
  simp [Op.lookupswitch.offset, a0, Ne.symm a0, a1, Ne.symm a1, a2, Ne.symm a2, a3, Ne.symm a3, a4, Ne.symm a4, a5, Ne.symm a5, a6, Ne.symm a6, a7, Ne.symm a7, a8, Ne.symm a8, a9, Ne.symm a9, a10, Ne.symm a10, a11, Ne.symm a11]
def ob_X7_expression (n : Nat) (call : oCl) (κ : oKv) (x0 : Option Nat) (x1 : Int32) (σ : oSt) : oRs :=
  obn (oob σ x0 9) fun a1 =>
  oin (call 104 [va_rf x0] σ) fun r5 s3 =>
  obn (oob s3 x0 9) fun a6 =>
  orn (call 118 [va_rf x0, .int r5] s3) fun r10 s8 =>
  if x1 ≤ 30 then
    obn (oob s8 x0 9) fun a12 =>
    oin (call 104 [va_rf x0] s8) fun r16 s14 =>
    if r16 = 40 then
      obn (oob s14 x0 9) fun a18 =>
      ocv (call 105 [va_rf x0] s14) fun s20 =>
      obn (oob s20 x0 9) fun a23 =>
      orn (call 135 [va_rf x0, .int (x1 + 1)] s20) fun r27 s25 =>
      obn (opf s25 r10 7 12 (va_rf r27)) fun s28 =>
      obn (oob s28 x0 9) fun a30 =>
      ocv (call 108 [va_rf x0, .int 41] s28) fun s32 =>
      some (some (va_rf r10), s32)
    else
    if r16 = 201 then
      obn (oob s14 x0 9) fun a36 =>
      ocv (call 136 [va_rf x0, va_rf r10, .int x1] s14) fun s38 =>
      some (some (va_rf r10), s38)
    else
    if r16 = 203 then
      obn (oob s14 x0 9) fun a42 =>
      ocv (call 105 [va_rf x0] s14) fun s44 =>
      obn (oob s44 x0 9) fun a47 =>
      orn (call 121 [va_rf x0] s44) fun r51 s49 =>
      obn (opf s49 r10 7 15 (va_rf r51)) fun s52 =>
      obn (oob s52 x0 9) fun a54 =>
      oin (call 106 [va_rf x0] s52) fun r58 s56 =>
      obn (opf s56 r10 7 4 (.int r58)) fun s59 =>
      obn (oob s59 x0 9) fun a61 =>
      orn (call 119 [va_rf x0] s59) fun r65 s63 =>
      obn (opf s63 r10 7 9 (va_rf r65)) fun s66 =>
      some (some (va_rf r10), s66)
    else
    if r16 = 205 then
      obn (oob s14 x0 9) fun a69 =>
      ocv (call 105 [va_rf x0] s14) fun s71 =>
      some (some (va_rf r10), s71)
    else
    if r16 = 206 then
      obn (oob s14 x0 9) fun a75 =>
      ocv (call 138 [va_rf x0, va_rf r10, .int x1] s14) fun s77 =>
      some (some (va_rf r10), s77)
    else
    if r16 = 207 then
      obn (oob s14 x0 9) fun a81 =>
      ocv (call 139 [va_rf x0, va_rf r10, .int x1] s14) fun s83 =>
      some (some (va_rf r10), s83)
    else
    if r16 = 212 then
      obn (oob s14 x0 9) fun a87 =>
      ocv (call 140 [va_rf x0, va_rf r10, .int x1] s14) fun s89 =>
      some (some (va_rf r10), s89)
    else
    if r16 = 214 then
      obn (oob s14 x0 9) fun a93 =>
      ocv (call 141 [va_rf x0, va_rf r10, .int x1] s14) fun s95 =>
      some (some (va_rf r10), s95)
    else
    if r16 = 215 then
      obn (oob s14 x0 9) fun a99 =>
      ocv (call 105 [va_rf x0] s14) fun s101 =>
      obn (oob s101 x0 9) fun a104 =>
      orn (call 121 [va_rf x0] s101) fun r108 s106 =>
      obn (opf s106 r10 7 15 (va_rf r108)) fun s109 =>
      obn (ovr (ofd s109 r10 7 15)) fun v111 =>
      obn (ovr (ofd s109 v111 7 19)) fun v113 =>
      obn (oob s109 x0 9) fun a115 =>
      orn (call 123 [va_rf x0, va_rf v113, .int 301] s109) fun r119 s117 =>
      obn (opf s117 r10 7 17 (va_rf r119)) fun s120 =>
      some (some (va_rf r10), s120)
    else
    if r16 = 216 then
      obn (oob s14 x0 9) fun a123 =>
      ocv (call 105 [va_rf x0] s14) fun s125 =>
      some (some (va_rf r10), s125)
    else
    if r16 = 220 then
      obn (oob s14 x0 9) fun a129 =>
      ocv (call 144 [va_rf x0, va_rf r10, .int x1] s14) fun s131 =>
      some (some (va_rf r10), s131)
    else
    if r16 = 223 then
      obn (oob s14 x0 9) fun a135 =>
      ocv (call 105 [va_rf x0] s14) fun s137 =>
      some (some (va_rf r10), s137)
    else
    obn (oob s14 x0 9) fun a140 =>
    orn (call 142 [va_rf x0, .int x1] s14) fun r144 s142 =>
    some (some (va_rf r144), s142)
  else
    obn (oob s8 x0 9) fun a145 =>
    ocv (call 107 [va_rf x0] s8) fun s147 =>
    some (some (va_rf r10), s147)
set_option maxHeartbeats 4000000 in
theorem qb_X7_expression {κ : oKv} {n : Nat} {call : oCl} {kc : Nat → List Value → oSt → Option Value × oSt → Prop} {v : Option Value × oSt} {X : Nat → zLv → List Value → oSt → Prop} (hX : oSem RX7 cX7_expression 3 0 (some (.object "LiquidTongue$Node")) κ kc v X) (hc : ∀ j av s w, call j av s = some w → kc j av s w) {x0 : Option Nat} {x1 : Int32} {σ : oSt} (h : ob_X7_expression n call κ x0 x1 σ = some v) : X 0 [some (va_rf x0), some (.int x1), none] [] σ := by
  rw [ob_X7_expression] at h
  refine os_aload_n (r := x0) hX dX7_expression_0 rfl rfl ?_
  refine os_aload_n (r := x0) hX dX7_expression_1 rfl rfl ?_
  obtain ⟨a1, e2, h⟩ := obn_e h
  obtain ⟨r5, s3, e4, h⟩ := oin_e h
  refine oc_RX7_57 (rb := x0)  hX dX7_expression_2 (by simp only [List.map_cons, List.map_nil, List.sum_cons, List.sum_nil, ocat]; exact Nat.le_of_ble_eq_true rfl) e2 (hc _ _ _ _ e4) ?_
  obtain ⟨a6, e7, h⟩ := obn_e h
  obtain ⟨r10, s8, e9, h⟩ := orn_e h
  refine oc_RX7_163 (rb := x0) (a1 := .int r5) hX dX7_expression_5 (Nat.le_of_ble_eq_true rfl) e7 (hc _ _ _ _ e9) ?_
  refine os_astore_n (r := r10) hX dX7_expression_8 rfl (by decide) rfl ?_
  dsimp only [List.set]
  refine os_iload_n hX dX7_expression_9 rfl rfl ?_
  refine os_bipush (v := 30) hX dX7_expression_10 (by decide) ?_
  refine os_icmp_le (tgt := 21) hX dX7_expression_12 (by decide) (fun c11 => ?_) (fun c11 => ?_)
  · rw [if_pos c11] at h
    refine os_aload_n (r := x0) hX dX7_expression_21 rfl rfl ?_
    obtain ⟨a12, e13, h⟩ := obn_e h
    obtain ⟨r16, s14, e15, h⟩ := oin_e h
    refine oc_RX7_57 (rb := x0)  hX dX7_expression_22 (Nat.le_of_ble_eq_true rfl) e13 (hc _ _ _ _ e15) ?_
    by_cases c17 : r16 = 40
    · rw [if_pos c17] at h
      refine os_lookup (tgt := 257) (off := 232) hX dX7_expression_25 (by decide) (by rw [c17]; rfl) (by decide) ?_
      refine os_aload_n (r := x0) hX dX7_expression_257 rfl rfl ?_
      obtain ⟨a18, e19, h⟩ := obn_e h
      obtain ⟨s20, e21, h⟩ := ocv_e h
      refine oc_RX7_98 (rb := x0)  hX dX7_expression_258 (Nat.le_of_ble_eq_true rfl) e19 (hc _ _ _ _ e21) ?_
      refine os_aload_n (r := r10) hX dX7_expression_261 rfl rfl ?_
      refine os_aload_n (r := x0) hX dX7_expression_262 rfl rfl ?_
      refine os_iload_n hX dX7_expression_263 rfl rfl ?_
      refine os_iconst (v := 1) hX dX7_expression_264 (by decide) ?_
      refine os_iadd hX dX7_expression_265 ?_
      obtain ⟨a23, e24, h⟩ := obn_e h
      obtain ⟨r27, s25, e26, h⟩ := orn_e h
      refine oc_RX7_70 (rb := x0) (a1 := .int (x1 + 1)) hX dX7_expression_266 (by simp only [List.map_cons, List.map_nil, List.sum_cons, List.sum_nil, ocat]; exact Nat.le_of_ble_eq_true rfl) e24 (hc _ _ _ _ e26) ?_
      obtain ⟨s28, e29, h⟩ := obn_e h
      refine ow_put (r := r10) (x := va_rf r27) hX dX7_expression_269 oF_RX7_212 (by decide) (orf_n (Or.inl ⟨_, oT_7_12⟩) r27) e29 ?_
      refine os_aload_n (r := x0) hX dX7_expression_272 rfl rfl ?_
      refine os_bipush (v := 41) hX dX7_expression_273 (by decide) ?_
      obtain ⟨a30, e31, h⟩ := obn_e h
      obtain ⟨s32, e33, h⟩ := ocv_e h
      refine oc_RX7_109 (rb := x0) (a1 := .int 41) hX dX7_expression_275 (Nat.le_of_ble_eq_true rfl) e31 (hc _ _ _ _ e33) ?_
      refine os_goto (tgt := 287) hX dX7_expression_278 (by decide) ?_
      refine os_aload_n (r := r10) hX dX7_expression_287 rfl rfl ?_
      exact os_aret (r := r10) hX dX7_expression_288 rfl (Option.some.inj h)
    rw [if_neg c17] at h
    by_cases c35 : r16 = 201
    · rw [if_pos c35] at h
      refine os_lookup (tgt := 159) (off := 134) hX dX7_expression_25 (by decide) (by rw [c35]; rfl) (by decide) ?_
      refine os_aload_n (r := x0) hX dX7_expression_159 rfl rfl ?_
      refine os_aload_n (r := r10) hX dX7_expression_160 rfl rfl ?_
      refine os_iload_n hX dX7_expression_161 rfl rfl ?_
      obtain ⟨a36, e37, h⟩ := obn_e h
      obtain ⟨s38, e39, h⟩ := ocv_e h
      refine oc_RX7_176 (rb := x0) (a1 := va_rf r10) (a2 := .int x1) hX dX7_expression_162 (Nat.le_of_ble_eq_true rfl) e37 (hc _ _ _ _ e39) ?_
      refine os_goto (tgt := 287) hX dX7_expression_165 (by decide) ?_
      refine os_aload_n (r := r10) hX dX7_expression_287 rfl rfl ?_
      exact os_aret (r := r10) hX dX7_expression_288 rfl (Option.some.inj h)
    rw [if_neg c35] at h
    by_cases c41 : r16 = 203
    · rw [if_pos c41] at h
      refine os_lookup (tgt := 219) (off := 194) hX dX7_expression_25 (by decide) (by rw [c41]; rfl) (by decide) ?_
      refine os_aload_n (r := x0) hX dX7_expression_219 rfl rfl ?_
      obtain ⟨a42, e43, h⟩ := obn_e h
      obtain ⟨s44, e45, h⟩ := ocv_e h
      refine oc_RX7_98 (rb := x0)  hX dX7_expression_220 (Nat.le_of_ble_eq_true rfl) e43 (hc _ _ _ _ e45) ?_
      refine os_aload_n (r := r10) hX dX7_expression_223 rfl rfl ?_
      refine os_aload_n (r := x0) hX dX7_expression_224 rfl rfl ?_
      obtain ⟨a47, e48, h⟩ := obn_e h
      obtain ⟨r51, s49, e50, h⟩ := orn_e h
      refine oc_RX7_185 (rb := x0)  hX dX7_expression_225 (by simp only [List.map_cons, List.map_nil, List.sum_cons, List.sum_nil, ocat]; exact Nat.le_of_ble_eq_true rfl) e48 (hc _ _ _ _ e50) ?_
      obtain ⟨s52, e53, h⟩ := obn_e h
      refine ow_put (r := r10) (x := va_rf r51) hX dX7_expression_228 oF_RX7_189 (by decide) (orf_n (Or.inl ⟨_, oT_7_15⟩) r51) e53 ?_
      refine os_aload_n (r := r10) hX dX7_expression_231 rfl rfl ?_
      refine os_aload_n (r := x0) hX dX7_expression_232 rfl rfl ?_
      obtain ⟨a54, e55, h⟩ := obn_e h
      obtain ⟨r58, s56, e57, h⟩ := oin_e h
      refine oc_RX7_95 (rb := x0)  hX dX7_expression_233 (by simp only [List.map_cons, List.map_nil, List.sum_cons, List.sum_nil, ocat]; exact Nat.le_of_ble_eq_true rfl) e55 (hc _ _ _ _ e57) ?_
      obtain ⟨s59, e60, h⟩ := obn_e h
      refine ow_put (r := r10) (x := .int r58) hX dX7_expression_236 oF_RX7_202 (by decide) (opn_I oT_7_4) e60 ?_
      refine os_aload_n (r := r10) hX dX7_expression_239 rfl rfl ?_
      refine os_aload_n (r := x0) hX dX7_expression_240 rfl rfl ?_
      obtain ⟨a61, e62, h⟩ := obn_e h
      obtain ⟨r65, s63, e64, h⟩ := orn_e h
      refine oc_RX7_205 (rb := x0)  hX dX7_expression_241 (by simp only [List.map_cons, List.map_nil, List.sum_cons, List.sum_nil, ocat]; exact Nat.le_of_ble_eq_true rfl) e62 (hc _ _ _ _ e64) ?_
      obtain ⟨s66, e67, h⟩ := obn_e h
      refine ow_put (r := r10) (x := va_rf r65) hX dX7_expression_244 oF_RX7_208 (by decide) (orf_n (Or.inl ⟨_, oT_7_9⟩) r65) e67 ?_
      refine os_goto (tgt := 287) hX dX7_expression_247 (by decide) ?_
      refine os_aload_n (r := r10) hX dX7_expression_287 rfl rfl ?_
      exact os_aret (r := r10) hX dX7_expression_288 rfl (Option.some.inj h)
    rw [if_neg c41] at h
    by_cases c68 : r16 = 205
    · rw [if_pos c68] at h
      refine os_lookup (tgt := 250) (off := 225) hX dX7_expression_25 (by decide) (by rw [c68]; rfl) (by decide) ?_
      refine os_aload_n (r := x0) hX dX7_expression_250 rfl rfl ?_
      obtain ⟨a69, e70, h⟩ := obn_e h
      obtain ⟨s71, e72, h⟩ := ocv_e h
      refine oc_RX7_98 (rb := x0)  hX dX7_expression_251 (Nat.le_of_ble_eq_true rfl) e70 (hc _ _ _ _ e72) ?_
      refine os_goto (tgt := 287) hX dX7_expression_254 (by decide) ?_
      refine os_aload_n (r := r10) hX dX7_expression_287 rfl rfl ?_
      exact os_aret (r := r10) hX dX7_expression_288 rfl (Option.some.inj h)
    rw [if_neg c68] at h
    by_cases c74 : r16 = 206
    · rw [if_pos c74] at h
      refine os_lookup (tgt := 141) (off := 116) hX dX7_expression_25 (by decide) (by rw [c74]; rfl) (by decide) ?_
      refine os_aload_n (r := x0) hX dX7_expression_141 rfl rfl ?_
      refine os_aload_n (r := r10) hX dX7_expression_142 rfl rfl ?_
      refine os_iload_n hX dX7_expression_143 rfl rfl ?_
      obtain ⟨a75, e76, h⟩ := obn_e h
      obtain ⟨s77, e78, h⟩ := ocv_e h
      refine oc_RX7_170 (rb := x0) (a1 := va_rf r10) (a2 := .int x1) hX dX7_expression_144 (Nat.le_of_ble_eq_true rfl) e76 (hc _ _ _ _ e78) ?_
      refine os_goto (tgt := 287) hX dX7_expression_147 (by decide) ?_
      refine os_aload_n (r := r10) hX dX7_expression_287 rfl rfl ?_
      exact os_aret (r := r10) hX dX7_expression_288 rfl (Option.some.inj h)
    rw [if_neg c74] at h
    by_cases c80 : r16 = 207
    · rw [if_pos c80] at h
      refine os_lookup (tgt := 150) (off := 125) hX dX7_expression_25 (by decide) (by rw [c80]; rfl) (by decide) ?_
      refine os_aload_n (r := x0) hX dX7_expression_150 rfl rfl ?_
      refine os_aload_n (r := r10) hX dX7_expression_151 rfl rfl ?_
      refine os_iload_n hX dX7_expression_152 rfl rfl ?_
      obtain ⟨a81, e82, h⟩ := obn_e h
      obtain ⟨s83, e84, h⟩ := ocv_e h
      refine oc_RX7_173 (rb := x0) (a1 := va_rf r10) (a2 := .int x1) hX dX7_expression_153 (Nat.le_of_ble_eq_true rfl) e82 (hc _ _ _ _ e84) ?_
      refine os_goto (tgt := 287) hX dX7_expression_156 (by decide) ?_
      refine os_aload_n (r := r10) hX dX7_expression_287 rfl rfl ?_
      exact os_aret (r := r10) hX dX7_expression_288 rfl (Option.some.inj h)
    rw [if_neg c80] at h
    by_cases c86 : r16 = 212
    · rw [if_pos c86] at h
      refine os_lookup (tgt := 132) (off := 107) hX dX7_expression_25 (by decide) (by rw [c86]; rfl) (by decide) ?_
      refine os_aload_n (r := x0) hX dX7_expression_132 rfl rfl ?_
      refine os_aload_n (r := r10) hX dX7_expression_133 rfl rfl ?_
      refine os_iload_n hX dX7_expression_134 rfl rfl ?_
      obtain ⟨a87, e88, h⟩ := obn_e h
      obtain ⟨s89, e90, h⟩ := ocv_e h
      refine oc_RX7_166 (rb := x0) (a1 := va_rf r10) (a2 := .int x1) hX dX7_expression_135 (Nat.le_of_ble_eq_true rfl) e88 (hc _ _ _ _ e90) ?_
      refine os_goto (tgt := 287) hX dX7_expression_138 (by decide) ?_
      refine os_aload_n (r := r10) hX dX7_expression_287 rfl rfl ?_
      exact os_aret (r := r10) hX dX7_expression_288 rfl (Option.some.inj h)
    rw [if_neg c86] at h
    by_cases c92 : r16 = 214
    · rw [if_pos c92] at h
      refine os_lookup (tgt := 177) (off := 152) hX dX7_expression_25 (by decide) (by rw [c92]; rfl) (by decide) ?_
      refine os_aload_n (r := x0) hX dX7_expression_177 rfl rfl ?_
      refine os_aload_n (r := r10) hX dX7_expression_178 rfl rfl ?_
      refine os_iload_n hX dX7_expression_179 rfl rfl ?_
      obtain ⟨a93, e94, h⟩ := obn_e h
      obtain ⟨s95, e96, h⟩ := ocv_e h
      refine oc_RX7_182 (rb := x0) (a1 := va_rf r10) (a2 := .int x1) hX dX7_expression_180 (Nat.le_of_ble_eq_true rfl) e94 (hc _ _ _ _ e96) ?_
      refine os_goto (tgt := 287) hX dX7_expression_183 (by decide) ?_
      refine os_aload_n (r := r10) hX dX7_expression_287 rfl rfl ?_
      exact os_aret (r := r10) hX dX7_expression_288 rfl (Option.some.inj h)
    rw [if_neg c92] at h
    by_cases c98 : r16 = 215
    · rw [if_pos c98] at h
      refine os_lookup (tgt := 186) (off := 161) hX dX7_expression_25 (by decide) (by rw [c98]; rfl) (by decide) ?_
      refine os_aload_n (r := x0) hX dX7_expression_186 rfl rfl ?_
      obtain ⟨a99, e100, h⟩ := obn_e h
      obtain ⟨s101, e102, h⟩ := ocv_e h
      refine oc_RX7_98 (rb := x0)  hX dX7_expression_187 (Nat.le_of_ble_eq_true rfl) e100 (hc _ _ _ _ e102) ?_
      refine os_aload_n (r := r10) hX dX7_expression_190 rfl rfl ?_
      refine os_aload_n (r := x0) hX dX7_expression_191 rfl rfl ?_
      obtain ⟨a104, e105, h⟩ := obn_e h
      obtain ⟨r108, s106, e107, h⟩ := orn_e h
      refine oc_RX7_185 (rb := x0)  hX dX7_expression_192 (by simp only [List.map_cons, List.map_nil, List.sum_cons, List.sum_nil, ocat]; exact Nat.le_of_ble_eq_true rfl) e105 (hc _ _ _ _ e107) ?_
      obtain ⟨s109, e110, h⟩ := obn_e h
      refine ow_put (r := r10) (x := va_rf r108) hX dX7_expression_195 oF_RX7_189 (by decide) (orf_n (Or.inl ⟨_, oT_7_15⟩) r108) e110 ?_
      refine os_aload_n (r := r10) hX dX7_expression_198 rfl rfl ?_
      refine os_aload_n (r := x0) hX dX7_expression_199 rfl rfl ?_
      refine os_aload_n (r := r10) hX dX7_expression_200 rfl rfl ?_
      obtain ⟨v111, e112, h⟩ := obn_e h
      refine ow_get (r := r10) hX dX7_expression_201 oF_RX7_189 (ovr_e e112) ?_
      obtain ⟨v113, e114, h⟩ := obn_e h
      refine ow_get (r := v111) hX dX7_expression_204 oF_RX7_192 (ovr_e e114) ?_
      refine os_sipush (v := 301) hX dX7_expression_207 (by decide) ?_
      obtain ⟨a115, e116, h⟩ := obn_e h
      obtain ⟨r119, s117, e118, h⟩ := orn_e h
      refine oc_RX7_195 (rb := x0) (a1 := va_rf v113) (a2 := .int 301) hX dX7_expression_210 (by simp only [List.map_cons, List.map_nil, List.sum_cons, List.sum_nil, ocat]; exact Nat.le_of_ble_eq_true rfl) e116 (hc _ _ _ _ e118) ?_
      obtain ⟨s120, e121, h⟩ := obn_e h
      refine ow_put (r := r10) (x := va_rf r119) hX dX7_expression_213 oF_RX7_199 (by decide) (orf_n (Or.inl ⟨_, oT_7_17⟩) r119) e121 ?_
      refine os_goto (tgt := 287) hX dX7_expression_216 (by decide) ?_
      refine os_aload_n (r := r10) hX dX7_expression_287 rfl rfl ?_
      exact os_aret (r := r10) hX dX7_expression_288 rfl (Option.some.inj h)
    rw [if_neg c98] at h
    by_cases c122 : r16 = 216
    · rw [if_pos c122] at h
      refine os_lookup (tgt := 250) (off := 225) hX dX7_expression_25 (by decide) (by rw [c122]; rfl) (by decide) ?_
      refine os_aload_n (r := x0) hX dX7_expression_250 rfl rfl ?_
      obtain ⟨a123, e124, h⟩ := obn_e h
      obtain ⟨s125, e126, h⟩ := ocv_e h
      refine oc_RX7_98 (rb := x0)  hX dX7_expression_251 (Nat.le_of_ble_eq_true rfl) e124 (hc _ _ _ _ e126) ?_
      refine os_goto (tgt := 287) hX dX7_expression_254 (by decide) ?_
      refine os_aload_n (r := r10) hX dX7_expression_287 rfl rfl ?_
      exact os_aret (r := r10) hX dX7_expression_288 rfl (Option.some.inj h)
    rw [if_neg c122] at h
    by_cases c128 : r16 = 220
    · rw [if_pos c128] at h
      refine os_lookup (tgt := 168) (off := 143) hX dX7_expression_25 (by decide) (by rw [c128]; rfl) (by decide) ?_
      refine os_aload_n (r := x0) hX dX7_expression_168 rfl rfl ?_
      refine os_aload_n (r := r10) hX dX7_expression_169 rfl rfl ?_
      refine os_iload_n hX dX7_expression_170 rfl rfl ?_
      obtain ⟨a129, e130, h⟩ := obn_e h
      obtain ⟨s131, e132, h⟩ := ocv_e h
      refine oc_RX7_179 (rb := x0) (a1 := va_rf r10) (a2 := .int x1) hX dX7_expression_171 (Nat.le_of_ble_eq_true rfl) e130 (hc _ _ _ _ e132) ?_
      refine os_goto (tgt := 287) hX dX7_expression_174 (by decide) ?_
      refine os_aload_n (r := r10) hX dX7_expression_287 rfl rfl ?_
      exact os_aret (r := r10) hX dX7_expression_288 rfl (Option.some.inj h)
    rw [if_neg c128] at h
    by_cases c134 : r16 = 223
    · rw [if_pos c134] at h
      refine os_lookup (tgt := 250) (off := 225) hX dX7_expression_25 (by decide) (by rw [c134]; rfl) (by decide) ?_
      refine os_aload_n (r := x0) hX dX7_expression_250 rfl rfl ?_
      obtain ⟨a135, e136, h⟩ := obn_e h
      obtain ⟨s137, e138, h⟩ := ocv_e h
      refine oc_RX7_98 (rb := x0)  hX dX7_expression_251 (Nat.le_of_ble_eq_true rfl) e136 (hc _ _ _ _ e138) ?_
      refine os_goto (tgt := 287) hX dX7_expression_254 (by decide) ?_
      refine os_aload_n (r := r10) hX dX7_expression_287 rfl rfl ?_
      exact os_aret (r := r10) hX dX7_expression_288 rfl (Option.some.inj h)
    rw [if_neg c134] at h
    refine os_lookup (tgt := 281) (off := 256) hX dX7_expression_25 (by decide) (olk_X7_expression_25 c17 c35 c41 c68 c74 c80 c86 c92 c98 c122 c128 c134) (by decide) ?_
    refine os_aload_n (r := x0) hX dX7_expression_281 rfl rfl ?_
    refine os_iload_n hX dX7_expression_282 rfl rfl ?_
    obtain ⟨a140, e141, h⟩ := obn_e h
    obtain ⟨r144, s142, e143, h⟩ := orn_e h
    refine oc_RX7_215 (rb := x0) (a1 := .int x1) hX dX7_expression_283 (Nat.le_of_ble_eq_true rfl) e141 (hc _ _ _ _ e143) ?_
    exact os_aret (r := r144) hX dX7_expression_286 rfl (Option.some.inj h)
  · rw [if_neg c11] at h
    refine os_aload_n (r := x0) hX dX7_expression_15 rfl rfl ?_
    obtain ⟨a145, e146, h⟩ := obn_e h
    obtain ⟨s147, e148, h⟩ := ocv_e h
    refine oc_RX7_78 (rb := x0)  hX dX7_expression_16 (Nat.le_of_ble_eq_true rfl) e146 (hc _ _ _ _ e148) ?_
    refine os_aload_n (r := r10) hX dX7_expression_19 rfl rfl ?_
    exact os_aret (r := r10) hX dX7_expression_20 rfl (Option.some.inj h)
def ob_X7_readAssert (n : Nat) (call : oCl) (κ : oKv) (x0 : Option Nat) (x1 : Option Nat) (x2 : Int32) (σ : oSt) : oRs :=
  obn (oob σ x0 9) fun a1 =>
  ocv (call 105 [va_rf x0] σ) fun s3 =>
  obn (ovi (ofd s3 x0 9 13)) fun v6 =>
  obn (oob s3 x0 9) fun a8 =>
  orn (call 129 [va_rf x0, .int x2] s3) fun r12 s10 =>
  obn (opf s10 x1 7 14 (va_rf r12)) fun s13 =>
  obn (ovr (ofd s13 x1 7 14)) fun v15 =>
  obn (opf s13 x1 7 17 (va_rf v15)) fun s17 =>
  obn (oob s17 x0 9) fun a19 =>
  ocv (call 108 [va_rf x0, .int 59] s17) fun s21 =>
  obn (oob s21 x0 9) fun a24 =>
  orn (call 135 [va_rf x0, .int (x2 + 1)] s21) fun r28 s26 =>
  obn (opf s26 x1 7 12 (va_rf r28)) fun s29 =>
  obn (opf s29 x0 9 13 (.int v6)) fun s31 =>
  some (none, s31)
set_option maxHeartbeats 4000000 in
theorem qb_X7_readAssert {κ : oKv} {n : Nat} {call : oCl} {kc : Nat → List Value → oSt → Option Value × oSt → Prop} {v : Option Value × oSt} {X : Nat → zLv → List Value → oSt → Prop} (hX : oSem RX7 cX7_readAssert 4 0 none κ kc v X) (hc : ∀ j av s w, call j av s = some w → kc j av s w) {x0 : Option Nat} {x1 : Option Nat} {x2 : Int32} {σ : oSt} (h : ob_X7_readAssert n call κ x0 x1 x2 σ = some v) : X 0 [some (va_rf x0), some (va_rf x1), some (.int x2), none] [] σ := by
  rw [ob_X7_readAssert] at h
  refine os_aload_n (r := x0) hX dX7_readAssert_0 rfl rfl ?_
  obtain ⟨a1, e2, h⟩ := obn_e h
  obtain ⟨s3, e4, h⟩ := ocv_e h
  refine oc_RX7_98 (rb := x0)  hX dX7_readAssert_1 (Nat.le_of_ble_eq_true rfl) e2 (hc _ _ _ _ e4) ?_
  refine os_aload_n (r := x0) hX dX7_readAssert_4 rfl rfl ?_
  obtain ⟨v6, e7, h⟩ := obn_e h
  refine ow_get (r := x0) hX dX7_readAssert_5 oF_RX7_244 (ovi_e e7) ?_
  refine os_istore_n hX dX7_readAssert_8 rfl (by decide) rfl ?_
  dsimp only [List.set]
  refine os_aload_n (r := x1) hX dX7_readAssert_9 rfl rfl ?_
  refine os_aload_n (r := x0) hX dX7_readAssert_10 rfl rfl ?_
  refine os_iload_n hX dX7_readAssert_11 rfl rfl ?_
  obtain ⟨a8, e9, h⟩ := obn_e h
  obtain ⟨r12, s10, e11, h⟩ := orn_e h
  refine oc_RX7_247 (rb := x0) (a1 := .int x2) hX dX7_readAssert_12 (by simp only [List.map_cons, List.map_nil, List.sum_cons, List.sum_nil, ocat]; exact Nat.le_of_ble_eq_true rfl) e9 (hc _ _ _ _ e11) ?_
  obtain ⟨s13, e14, h⟩ := obn_e h
  refine ow_put (r := x1) (x := va_rf r12) hX dX7_readAssert_15 oF_RX7_250 (by decide) (orf_n (Or.inl ⟨_, oT_7_14⟩) r12) e14 ?_
  refine os_aload_n (r := x1) hX dX7_readAssert_18 rfl rfl ?_
  refine os_aload_n (r := x1) hX dX7_readAssert_19 rfl rfl ?_
  obtain ⟨v15, e16, h⟩ := obn_e h
  refine ow_get (r := x1) hX dX7_readAssert_20 oF_RX7_250 (ovr_e e16) ?_
  obtain ⟨s17, e18, h⟩ := obn_e h
  refine ow_put (r := x1) (x := va_rf v15) hX dX7_readAssert_23 oF_RX7_199 (by decide) (orf_n (Or.inl ⟨_, oT_7_17⟩) v15) e18 ?_
  refine os_aload_n (r := x0) hX dX7_readAssert_26 rfl rfl ?_
  refine os_bipush (v := 59) hX dX7_readAssert_27 (by decide) ?_
  obtain ⟨a19, e20, h⟩ := obn_e h
  obtain ⟨s21, e22, h⟩ := ocv_e h
  refine oc_RX7_109 (rb := x0) (a1 := .int 59) hX dX7_readAssert_29 (Nat.le_of_ble_eq_true rfl) e20 (hc _ _ _ _ e22) ?_
  refine os_aload_n (r := x1) hX dX7_readAssert_32 rfl rfl ?_
  refine os_aload_n (r := x0) hX dX7_readAssert_33 rfl rfl ?_
  refine os_iload_n hX dX7_readAssert_34 rfl rfl ?_
  refine os_iconst (v := 1) hX dX7_readAssert_35 (by decide) ?_
  refine os_iadd hX dX7_readAssert_36 ?_
  obtain ⟨a24, e25, h⟩ := obn_e h
  obtain ⟨r28, s26, e27, h⟩ := orn_e h
  refine oc_RX7_70 (rb := x0) (a1 := .int (x2 + 1)) hX dX7_readAssert_37 (by simp only [List.map_cons, List.map_nil, List.sum_cons, List.sum_nil, ocat]; exact Nat.le_of_ble_eq_true rfl) e25 (hc _ _ _ _ e27) ?_
  obtain ⟨s29, e30, h⟩ := obn_e h
  refine ow_put (r := x1) (x := va_rf r28) hX dX7_readAssert_40 oF_RX7_212 (by decide) (orf_n (Or.inl ⟨_, oT_7_12⟩) r28) e30 ?_
  refine os_aload_n (r := x0) hX dX7_readAssert_43 rfl rfl ?_
  refine os_iload_n hX dX7_readAssert_44 rfl rfl ?_
  obtain ⟨s31, e32, h⟩ := obn_e h
  refine ow_put (r := x0) (x := .int v6) hX dX7_readAssert_45 oF_RX7_244 (by decide) (opn_I oT_9_13) e32 ?_
  exact os_vret hX dX7_readAssert_48 rfl (Option.some.inj h)
def ol_X7_readCall_37 (n : Nat) (call : oCl) (κ : oKv) : Nat → Option Nat → Int32 → Option Nat → Int32 → oSt → oRs
  | 0, _, _, _, _, _ => none
  | f + 1, x0, x1, x2, x3, σ =>
    if 4 ≤ x3 then
      some (some (va_rf x2), σ)
    else
      obn (oob σ x0 9) fun a2 =>
      oin (call 104 [va_rf x0] σ) fun r6 s4 =>
      oin (call 130 [.int r6] s4) fun r9 s7 =>
      if r9 = 0 then
        some (some (va_rf x2), s7)
      else
        obn (ovr (ofd s7 x2 7 18)) fun v11 =>
        obn (oob s7 x0 9) fun a13 =>
        orn (call 134 [va_rf x0, .int x1] s7) fun r17 s15 =>
        obn (oob s15 v11 1) fun a18 =>
        oin (call 227 [va_rf v11, va_rf r17] s15) fun r22 s20 =>
        ol_X7_readCall_37 n call κ f x0 x1 x2 (x3 + 1) s20
def ob_X7_readCall (n : Nat) (call : oCl) (κ : oKv) (x0 : Option Nat) (x1 : Int32) (σ : oSt) : oRs :=
  obn (oob σ x0 9) fun a1 =>
  orn (call 118 [va_rf x0, .int 401] σ) fun r5 s3 =>
  obn (oob s3 x0 9) fun a6 =>
  oin (call 106 [va_rf x0] s3) fun r10 s8 =>
  obn (opf s8 r5 7 4 (.int r10)) fun s11 =>
  obn (oob s11 x0 9) fun a13 =>
  orn (call 119 [va_rf x0] s11) fun r17 s15 =>
  obn (opf s15 r5 7 9 (va_rf r17)) fun s18 =>
  olet (onew s18 (.inr (1, odef 1)) (oq 1).2.2) fun s20 =>
  obn ((some s18.2.1)) fun a22 =>
  ocv (call 224 [va_rf (some s18.2.1)] s20) fun s24 =>
  obn (opf s24 r5 7 18 (va_rf (some s18.2.1))) fun s27 =>
  ol_X7_readCall_37 n call κ n x0 x1 r5 0 s27
set_option maxHeartbeats 4000000 in
theorem ql_X7_readCall_37 {κ : oKv} {n : Nat} {call : oCl} {kc : Nat → List Value → oSt → Option Value × oSt → Prop} {v : Option Value × oSt} {X : Nat → zLv → List Value → oSt → Prop} (hX : oSem RX7 cX7_readCall 4 0 (some (.object "LiquidTongue$Node")) κ kc v X) (hc : ∀ j av s w, call j av s = some w → kc j av s w) : ∀ (f : Nat) (x0 : Option Nat) (x1 : Int32) (x2 : Option Nat) (x3 : Int32) (σ : oSt), ol_X7_readCall_37 n call κ f x0 x1 x2 x3 σ = some v → X 37 [some (va_rf x0), some (.int x1), some (va_rf x2), some (.int x3)] [] σ := by
  intro f
  induction f with
  | zero => intro x0 x1 x2 x3 σ h; cases h
  | succ f hk37 =>
    intro x0 x1 x2 x3 σ h
    rw [ol_X7_readCall_37] at h
    refine os_iload_n hX dX7_readCall_37 rfl rfl ?_
    refine os_iconst (v := 4) hX dX7_readCall_38 (by decide) ?_
    refine os_icmp_ge (tgt := 71) hX dX7_readCall_39 (by decide) (fun c1 => ?_) (fun c1 => ?_)
    · rw [if_pos c1] at h
      refine os_aload_n (r := x2) hX dX7_readCall_71 rfl rfl ?_
      exact os_aret (r := x2) hX dX7_readCall_72 rfl (Option.some.inj h)
    · rw [if_neg c1] at h
      refine os_aload_n (r := x0) hX dX7_readCall_42 rfl rfl ?_
      obtain ⟨a2, e3, h⟩ := obn_e h
      obtain ⟨r6, s4, e5, h⟩ := oin_e h
      refine oc_RX7_57 (rb := x0)  hX dX7_readCall_43 (Nat.le_of_ble_eq_true rfl) e3 (hc _ _ _ _ e5) ?_
      obtain ⟨r9, s7, e8, h⟩ := oin_e h
      refine oc_RX7_278 (a1 := .int r6) hX dX7_readCall_46 (Nat.le_of_ble_eq_true rfl) (hc _ _ _ _ e8) ?_
      refine os_if_eq (tgt := 71) hX dX7_readCall_49 (by decide) (fun c10 => ?_) (fun c10 => ?_)
      · rw [if_pos c10] at h
        refine os_aload_n (r := x2) hX dX7_readCall_71 rfl rfl ?_
        exact os_aret (r := x2) hX dX7_readCall_72 rfl (Option.some.inj h)
      · rw [if_neg c10] at h
        refine os_aload_n (r := x2) hX dX7_readCall_52 rfl rfl ?_
        obtain ⟨v11, e12, h⟩ := obn_e h
        refine ow_get (r := x2) hX dX7_readCall_53 oF_RX7_271 (ovr_e e12) ?_
        refine os_aload_n (r := x0) hX dX7_readCall_56 rfl rfl ?_
        refine os_iload_n hX dX7_readCall_57 rfl rfl ?_
        obtain ⟨a13, e14, h⟩ := obn_e h
        obtain ⟨r17, s15, e16, h⟩ := orn_e h
        refine oc_RX7_287 (rb := x0) (a1 := .int x1) hX dX7_readCall_58 (by simp only [List.map_cons, List.map_nil, List.sum_cons, List.sum_nil, ocat]; exact Nat.le_of_ble_eq_true rfl) e14 (hc _ _ _ _ e16) ?_
        obtain ⟨a18, e19, h⟩ := obn_e h
        obtain ⟨r22, s20, e21, h⟩ := oin_e h
        refine oc_RX7_151 (rb := v11) (a1 := va_rf r17) hX dX7_readCall_61 (Nat.le_of_ble_eq_true rfl) e19 (hc _ _ _ _ e21) ?_
        refine os_pop hX dX7_readCall_64 rfl ?_
        refine os_iinc (v := x3 + 1) hX dX7_readCall_65 rfl rfl (by decide) (ozlo (i := 2) (r := x2) rfl) ?_
        dsimp only [List.set]
        refine os_goto (tgt := 37) hX dX7_readCall_68 (by decide) ?_
        exact hk37 _ _ _ _ _ h
set_option maxHeartbeats 4000000 in
theorem qb_X7_readCall {κ : oKv} {n : Nat} {call : oCl} {kc : Nat → List Value → oSt → Option Value × oSt → Prop} {v : Option Value × oSt} {X : Nat → zLv → List Value → oSt → Prop} (hX : oSem RX7 cX7_readCall 4 0 (some (.object "LiquidTongue$Node")) κ kc v X) (hc : ∀ j av s w, call j av s = some w → kc j av s w) {x0 : Option Nat} {x1 : Int32} {σ : oSt} (h : ob_X7_readCall n call κ x0 x1 σ = some v) : X 0 [some (va_rf x0), some (.int x1), none, none] [] σ := by
  rw [ob_X7_readCall] at h
  refine os_aload_n (r := x0) hX dX7_readCall_0 rfl rfl ?_
  refine os_sipush (v := 401) hX dX7_readCall_1 (by decide) ?_
  obtain ⟨a1, e2, h⟩ := obn_e h
  obtain ⟨r5, s3, e4, h⟩ := orn_e h
  refine oc_RX7_163 (rb := x0) (a1 := .int 401) hX dX7_readCall_4 (Nat.le_of_ble_eq_true rfl) e2 (hc _ _ _ _ e4) ?_
  refine os_astore_n (r := r5) hX dX7_readCall_7 rfl (by decide) rfl ?_
  dsimp only [List.set]
  refine os_aload_n (r := r5) hX dX7_readCall_8 rfl rfl ?_
  refine os_aload_n (r := x0) hX dX7_readCall_9 rfl rfl ?_
  obtain ⟨a6, e7, h⟩ := obn_e h
  obtain ⟨r10, s8, e9, h⟩ := oin_e h
  refine oc_RX7_95 (rb := x0)  hX dX7_readCall_10 (by simp only [List.map_cons, List.map_nil, List.sum_cons, List.sum_nil, ocat]; exact Nat.le_of_ble_eq_true rfl) e7 (hc _ _ _ _ e9) ?_
  obtain ⟨s11, e12, h⟩ := obn_e h
  refine ow_put (r := r5) (x := .int r10) hX dX7_readCall_13 oF_RX7_202 (by decide) (opn_I oT_7_4) e12 ?_
  refine os_aload_n (r := r5) hX dX7_readCall_16 rfl rfl ?_
  refine os_aload_n (r := x0) hX dX7_readCall_17 rfl rfl ?_
  obtain ⟨a13, e14, h⟩ := obn_e h
  obtain ⟨r17, s15, e16, h⟩ := orn_e h
  refine oc_RX7_205 (rb := x0)  hX dX7_readCall_18 (by simp only [List.map_cons, List.map_nil, List.sum_cons, List.sum_nil, ocat]; exact Nat.le_of_ble_eq_true rfl) e14 (hc _ _ _ _ e16) ?_
  obtain ⟨s18, e19, h⟩ := obn_e h
  refine ow_put (r := r5) (x := va_rf r17) hX dX7_readCall_21 oF_RX7_208 (by decide) (orf_n (Or.inl ⟨_, oT_7_9⟩) r17) e19 ?_
  refine os_aload_n (r := r5) hX dX7_readCall_24 rfl rfl ?_
  obtain ⟨s20, e21, h⟩ := olet_e h
  refine os_new hX dX7_readCall_25 oN_RX7_17 ?_
  rw [← e21]
  refine os_dup hX dX7_readCall_28 (ocat (some s18.2.1)) ?_
  obtain ⟨a22, e23, h⟩ := obn_e h
  obtain ⟨s24, e25, h⟩ := ocv_e h
  refine oc_RX7_19 (rb := (some s18.2.1))  hX dX7_readCall_29 (by simp only [List.map_cons, List.map_nil, List.sum_cons, List.sum_nil, ocat]; exact Nat.le_of_ble_eq_true rfl) e23 (hc _ _ _ _ e25) ?_
  obtain ⟨s27, e28, h⟩ := obn_e h
  refine ow_put (r := r5) (x := va_rf (some s18.2.1)) hX dX7_readCall_32 oF_RX7_271 (by decide) (orf_n (Or.inl ⟨_, oT_7_18⟩) (some s18.2.1)) e28 ?_
  refine os_iconst (v := 0) hX dX7_readCall_35 (by decide) ?_
  refine os_istore_n hX dX7_readCall_36 rfl (by decide) (ozlo (i := 2) (r := r5) rfl) ?_
  dsimp only [List.set]
  exact ql_X7_readCall_37 hX hc n _ _ _ _ _ h
def ob_X7_readFunction (n : Nat) (call : oCl) (κ : oKv) (x0 : Option Nat) (x1 : Option Nat) (x2 : Int32) (σ : oSt) : oRs :=
  obn (oob σ x0 9) fun a1 =>
  ocv (call 105 [va_rf x0] σ) fun s3 =>
  obn (oob s3 x0 9) fun a6 =>
  ocv (call 131 [va_rf x0, va_rf x1] s3) fun s8 =>
  obn (oob s8 x0 9) fun a11 =>
  ocv (call 132 [va_rf x0, va_rf x1] s8) fun s13 =>
  obn (oob s13 x0 9) fun a16 =>
  ocv (call 108 [va_rf x0, .int 304] s13) fun s18 =>
  obn (oob s18 x0 9) fun a21 =>
  orn (call 135 [va_rf x0, .int (x2 + 1)] s18) fun r25 s23 =>
  obn (opf s23 x1 7 12 (va_rf r25)) fun s26 =>
  obn (ovi (ofd s26 x0 9 12)) fun v28 =>
  obn (opf s26 x0 9 12 (.int (v28 - 1))) fun s30 =>
  some (none, s30)
set_option maxHeartbeats 4000000 in
theorem qb_X7_readFunction {κ : oKv} {n : Nat} {call : oCl} {kc : Nat → List Value → oSt → Option Value × oSt → Prop} {v : Option Value × oSt} {X : Nat → zLv → List Value → oSt → Prop} (hX : oSem RX7 cX7_readFunction 3 0 none κ kc v X) (hc : ∀ j av s w, call j av s = some w → kc j av s w) {x0 : Option Nat} {x1 : Option Nat} {x2 : Int32} {σ : oSt} (h : ob_X7_readFunction n call κ x0 x1 x2 σ = some v) : X 0 [some (va_rf x0), some (va_rf x1), some (.int x2)] [] σ := by
  rw [ob_X7_readFunction] at h
  refine os_aload_n (r := x0) hX dX7_readFunction_0 rfl rfl ?_
  obtain ⟨a1, e2, h⟩ := obn_e h
  obtain ⟨s3, e4, h⟩ := ocv_e h
  refine oc_RX7_98 (rb := x0)  hX dX7_readFunction_1 (Nat.le_of_ble_eq_true rfl) e2 (hc _ _ _ _ e4) ?_
  refine os_aload_n (r := x0) hX dX7_readFunction_4 rfl rfl ?_
  refine os_aload_n (r := x1) hX dX7_readFunction_5 rfl rfl ?_
  obtain ⟨a6, e7, h⟩ := obn_e h
  obtain ⟨s8, e9, h⟩ := ocv_e h
  refine oc_RX7_228 (rb := x0) (a1 := va_rf x1) hX dX7_readFunction_6 (Nat.le_of_ble_eq_true rfl) e7 (hc _ _ _ _ e9) ?_
  refine os_aload_n (r := x0) hX dX7_readFunction_9 rfl rfl ?_
  refine os_aload_n (r := x1) hX dX7_readFunction_10 rfl rfl ?_
  obtain ⟨a11, e12, h⟩ := obn_e h
  obtain ⟨s13, e14, h⟩ := ocv_e h
  refine oc_RX7_232 (rb := x0) (a1 := va_rf x1) hX dX7_readFunction_11 (Nat.le_of_ble_eq_true rfl) e12 (hc _ _ _ _ e14) ?_
  refine os_aload_n (r := x0) hX dX7_readFunction_14 rfl rfl ?_
  refine os_sipush (v := 304) hX dX7_readFunction_15 (by decide) ?_
  obtain ⟨a16, e17, h⟩ := obn_e h
  obtain ⟨s18, e19, h⟩ := ocv_e h
  refine oc_RX7_109 (rb := x0) (a1 := .int 304) hX dX7_readFunction_18 (Nat.le_of_ble_eq_true rfl) e17 (hc _ _ _ _ e19) ?_
  refine os_aload_n (r := x1) hX dX7_readFunction_21 rfl rfl ?_
  refine os_aload_n (r := x0) hX dX7_readFunction_22 rfl rfl ?_
  refine os_iload_n hX dX7_readFunction_23 rfl rfl ?_
  refine os_iconst (v := 1) hX dX7_readFunction_24 (by decide) ?_
  refine os_iadd hX dX7_readFunction_25 ?_
  obtain ⟨a21, e22, h⟩ := obn_e h
  obtain ⟨r25, s23, e24, h⟩ := orn_e h
  refine oc_RX7_70 (rb := x0) (a1 := .int (x2 + 1)) hX dX7_readFunction_26 (by simp only [List.map_cons, List.map_nil, List.sum_cons, List.sum_nil, ocat]; exact Nat.le_of_ble_eq_true rfl) e22 (hc _ _ _ _ e24) ?_
  obtain ⟨s26, e27, h⟩ := obn_e h
  refine ow_put (r := x1) (x := va_rf r25) hX dX7_readFunction_29 oF_RX7_212 (by decide) (orf_n (Or.inl ⟨_, oT_7_12⟩) r25) e27 ?_
  refine os_aload_n (r := x0) hX dX7_readFunction_32 rfl rfl ?_
  refine os_dup hX dX7_readFunction_33 (ocat x0) ?_
  obtain ⟨v28, e29, h⟩ := obn_e h
  refine ow_get (r := x0) hX dX7_readFunction_34 oF_RX7_103 (ovi_e e29) ?_
  refine os_iconst (v := 1) hX dX7_readFunction_37 (by decide) ?_
  refine os_isub hX dX7_readFunction_38 ?_
  obtain ⟨s30, e31, h⟩ := obn_e h
  refine ow_put (r := x0) (x := .int (v28 - 1)) hX dX7_readFunction_39 oF_RX7_103 (by decide) (opn_I oT_9_12) e31 ?_
  exact os_vret hX dX7_readFunction_42 rfl (Option.some.inj h)
def ob_X7_readIf (n : Nat) (call : oCl) (κ : oKv) (x0 : Option Nat) (x1 : Option Nat) (x2 : Int32) (σ : oSt) : oRs :=
  obn (oob σ x0 9) fun a1 =>
  ocv (call 105 [va_rf x0] σ) fun s3 =>
  obn (ovi (ofd s3 x0 9 13)) fun v6 =>
  obn (oob s3 x0 9) fun a8 =>
  orn (call 129 [va_rf x0, .int x2] s3) fun r12 s10 =>
  obn (opf s10 x1 7 14 (va_rf r12)) fun s13 =>
  obn (oob s13 x0 9) fun a15 =>
  ocv (call 108 [va_rf x0, .int 222] s13) fun s17 =>
  obn (oob s17 x0 9) fun a20 =>
  orn (call 135 [va_rf x0, .int (x2 + 1)] s17) fun r24 s22 =>
  obn (opf s22 x1 7 12 (va_rf r24)) fun s25 =>
  obn (oob s25 x0 9) fun a27 =>
  ocv (call 108 [va_rf x0, .int 204] s25) fun s29 =>
  obn (oob s29 x0 9) fun a32 =>
  orn (call 135 [va_rf x0, .int (x2 + 1)] s29) fun r36 s34 =>
  obn (opf s34 x1 7 13 (va_rf r36)) fun s37 =>
  obn (opf s37 x0 9 13 (.int v6)) fun s39 =>
  some (none, s39)
set_option maxHeartbeats 4000000 in
theorem qb_X7_readIf {κ : oKv} {n : Nat} {call : oCl} {kc : Nat → List Value → oSt → Option Value × oSt → Prop} {v : Option Value × oSt} {X : Nat → zLv → List Value → oSt → Prop} (hX : oSem RX7 cX7_readIf 4 0 none κ kc v X) (hc : ∀ j av s w, call j av s = some w → kc j av s w) {x0 : Option Nat} {x1 : Option Nat} {x2 : Int32} {σ : oSt} (h : ob_X7_readIf n call κ x0 x1 x2 σ = some v) : X 0 [some (va_rf x0), some (va_rf x1), some (.int x2), none] [] σ := by
  rw [ob_X7_readIf] at h
  refine os_aload_n (r := x0) hX dX7_readIf_0 rfl rfl ?_
  obtain ⟨a1, e2, h⟩ := obn_e h
  obtain ⟨s3, e4, h⟩ := ocv_e h
  refine oc_RX7_98 (rb := x0)  hX dX7_readIf_1 (Nat.le_of_ble_eq_true rfl) e2 (hc _ _ _ _ e4) ?_
  refine os_aload_n (r := x0) hX dX7_readIf_4 rfl rfl ?_
  obtain ⟨v6, e7, h⟩ := obn_e h
  refine ow_get (r := x0) hX dX7_readIf_5 oF_RX7_244 (ovi_e e7) ?_
  refine os_istore_n hX dX7_readIf_8 rfl (by decide) rfl ?_
  dsimp only [List.set]
  refine os_aload_n (r := x1) hX dX7_readIf_9 rfl rfl ?_
  refine os_aload_n (r := x0) hX dX7_readIf_10 rfl rfl ?_
  refine os_iload_n hX dX7_readIf_11 rfl rfl ?_
  obtain ⟨a8, e9, h⟩ := obn_e h
  obtain ⟨r12, s10, e11, h⟩ := orn_e h
  refine oc_RX7_247 (rb := x0) (a1 := .int x2) hX dX7_readIf_12 (by simp only [List.map_cons, List.map_nil, List.sum_cons, List.sum_nil, ocat]; exact Nat.le_of_ble_eq_true rfl) e9 (hc _ _ _ _ e11) ?_
  obtain ⟨s13, e14, h⟩ := obn_e h
  refine ow_put (r := x1) (x := va_rf r12) hX dX7_readIf_15 oF_RX7_250 (by decide) (orf_n (Or.inl ⟨_, oT_7_14⟩) r12) e14 ?_
  refine os_aload_n (r := x0) hX dX7_readIf_18 rfl rfl ?_
  refine os_sipush (v := 222) hX dX7_readIf_19 (by decide) ?_
  obtain ⟨a15, e16, h⟩ := obn_e h
  obtain ⟨s17, e18, h⟩ := ocv_e h
  refine oc_RX7_109 (rb := x0) (a1 := .int 222) hX dX7_readIf_22 (Nat.le_of_ble_eq_true rfl) e16 (hc _ _ _ _ e18) ?_
  refine os_aload_n (r := x1) hX dX7_readIf_25 rfl rfl ?_
  refine os_aload_n (r := x0) hX dX7_readIf_26 rfl rfl ?_
  refine os_iload_n hX dX7_readIf_27 rfl rfl ?_
  refine os_iconst (v := 1) hX dX7_readIf_28 (by decide) ?_
  refine os_iadd hX dX7_readIf_29 ?_
  obtain ⟨a20, e21, h⟩ := obn_e h
  obtain ⟨r24, s22, e23, h⟩ := orn_e h
  refine oc_RX7_70 (rb := x0) (a1 := .int (x2 + 1)) hX dX7_readIf_30 (by simp only [List.map_cons, List.map_nil, List.sum_cons, List.sum_nil, ocat]; exact Nat.le_of_ble_eq_true rfl) e21 (hc _ _ _ _ e23) ?_
  obtain ⟨s25, e26, h⟩ := obn_e h
  refine ow_put (r := x1) (x := va_rf r24) hX dX7_readIf_33 oF_RX7_212 (by decide) (orf_n (Or.inl ⟨_, oT_7_12⟩) r24) e26 ?_
  refine os_aload_n (r := x0) hX dX7_readIf_36 rfl rfl ?_
  refine os_sipush (v := 204) hX dX7_readIf_37 (by decide) ?_
  obtain ⟨a27, e28, h⟩ := obn_e h
  obtain ⟨s29, e30, h⟩ := ocv_e h
  refine oc_RX7_109 (rb := x0) (a1 := .int 204) hX dX7_readIf_40 (Nat.le_of_ble_eq_true rfl) e28 (hc _ _ _ _ e30) ?_
  refine os_aload_n (r := x1) hX dX7_readIf_43 rfl rfl ?_
  refine os_aload_n (r := x0) hX dX7_readIf_44 rfl rfl ?_
  refine os_iload_n hX dX7_readIf_45 rfl rfl ?_
  refine os_iconst (v := 1) hX dX7_readIf_46 (by decide) ?_
  refine os_iadd hX dX7_readIf_47 ?_
  obtain ⟨a32, e33, h⟩ := obn_e h
  obtain ⟨r36, s34, e35, h⟩ := orn_e h
  refine oc_RX7_70 (rb := x0) (a1 := .int (x2 + 1)) hX dX7_readIf_48 (by simp only [List.map_cons, List.map_nil, List.sum_cons, List.sum_nil, ocat]; exact Nat.le_of_ble_eq_true rfl) e33 (hc _ _ _ _ e35) ?_
  obtain ⟨s37, e38, h⟩ := obn_e h
  refine ow_put (r := x1) (x := va_rf r36) hX dX7_readIf_51 oF_RX7_223 (by decide) (orf_n (Or.inl ⟨_, oT_7_13⟩) r36) e38 ?_
  refine os_aload_n (r := x0) hX dX7_readIf_54 rfl rfl ?_
  refine os_iload_n hX dX7_readIf_55 rfl rfl ?_
  obtain ⟨s39, e40, h⟩ := obn_e h
  refine ow_put (r := x0) (x := .int v6) hX dX7_readIf_56 oF_RX7_244 (by decide) (opn_I oT_9_13) e40 ?_
  exact os_vret hX dX7_readIf_59 rfl (Option.some.inj h)
def ob_X7_readLet (n : Nat) (call : oCl) (κ : oKv) (x0 : Option Nat) (x1 : Option Nat) (x2 : Int32) (σ : oSt) : oRs :=
  obn (oob σ x0 9) fun a1 =>
  ocv (call 105 [va_rf x0] σ) fun s3 =>
  obn (oob s3 x0 9) fun a6 =>
  oin (call 104 [va_rf x0] s3) fun r10 s8 =>
  if r10 = 219 then
    obn (oob s8 x0 9) fun a54 =>
    ocv (call 143 [va_rf x0, va_rf x1, .int x2] s8) fun s56 =>
    some (none, s56)
  else
    obn (oob s8 x0 9) fun a12 =>
    orn (call 115 [va_rf x0] s8) fun r16 s14 =>
    obn (opf s14 x1 7 10 (va_rf r16)) fun s17 =>
    obn (oob s17 x0 9) fun a19 =>
    ocv (call 108 [va_rf x0, .int 61] s17) fun s21 =>
    obn (oob s21 x0 9) fun a24 =>
    orn (call 135 [va_rf x0, .int (x2 + 1)] s21) fun r28 s26 =>
    obn (opf s26 x1 7 12 (va_rf r28)) fun s29 =>
    obn (oob s29 x0 9) fun a31 =>
    ocv (call 108 [va_rf x0, .int 208] s29) fun s33 =>
    obn (ovr (ofd s33 x1 7 10)) fun v36 =>
    obn (oob s33 x0 9) fun a38 =>
    ocv (call 116 [va_rf x0, va_rf v36] s33) fun s40 =>
    obn (oob s40 x0 9) fun a43 =>
    orn (call 135 [va_rf x0, .int (x2 + 1)] s40) fun r47 s45 =>
    obn (opf s45 x1 7 13 (va_rf r47)) fun s48 =>
    obn (ovi (ofd s48 x0 9 12)) fun v50 =>
    obn (opf s48 x0 9 12 (.int (v50 - 1))) fun s52 =>
    some (none, s52)
set_option maxHeartbeats 4000000 in
theorem qb_X7_readLet {κ : oKv} {n : Nat} {call : oCl} {kc : Nat → List Value → oSt → Option Value × oSt → Prop} {v : Option Value × oSt} {X : Nat → zLv → List Value → oSt → Prop} (hX : oSem RX7 cX7_readLet 3 0 none κ kc v X) (hc : ∀ j av s w, call j av s = some w → kc j av s w) {x0 : Option Nat} {x1 : Option Nat} {x2 : Int32} {σ : oSt} (h : ob_X7_readLet n call κ x0 x1 x2 σ = some v) : X 0 [some (va_rf x0), some (va_rf x1), some (.int x2)] [] σ := by
  rw [ob_X7_readLet] at h
  refine os_aload_n (r := x0) hX dX7_readLet_0 rfl rfl ?_
  obtain ⟨a1, e2, h⟩ := obn_e h
  obtain ⟨s3, e4, h⟩ := ocv_e h
  refine oc_RX7_98 (rb := x0)  hX dX7_readLet_1 (Nat.le_of_ble_eq_true rfl) e2 (hc _ _ _ _ e4) ?_
  refine os_aload_n (r := x0) hX dX7_readLet_4 rfl rfl ?_
  obtain ⟨a6, e7, h⟩ := obn_e h
  obtain ⟨r10, s8, e9, h⟩ := oin_e h
  refine oc_RX7_57 (rb := x0)  hX dX7_readLet_5 (Nat.le_of_ble_eq_true rfl) e7 (hc _ _ _ _ e9) ?_
  refine os_sipush (v := 219) hX dX7_readLet_8 (by decide) ?_
  refine os_icmp_ne (tgt := 21) hX dX7_readLet_11 (by decide) (fun c11 => ?_) (fun c11 => ?_)
  · rw [if_neg c11] at h
    refine os_aload_n (r := x1) hX dX7_readLet_21 rfl rfl ?_
    refine os_aload_n (r := x0) hX dX7_readLet_22 rfl rfl ?_
    obtain ⟨a12, e13, h⟩ := obn_e h
    obtain ⟨r16, s14, e15, h⟩ := orn_e h
    refine oc_RX7_124 (rb := x0)  hX dX7_readLet_23 (by simp only [List.map_cons, List.map_nil, List.sum_cons, List.sum_nil, ocat]; exact Nat.le_of_ble_eq_true rfl) e13 (hc _ _ _ _ e15) ?_
    obtain ⟨s17, e18, h⟩ := obn_e h
    refine ow_put (r := x1) (x := va_rf r16) hX dX7_readLet_26 oF_RX7_221 (by decide) (orf_n (Or.inl ⟨_, oT_7_10⟩) r16) e18 ?_
    refine os_aload_n (r := x0) hX dX7_readLet_29 rfl rfl ?_
    refine os_bipush (v := 61) hX dX7_readLet_30 (by decide) ?_
    obtain ⟨a19, e20, h⟩ := obn_e h
    obtain ⟨s21, e22, h⟩ := ocv_e h
    refine oc_RX7_109 (rb := x0) (a1 := .int 61) hX dX7_readLet_32 (Nat.le_of_ble_eq_true rfl) e20 (hc _ _ _ _ e22) ?_
    refine os_aload_n (r := x1) hX dX7_readLet_35 rfl rfl ?_
    refine os_aload_n (r := x0) hX dX7_readLet_36 rfl rfl ?_
    refine os_iload_n hX dX7_readLet_37 rfl rfl ?_
    refine os_iconst (v := 1) hX dX7_readLet_38 (by decide) ?_
    refine os_iadd hX dX7_readLet_39 ?_
    obtain ⟨a24, e25, h⟩ := obn_e h
    obtain ⟨r28, s26, e27, h⟩ := orn_e h
    refine oc_RX7_70 (rb := x0) (a1 := .int (x2 + 1)) hX dX7_readLet_40 (by simp only [List.map_cons, List.map_nil, List.sum_cons, List.sum_nil, ocat]; exact Nat.le_of_ble_eq_true rfl) e25 (hc _ _ _ _ e27) ?_
    obtain ⟨s29, e30, h⟩ := obn_e h
    refine ow_put (r := x1) (x := va_rf r28) hX dX7_readLet_43 oF_RX7_212 (by decide) (orf_n (Or.inl ⟨_, oT_7_12⟩) r28) e30 ?_
    refine os_aload_n (r := x0) hX dX7_readLet_46 rfl rfl ?_
    refine os_sipush (v := 208) hX dX7_readLet_47 (by decide) ?_
    obtain ⟨a31, e32, h⟩ := obn_e h
    obtain ⟨s33, e34, h⟩ := ocv_e h
    refine oc_RX7_109 (rb := x0) (a1 := .int 208) hX dX7_readLet_50 (Nat.le_of_ble_eq_true rfl) e32 (hc _ _ _ _ e34) ?_
    refine os_aload_n (r := x0) hX dX7_readLet_53 rfl rfl ?_
    refine os_aload_n (r := x1) hX dX7_readLet_54 rfl rfl ?_
    obtain ⟨v36, e37, h⟩ := obn_e h
    refine ow_get (r := x1) hX dX7_readLet_55 oF_RX7_221 (ovr_e e37) ?_
    obtain ⟨a38, e39, h⟩ := obn_e h
    obtain ⟨s40, e41, h⟩ := ocv_e h
    refine oc_RX7_131 (rb := x0) (a1 := va_rf v36) hX dX7_readLet_58 (Nat.le_of_ble_eq_true rfl) e39 (hc _ _ _ _ e41) ?_
    refine os_aload_n (r := x1) hX dX7_readLet_61 rfl rfl ?_
    refine os_aload_n (r := x0) hX dX7_readLet_62 rfl rfl ?_
    refine os_iload_n hX dX7_readLet_63 rfl rfl ?_
    refine os_iconst (v := 1) hX dX7_readLet_64 (by decide) ?_
    refine os_iadd hX dX7_readLet_65 ?_
    obtain ⟨a43, e44, h⟩ := obn_e h
    obtain ⟨r47, s45, e46, h⟩ := orn_e h
    refine oc_RX7_70 (rb := x0) (a1 := .int (x2 + 1)) hX dX7_readLet_66 (by simp only [List.map_cons, List.map_nil, List.sum_cons, List.sum_nil, ocat]; exact Nat.le_of_ble_eq_true rfl) e44 (hc _ _ _ _ e46) ?_
    obtain ⟨s48, e49, h⟩ := obn_e h
    refine ow_put (r := x1) (x := va_rf r47) hX dX7_readLet_69 oF_RX7_223 (by decide) (orf_n (Or.inl ⟨_, oT_7_13⟩) r47) e49 ?_
    refine os_aload_n (r := x0) hX dX7_readLet_72 rfl rfl ?_
    refine os_dup hX dX7_readLet_73 (ocat x0) ?_
    obtain ⟨v50, e51, h⟩ := obn_e h
    refine ow_get (r := x0) hX dX7_readLet_74 oF_RX7_103 (ovi_e e51) ?_
    refine os_iconst (v := 1) hX dX7_readLet_77 (by decide) ?_
    refine os_isub hX dX7_readLet_78 ?_
    obtain ⟨s52, e53, h⟩ := obn_e h
    refine ow_put (r := x0) (x := .int (v50 - 1)) hX dX7_readLet_79 oF_RX7_103 (by decide) (opn_I oT_9_12) e53 ?_
    exact os_vret hX dX7_readLet_82 rfl (Option.some.inj h)
  · rw [if_pos c11] at h
    refine os_aload_n (r := x0) hX dX7_readLet_14 rfl rfl ?_
    refine os_aload_n (r := x1) hX dX7_readLet_15 rfl rfl ?_
    refine os_iload_n hX dX7_readLet_16 rfl rfl ?_
    obtain ⟨a54, e55, h⟩ := obn_e h
    obtain ⟨s56, e57, h⟩ := ocv_e h
    refine oc_RX7_218 (rb := x0) (a1 := va_rf x1) (a2 := .int x2) hX dX7_readLet_17 (Nat.le_of_ble_eq_true rfl) e55 (hc _ _ _ _ e57) ?_
    exact os_vret hX dX7_readLet_20 rfl (Option.some.inj h)
def ob_X7_readMatch (n : Nat) (call : oCl) (κ : oKv) (x0 : Option Nat) (x1 : Option Nat) (x2 : Int32) (σ : oSt) : oRs :=
  obn (oob σ x0 9) fun a1 =>
  ocv (call 105 [va_rf x0] σ) fun s3 =>
  obn (oob s3 x0 9) fun a6 =>
  oin (call 106 [va_rf x0] s3) fun r10 s8 =>
  obn (opf s8 x1 7 4 (.int r10)) fun s11 =>
  obn (oob s11 x0 9) fun a13 =>
  orn (call 119 [va_rf x0] s11) fun r17 s15 =>
  obn (opf s15 x1 7 9 (va_rf r17)) fun s18 =>
  obn (ovr (ofd s18 x1 7 9)) fun v20 =>
  orn (call 11 [va_rf v20, .int 1, .long 0] s18) fun r24 s22 =>
  obn (oob s22 x0 9) fun a25 =>
  orn (call 123 [va_rf x0, va_rf r24, .int 300] s22) fun r29 s27 =>
  obn (opf s27 x1 7 14 (va_rf r29)) fun s30 =>
  obn (oob s30 x0 9) fun a32 =>
  ocv (call 108 [va_rf x0, .int 225] s30) fun s34 =>
  obn (oob s34 x0 9) fun a37 =>
  ocv (call 108 [va_rf x0, .int 216] s34) fun s39 =>
  obn (oob s39 x0 9) fun a42 =>
  ocv (call 108 [va_rf x0, .int 304] s39) fun s44 =>
  obn (oob s44 x0 9) fun a47 =>
  orn (call 135 [va_rf x0, .int (x2 + 1)] s44) fun r51 s49 =>
  obn (opf s49 x1 7 12 (va_rf r51)) fun s52 =>
  obn (oob s52 x0 9) fun a54 =>
  ocv (call 108 [va_rf x0, .int 59] s52) fun s56 =>
  olet (onew s56 (.inr (1, odef 1)) (oq 1).2.2) fun s59 =>
  obn ((some s56.2.1)) fun a61 =>
  ocv (call 224 [va_rf (some s56.2.1)] s59) fun s63 =>
  obn (opf s63 x1 7 11 (va_rf (some s56.2.1))) fun s66 =>
  obn (oob s66 x0 9) fun a68 =>
  ocv (call 132 [va_rf x0, va_rf x1] s66) fun s70 =>
  obn (oob s70 x0 9) fun a73 =>
  ocv (call 132 [va_rf x0, va_rf x1] s70) fun s75 =>
  obn (oob s75 x0 9) fun a78 =>
  ocv (call 108 [va_rf x0, .int 304] s75) fun s80 =>
  obn (oob s80 x0 9) fun a83 =>
  orn (call 135 [va_rf x0, .int (x2 + 1)] s80) fun r87 s85 =>
  obn (opf s85 x1 7 13 (va_rf r87)) fun s88 =>
  obn (ovi (ofd s88 x0 9 12)) fun v90 =>
  obn (ovr (ofd s88 x1 7 11)) fun v92 =>
  obn (oob s88 v92 1) fun a94 =>
  oin (call 236 [va_rf v92] s88) fun r98 s96 =>
  obn (opf s96 x0 9 12 (.int (v90 - r98))) fun s99 =>
  some (none, s99)
set_option maxHeartbeats 4000000 in
theorem qb_X7_readMatch {κ : oKv} {n : Nat} {call : oCl} {kc : Nat → List Value → oSt → Option Value × oSt → Prop} {v : Option Value × oSt} {X : Nat → zLv → List Value → oSt → Prop} (hX : oSem RX7 cX7_readMatch 3 0 none κ kc v X) (hc : ∀ j av s w, call j av s = some w → kc j av s w) {x0 : Option Nat} {x1 : Option Nat} {x2 : Int32} {σ : oSt} (h : ob_X7_readMatch n call κ x0 x1 x2 σ = some v) : X 0 [some (va_rf x0), some (va_rf x1), some (.int x2)] [] σ := by
  rw [ob_X7_readMatch] at h
  refine os_aload_n (r := x0) hX dX7_readMatch_0 rfl rfl ?_
  obtain ⟨a1, e2, h⟩ := obn_e h
  obtain ⟨s3, e4, h⟩ := ocv_e h
  refine oc_RX7_98 (rb := x0)  hX dX7_readMatch_1 (Nat.le_of_ble_eq_true rfl) e2 (hc _ _ _ _ e4) ?_
  refine os_aload_n (r := x1) hX dX7_readMatch_4 rfl rfl ?_
  refine os_aload_n (r := x0) hX dX7_readMatch_5 rfl rfl ?_
  obtain ⟨a6, e7, h⟩ := obn_e h
  obtain ⟨r10, s8, e9, h⟩ := oin_e h
  refine oc_RX7_95 (rb := x0)  hX dX7_readMatch_6 (by simp only [List.map_cons, List.map_nil, List.sum_cons, List.sum_nil, ocat]; exact Nat.le_of_ble_eq_true rfl) e7 (hc _ _ _ _ e9) ?_
  obtain ⟨s11, e12, h⟩ := obn_e h
  refine ow_put (r := x1) (x := .int r10) hX dX7_readMatch_9 oF_RX7_202 (by decide) (opn_I oT_7_4) e12 ?_
  refine os_aload_n (r := x1) hX dX7_readMatch_12 rfl rfl ?_
  refine os_aload_n (r := x0) hX dX7_readMatch_13 rfl rfl ?_
  obtain ⟨a13, e14, h⟩ := obn_e h
  obtain ⟨r17, s15, e16, h⟩ := orn_e h
  refine oc_RX7_205 (rb := x0)  hX dX7_readMatch_14 (by simp only [List.map_cons, List.map_nil, List.sum_cons, List.sum_nil, ocat]; exact Nat.le_of_ble_eq_true rfl) e14 (hc _ _ _ _ e16) ?_
  obtain ⟨s18, e19, h⟩ := obn_e h
  refine ow_put (r := x1) (x := va_rf r17) hX dX7_readMatch_17 oF_RX7_208 (by decide) (orf_n (Or.inl ⟨_, oT_7_9⟩) r17) e19 ?_
  refine os_aload_n (r := x1) hX dX7_readMatch_20 rfl rfl ?_
  refine os_aload_n (r := x0) hX dX7_readMatch_21 rfl rfl ?_
  refine os_aload_n (r := x1) hX dX7_readMatch_22 rfl rfl ?_
  obtain ⟨v20, e21, h⟩ := obn_e h
  refine ow_get (r := x1) hX dX7_readMatch_23 oF_RX7_208 (ovr_e e21) ?_
  refine os_iconst (v := 1) hX dX7_readMatch_26 (by decide) ?_
  refine os_lconst (v := 0) hX dX7_readMatch_27 (by decide) ?_
  obtain ⟨r24, s22, e23, h⟩ := orn_e h
  refine oc_RX7_274 (a1 := va_rf v20) (a2 := .int 1) (a3 := .long 0) hX dX7_readMatch_28 (by simp only [List.map_cons, List.map_nil, List.sum_cons, List.sum_nil, ocat]; exact Nat.le_of_ble_eq_true rfl) (hc _ _ _ _ e23) ?_
  refine os_sipush (v := 300) hX dX7_readMatch_31 (by decide) ?_
  obtain ⟨a25, e26, h⟩ := obn_e h
  obtain ⟨r29, s27, e28, h⟩ := orn_e h
  refine oc_RX7_195 (rb := x0) (a1 := va_rf r24) (a2 := .int 300) hX dX7_readMatch_34 (by simp only [List.map_cons, List.map_nil, List.sum_cons, List.sum_nil, ocat]; exact Nat.le_of_ble_eq_true rfl) e26 (hc _ _ _ _ e28) ?_
  obtain ⟨s30, e31, h⟩ := obn_e h
  refine ow_put (r := x1) (x := va_rf r29) hX dX7_readMatch_37 oF_RX7_250 (by decide) (orf_n (Or.inl ⟨_, oT_7_14⟩) r29) e31 ?_
  refine os_aload_n (r := x0) hX dX7_readMatch_40 rfl rfl ?_
  refine os_sipush (v := 225) hX dX7_readMatch_41 (by decide) ?_
  obtain ⟨a32, e33, h⟩ := obn_e h
  obtain ⟨s34, e35, h⟩ := ocv_e h
  refine oc_RX7_109 (rb := x0) (a1 := .int 225) hX dX7_readMatch_44 (Nat.le_of_ble_eq_true rfl) e33 (hc _ _ _ _ e35) ?_
  refine os_aload_n (r := x0) hX dX7_readMatch_47 rfl rfl ?_
  refine os_sipush (v := 216) hX dX7_readMatch_48 (by decide) ?_
  obtain ⟨a37, e38, h⟩ := obn_e h
  obtain ⟨s39, e40, h⟩ := ocv_e h
  refine oc_RX7_109 (rb := x0) (a1 := .int 216) hX dX7_readMatch_51 (Nat.le_of_ble_eq_true rfl) e38 (hc _ _ _ _ e40) ?_
  refine os_aload_n (r := x0) hX dX7_readMatch_54 rfl rfl ?_
  refine os_sipush (v := 304) hX dX7_readMatch_55 (by decide) ?_
  obtain ⟨a42, e43, h⟩ := obn_e h
  obtain ⟨s44, e45, h⟩ := ocv_e h
  refine oc_RX7_109 (rb := x0) (a1 := .int 304) hX dX7_readMatch_58 (Nat.le_of_ble_eq_true rfl) e43 (hc _ _ _ _ e45) ?_
  refine os_aload_n (r := x1) hX dX7_readMatch_61 rfl rfl ?_
  refine os_aload_n (r := x0) hX dX7_readMatch_62 rfl rfl ?_
  refine os_iload_n hX dX7_readMatch_63 rfl rfl ?_
  refine os_iconst (v := 1) hX dX7_readMatch_64 (by decide) ?_
  refine os_iadd hX dX7_readMatch_65 ?_
  obtain ⟨a47, e48, h⟩ := obn_e h
  obtain ⟨r51, s49, e50, h⟩ := orn_e h
  refine oc_RX7_70 (rb := x0) (a1 := .int (x2 + 1)) hX dX7_readMatch_66 (by simp only [List.map_cons, List.map_nil, List.sum_cons, List.sum_nil, ocat]; exact Nat.le_of_ble_eq_true rfl) e48 (hc _ _ _ _ e50) ?_
  obtain ⟨s52, e53, h⟩ := obn_e h
  refine ow_put (r := x1) (x := va_rf r51) hX dX7_readMatch_69 oF_RX7_212 (by decide) (orf_n (Or.inl ⟨_, oT_7_12⟩) r51) e53 ?_
  refine os_aload_n (r := x0) hX dX7_readMatch_72 rfl rfl ?_
  refine os_bipush (v := 59) hX dX7_readMatch_73 (by decide) ?_
  obtain ⟨a54, e55, h⟩ := obn_e h
  obtain ⟨s56, e57, h⟩ := ocv_e h
  refine oc_RX7_109 (rb := x0) (a1 := .int 59) hX dX7_readMatch_75 (Nat.le_of_ble_eq_true rfl) e55 (hc _ _ _ _ e57) ?_
  refine os_aload_n (r := x1) hX dX7_readMatch_78 rfl rfl ?_
  obtain ⟨s59, e60, h⟩ := olet_e h
  refine os_new hX dX7_readMatch_79 oN_RX7_17 ?_
  rw [← e60]
  refine os_dup hX dX7_readMatch_82 (ocat (some s56.2.1)) ?_
  obtain ⟨a61, e62, h⟩ := obn_e h
  obtain ⟨s63, e64, h⟩ := ocv_e h
  refine oc_RX7_19 (rb := (some s56.2.1))  hX dX7_readMatch_83 (by simp only [List.map_cons, List.map_nil, List.sum_cons, List.sum_nil, ocat]; exact Nat.le_of_ble_eq_true rfl) e62 (hc _ _ _ _ e64) ?_
  obtain ⟨s66, e67, h⟩ := obn_e h
  refine ow_put (r := x1) (x := va_rf (some s56.2.1)) hX dX7_readMatch_86 oF_RX7_235 (by decide) (orf_n (Or.inl ⟨_, oT_7_11⟩) (some s56.2.1)) e67 ?_
  refine os_aload_n (r := x0) hX dX7_readMatch_89 rfl rfl ?_
  refine os_aload_n (r := x1) hX dX7_readMatch_90 rfl rfl ?_
  obtain ⟨a68, e69, h⟩ := obn_e h
  obtain ⟨s70, e71, h⟩ := ocv_e h
  refine oc_RX7_232 (rb := x0) (a1 := va_rf x1) hX dX7_readMatch_91 (Nat.le_of_ble_eq_true rfl) e69 (hc _ _ _ _ e71) ?_
  refine os_aload_n (r := x0) hX dX7_readMatch_94 rfl rfl ?_
  refine os_aload_n (r := x1) hX dX7_readMatch_95 rfl rfl ?_
  obtain ⟨a73, e74, h⟩ := obn_e h
  obtain ⟨s75, e76, h⟩ := ocv_e h
  refine oc_RX7_232 (rb := x0) (a1 := va_rf x1) hX dX7_readMatch_96 (Nat.le_of_ble_eq_true rfl) e74 (hc _ _ _ _ e76) ?_
  refine os_aload_n (r := x0) hX dX7_readMatch_99 rfl rfl ?_
  refine os_sipush (v := 304) hX dX7_readMatch_100 (by decide) ?_
  obtain ⟨a78, e79, h⟩ := obn_e h
  obtain ⟨s80, e81, h⟩ := ocv_e h
  refine oc_RX7_109 (rb := x0) (a1 := .int 304) hX dX7_readMatch_103 (Nat.le_of_ble_eq_true rfl) e79 (hc _ _ _ _ e81) ?_
  refine os_aload_n (r := x1) hX dX7_readMatch_106 rfl rfl ?_
  refine os_aload_n (r := x0) hX dX7_readMatch_107 rfl rfl ?_
  refine os_iload_n hX dX7_readMatch_108 rfl rfl ?_
  refine os_iconst (v := 1) hX dX7_readMatch_109 (by decide) ?_
  refine os_iadd hX dX7_readMatch_110 ?_
  obtain ⟨a83, e84, h⟩ := obn_e h
  obtain ⟨r87, s85, e86, h⟩ := orn_e h
  refine oc_RX7_70 (rb := x0) (a1 := .int (x2 + 1)) hX dX7_readMatch_111 (by simp only [List.map_cons, List.map_nil, List.sum_cons, List.sum_nil, ocat]; exact Nat.le_of_ble_eq_true rfl) e84 (hc _ _ _ _ e86) ?_
  obtain ⟨s88, e89, h⟩ := obn_e h
  refine ow_put (r := x1) (x := va_rf r87) hX dX7_readMatch_114 oF_RX7_223 (by decide) (orf_n (Or.inl ⟨_, oT_7_13⟩) r87) e89 ?_
  refine os_aload_n (r := x0) hX dX7_readMatch_117 rfl rfl ?_
  refine os_dup hX dX7_readMatch_118 (ocat x0) ?_
  obtain ⟨v90, e91, h⟩ := obn_e h
  refine ow_get (r := x0) hX dX7_readMatch_119 oF_RX7_103 (ovi_e e91) ?_
  refine os_aload_n (r := x1) hX dX7_readMatch_122 rfl rfl ?_
  obtain ⟨v92, e93, h⟩ := obn_e h
  refine ow_get (r := x1) hX dX7_readMatch_123 oF_RX7_235 (ovr_e e93) ?_
  obtain ⟨a94, e95, h⟩ := obn_e h
  obtain ⟨r98, s96, e97, h⟩ := oin_e h
  refine oc_RX7_238 (rb := v92)  hX dX7_readMatch_126 (by simp only [List.map_cons, List.map_nil, List.sum_cons, List.sum_nil, ocat]; exact Nat.le_of_ble_eq_true rfl) e95 (hc _ _ _ _ e97) ?_
  refine os_isub hX dX7_readMatch_129 ?_
  obtain ⟨s99, e100, h⟩ := obn_e h
  refine ow_put (r := x0) (x := .int (v90 - r98)) hX dX7_readMatch_130 oF_RX7_103 (by decide) (opn_I oT_9_12) e100 ?_
  exact os_vret hX dX7_readMatch_133 rfl (Option.some.inj h)
def oj_X7_readOpen_173 (n : Nat) (call : oCl) (κ : oKv) (x4 : Option Nat) (t0 : Option Nat) (t1 : Option Nat) (σ : oSt) : oRs :=
  obn (opf σ t0 7 17 (va_rf t1)) fun s1 =>
  some (some (va_rf x4), s1)
def oj_X7_readOpen_94 (n : Nat) (call : oCl) (κ : oKv) (x0 : Option Nat) (x3 : Option Nat) (σ : oSt) : oRs :=
  olet (onew σ (.inr (7, odef 7)) (oq 7).2.2) fun s1 =>
  obn (oob s1 x0 9) fun a3 =>
  oin (call 104 [va_rf x0] s1) fun r7 s5 =>
  obn (ovi (ofd s5 x3 7 1)) fun v8 =>
  obn (ovi (ofd s5 x0 9 12)) fun v10 =>
  obn ((some σ.2.1)) fun a12 =>
  ocv (call 102 [va_rf (some σ.2.1), .int r7, .int v8, .int v10] s5) fun s14 =>
  obn (oob s14 x0 9) fun a17 =>
  oin (call 106 [va_rf x0] s14) fun r21 s19 =>
  obn (opf s19 (some σ.2.1) 7 3 (.int r21)) fun s22 =>
  obn (oob s22 x0 9) fun a24 =>
  ocv (call 105 [va_rf x0] s22) fun s26 =>
  obn (opf s26 (some σ.2.1) 7 15 (va_rf x3)) fun s29 =>
  obn (oob s29 x0 9) fun a31 =>
  orn (call 121 [va_rf x0] s29) fun r35 s33 =>
  obn (opf s33 (some σ.2.1) 7 16 (va_rf r35)) fun s36 =>
  obn (ovi (ofd s36 (some σ.2.1) 7 0)) fun v38 =>
  if v38 = 42 then
    oj_X7_readOpen_173 n call κ (some σ.2.1) (some σ.2.1) none s36
  else
    obn (ovr (ofd s36 (some σ.2.1) 7 16)) fun v41 =>
    obn (ovr (ofd s36 v41 7 19)) fun v43 =>
    obn (oob s36 x0 9) fun a45 =>
    orn (call 123 [va_rf x0, va_rf v43, .int 35] s36) fun r49 s47 =>
    oj_X7_readOpen_173 n call κ (some σ.2.1) (some σ.2.1) r49 s47
def oj_X7_readOpen_26 (n : Nat) (call : oCl) (κ : oKv) (x0 : Option Nat) (x1 : Int32) (t0 : Int32) (σ : oSt) : oRs :=
  if t0 = 91 then
    obn (oob σ x0 9) fun a34 =>
    orn (call 118 [va_rf x0, .int 91] σ) fun r38 s36 =>
    obn (oob s36 x0 9) fun a39 =>
    ocv (call 133 [va_rf x0, va_rf r38] s36) fun s41 =>
    some (some (va_rf r38), s41)
  else
    oin (call 130 [.int t0] σ) fun r4 s2 =>
    if r4 = 0 then
      obn (oob s2 x0 9) fun a6 =>
      orn (call 121 [va_rf x0] s2) fun r10 s8 =>
      obn (oob s8 x0 9) fun a11 =>
      oin (call 104 [va_rf x0] s8) fun r15 s13 =>
      if r15 = 42 then
        oj_X7_readOpen_94 n call κ x0 r10 s13
      else
        obn (oob s13 x0 9) fun a17 =>
        oin (call 104 [va_rf x0] s13) fun r21 s19 =>
        if r21 = 47 then
          oj_X7_readOpen_94 n call κ x0 r10 s19
        else
          obn (oob s19 x0 9) fun a23 =>
          oin (call 104 [va_rf x0] s19) fun r27 s25 =>
          if r27 = 37 then
            oj_X7_readOpen_94 n call κ x0 r10 s25
          else
            some (some (va_rf r10), s25)
    else
      obn (oob s2 x0 9) fun a29 =>
      orn (call 137 [va_rf x0, .int x1] s2) fun r33 s31 =>
      some (some (va_rf r33), s31)
def ob_X7_readOpen (n : Nat) (call : oCl) (κ : oKv) (x0 : Option Nat) (x1 : Int32) (σ : oSt) : oRs :=
  obn (oob σ x0 9) fun a1 =>
  oin (call 104 [va_rf x0] σ) fun r5 s3 =>
  if r5 = 1 then
    obn (ovr (ofd s3 x0 9 0)) fun v7 =>
    obn (ovr (ofd s3 v7 13 1)) fun v9 =>
    obn (ovi (ofd s3 x0 9 11)) fun v11 =>
    obn (oai s3 v9 .int (v11 + 1)) fun v13 =>
    oj_X7_readOpen_26 n call κ x0 x1 v13 s3
  else
    oj_X7_readOpen_26 n call κ x0 x1 0 s3
set_option maxHeartbeats 4000000 in
theorem qj_X7_readOpen_173 {κ : oKv} {n : Nat} {call : oCl} {kc : Nat → List Value → oSt → Option Value × oSt → Prop} {v : Option Value × oSt} {X : Nat → zLv → List Value → oSt → Prop} (hX : oSem RX7 cX7_readOpen 5 0 (some (.object "LiquidTongue$Node")) κ kc v X) (hc : ∀ j av s w, call j av s = some w → kc j av s w) {x4 : Option Nat} {t0 : Option Nat} {t1 : Option Nat} {σ : oSt} (h : oj_X7_readOpen_173 n call κ x4 t0 t1 σ = some v) : X 173 [none, none, none, none, some (va_rf x4)] [va_rf t1, va_rf t0] σ := by
  rw [oj_X7_readOpen_173] at h
  obtain ⟨s1, e2, h⟩ := obn_e h
  refine ow_put (r := t0) (x := va_rf t1) hX dX7_readOpen_173 oF_RX7_199 (by decide) (orf_n (Or.inl ⟨_, oT_7_17⟩) t1) e2 ?_
  refine os_aload (r := x4) hX dX7_readOpen_176 rfl ?_
  exact os_aret (r := x4) hX dX7_readOpen_178 rfl (Option.some.inj h)
set_option maxHeartbeats 4000000 in
theorem qj_X7_readOpen_94 {κ : oKv} {n : Nat} {call : oCl} {kc : Nat → List Value → oSt → Option Value × oSt → Prop} {v : Option Value × oSt} {X : Nat → zLv → List Value → oSt → Prop} (hX : oSem RX7 cX7_readOpen 5 0 (some (.object "LiquidTongue$Node")) κ kc v X) (hc : ∀ j av s w, call j av s = some w → kc j av s w) {x0 : Option Nat} {x3 : Option Nat} {σ : oSt} (h : oj_X7_readOpen_94 n call κ x0 x3 σ = some v) : X 94 [some (va_rf x0), none, none, some (va_rf x3), none] [] σ := by
  rw [oj_X7_readOpen_94] at h
  obtain ⟨s1, e2, h⟩ := olet_e h
  refine os_new hX dX7_readOpen_94 oN_RX7_101 ?_
  rw [← e2]
  refine os_dup hX dX7_readOpen_97 (ocat (some σ.2.1)) ?_
  refine os_aload_n (r := x0) hX dX7_readOpen_98 rfl rfl ?_
  obtain ⟨a3, e4, h⟩ := obn_e h
  obtain ⟨r7, s5, e6, h⟩ := oin_e h
  refine oc_RX7_57 (rb := x0)  hX dX7_readOpen_99 (by simp only [List.map_cons, List.map_nil, List.sum_cons, List.sum_nil, ocat]; exact Nat.le_of_ble_eq_true rfl) e4 (hc _ _ _ _ e6) ?_
  refine os_aload_n (r := x3) hX dX7_readOpen_102 rfl rfl ?_
  obtain ⟨v8, e9, h⟩ := obn_e h
  refine ow_get (r := x3) hX dX7_readOpen_103 oF_RX7_284 (ovi_e e9) ?_
  refine os_aload_n (r := x0) hX dX7_readOpen_106 rfl rfl ?_
  obtain ⟨v10, e11, h⟩ := obn_e h
  refine ow_get (r := x0) hX dX7_readOpen_107 oF_RX7_103 (ovi_e e11) ?_
  obtain ⟨a12, e13, h⟩ := obn_e h
  obtain ⟨s14, e15, h⟩ := ocv_e h
  refine oc_RX7_106 (rb := (some σ.2.1)) (a1 := .int r7) (a2 := .int v8) (a3 := .int v10) hX dX7_readOpen_110 (by simp only [List.map_cons, List.map_nil, List.sum_cons, List.sum_nil, ocat]; exact Nat.le_of_ble_eq_true rfl) e13 (hc _ _ _ _ e15) ?_
  refine os_astore (r := (some σ.2.1)) hX dX7_readOpen_113 (by decide) (ozlo (i := 3) (r := x3) rfl) ?_
  dsimp only [List.set]
  refine os_aload (r := (some σ.2.1)) hX dX7_readOpen_115 rfl ?_
  refine os_aload_n (r := x0) hX dX7_readOpen_117 rfl rfl ?_
  obtain ⟨a17, e18, h⟩ := obn_e h
  obtain ⟨r21, s19, e20, h⟩ := oin_e h
  refine oc_RX7_95 (rb := x0)  hX dX7_readOpen_118 (by simp only [List.map_cons, List.map_nil, List.sum_cons, List.sum_nil, ocat]; exact Nat.le_of_ble_eq_true rfl) e18 (hc _ _ _ _ e20) ?_
  obtain ⟨s22, e23, h⟩ := obn_e h
  refine ow_put (r := (some σ.2.1)) (x := .int r21) hX dX7_readOpen_121 oF_RX7_258 (by decide) (opn_I oT_7_3) e23 ?_
  refine os_aload_n (r := x0) hX dX7_readOpen_124 rfl rfl ?_
  obtain ⟨a24, e25, h⟩ := obn_e h
  obtain ⟨s26, e27, h⟩ := ocv_e h
  refine oc_RX7_98 (rb := x0)  hX dX7_readOpen_125 (Nat.le_of_ble_eq_true rfl) e25 (hc _ _ _ _ e27) ?_
  refine os_aload (r := (some σ.2.1)) hX dX7_readOpen_128 rfl ?_
  refine os_aload_n (r := x3) hX dX7_readOpen_130 rfl rfl ?_
  obtain ⟨s29, e30, h⟩ := obn_e h
  refine ow_put (r := (some σ.2.1)) (x := va_rf x3) hX dX7_readOpen_131 oF_RX7_189 (by decide) (orf_n (Or.inl ⟨_, oT_7_15⟩) x3) e30 ?_
  refine os_aload (r := (some σ.2.1)) hX dX7_readOpen_134 rfl ?_
  refine os_aload_n (r := x0) hX dX7_readOpen_136 rfl rfl ?_
  obtain ⟨a31, e32, h⟩ := obn_e h
  obtain ⟨r35, s33, e34, h⟩ := orn_e h
  refine oc_RX7_185 (rb := x0)  hX dX7_readOpen_137 (by simp only [List.map_cons, List.map_nil, List.sum_cons, List.sum_nil, ocat]; exact Nat.le_of_ble_eq_true rfl) e32 (hc _ _ _ _ e34) ?_
  obtain ⟨s36, e37, h⟩ := obn_e h
  refine ow_put (r := (some σ.2.1)) (x := va_rf r35) hX dX7_readOpen_140 oF_RX7_255 (by decide) (orf_n (Or.inl ⟨_, oT_7_16⟩) r35) e37 ?_
  refine os_aload (r := (some σ.2.1)) hX dX7_readOpen_143 rfl ?_
  refine os_aload (r := (some σ.2.1)) hX dX7_readOpen_145 rfl ?_
  obtain ⟨v38, e39, h⟩ := obn_e h
  refine ow_get (r := (some σ.2.1)) hX dX7_readOpen_147 oF_RX7_226 (ovi_e e39) ?_
  refine os_bipush (v := 42) hX dX7_readOpen_150 (by decide) ?_
  refine os_icmp_ne (tgt := 159) hX dX7_readOpen_152 (by decide) (fun c40 => ?_) (fun c40 => ?_)
  · rw [if_neg c40] at h
    refine os_aload_n (r := x0) hX dX7_readOpen_159 rfl rfl ?_
    refine os_aload (r := (some σ.2.1)) hX dX7_readOpen_160 rfl ?_
    obtain ⟨v41, e42, h⟩ := obn_e h
    refine ow_get (r := (some σ.2.1)) hX dX7_readOpen_162 oF_RX7_255 (ovr_e e42) ?_
    obtain ⟨v43, e44, h⟩ := obn_e h
    refine ow_get (r := v41) hX dX7_readOpen_165 oF_RX7_192 (ovr_e e44) ?_
    refine os_bipush (v := 35) hX dX7_readOpen_168 (by decide) ?_
    obtain ⟨a45, e46, h⟩ := obn_e h
    obtain ⟨r49, s47, e48, h⟩ := orn_e h
    refine oc_RX7_195 (rb := x0) (a1 := va_rf v43) (a2 := .int 35) hX dX7_readOpen_170 (by simp only [List.map_cons, List.map_nil, List.sum_cons, List.sum_nil, ocat]; exact Nat.le_of_ble_eq_true rfl) e46 (hc _ _ _ _ e48) ?_
    refine os_weak hX (lw := [none, none, none, none, some (va_rf (some σ.2.1))]) ⟨rfl, trivial⟩ ?_
    exact qj_X7_readOpen_173 hX hc h
  · rw [if_pos c40] at h
    refine os_null hX dX7_readOpen_155 ?_
    refine os_goto (tgt := 173) hX dX7_readOpen_156 (by decide) ?_
    refine os_weak hX (lw := [none, none, none, none, some (va_rf (some σ.2.1))]) ⟨rfl, trivial⟩ ?_
    exact qj_X7_readOpen_173 hX hc h
set_option maxHeartbeats 4000000 in
theorem qj_X7_readOpen_26 {κ : oKv} {n : Nat} {call : oCl} {kc : Nat → List Value → oSt → Option Value × oSt → Prop} {v : Option Value × oSt} {X : Nat → zLv → List Value → oSt → Prop} (hX : oSem RX7 cX7_readOpen 5 0 (some (.object "LiquidTongue$Node")) κ kc v X) (hc : ∀ j av s w, call j av s = some w → kc j av s w) {x0 : Option Nat} {x1 : Int32} {t0 : Int32} {σ : oSt} (h : oj_X7_readOpen_26 n call κ x0 x1 t0 σ = some v) : X 26 [some (va_rf x0), some (.int x1), none, none, none] [.int t0] σ := by
  rw [oj_X7_readOpen_26] at h
  refine os_istore_n hX dX7_readOpen_26 rfl (by decide) rfl ?_
  dsimp only [List.set]
  refine os_iload_n hX dX7_readOpen_27 rfl rfl ?_
  refine os_bipush (v := 91) hX dX7_readOpen_28 (by decide) ?_
  refine os_icmp_ne (tgt := 47) hX dX7_readOpen_30 (by decide) (fun c1 => ?_) (fun c1 => ?_)
  · rw [if_neg c1] at h
    refine os_iload_n hX dX7_readOpen_47 rfl rfl ?_
    obtain ⟨r4, s2, e3, h⟩ := oin_e h
    refine oc_RX7_278 (a1 := .int t0) hX dX7_readOpen_48 (Nat.le_of_ble_eq_true rfl) (hc _ _ _ _ e3) ?_
    refine os_if_eq (tgt := 60) hX dX7_readOpen_51 (by decide) (fun c5 => ?_) (fun c5 => ?_)
    · rw [if_pos c5] at h
      refine os_aload_n (r := x0) hX dX7_readOpen_60 rfl rfl ?_
      obtain ⟨a6, e7, h⟩ := obn_e h
      obtain ⟨r10, s8, e9, h⟩ := orn_e h
      refine oc_RX7_185 (rb := x0)  hX dX7_readOpen_61 (Nat.le_of_ble_eq_true rfl) e7 (hc _ _ _ _ e9) ?_
      refine os_astore_n (r := r10) hX dX7_readOpen_64 rfl (by decide) rfl ?_
      dsimp only [List.set]
      refine os_aload_n (r := x0) hX dX7_readOpen_65 rfl rfl ?_
      obtain ⟨a11, e12, h⟩ := obn_e h
      obtain ⟨r15, s13, e14, h⟩ := oin_e h
      refine oc_RX7_57 (rb := x0)  hX dX7_readOpen_66 (Nat.le_of_ble_eq_true rfl) e12 (hc _ _ _ _ e14) ?_
      refine os_bipush (v := 42) hX dX7_readOpen_69 (by decide) ?_
      refine os_icmp_eq (tgt := 94) hX dX7_readOpen_71 (by decide) (fun c16 => ?_) (fun c16 => ?_)
      · rw [if_pos c16] at h
        refine os_weak hX (lw := [some (va_rf x0), none, none, some (va_rf r10), none]) ⟨rfl, rfl, trivial⟩ ?_
        exact qj_X7_readOpen_94 hX hc h
      · rw [if_neg c16] at h
        refine os_aload_n (r := x0) hX dX7_readOpen_74 rfl rfl ?_
        obtain ⟨a17, e18, h⟩ := obn_e h
        obtain ⟨r21, s19, e20, h⟩ := oin_e h
        refine oc_RX7_57 (rb := x0)  hX dX7_readOpen_75 (Nat.le_of_ble_eq_true rfl) e18 (hc _ _ _ _ e20) ?_
        refine os_bipush (v := 47) hX dX7_readOpen_78 (by decide) ?_
        refine os_icmp_eq (tgt := 94) hX dX7_readOpen_80 (by decide) (fun c22 => ?_) (fun c22 => ?_)
        · rw [if_pos c22] at h
          refine os_weak hX (lw := [some (va_rf x0), none, none, some (va_rf r10), none]) ⟨rfl, rfl, trivial⟩ ?_
          exact qj_X7_readOpen_94 hX hc h
        · rw [if_neg c22] at h
          refine os_aload_n (r := x0) hX dX7_readOpen_83 rfl rfl ?_
          obtain ⟨a23, e24, h⟩ := obn_e h
          obtain ⟨r27, s25, e26, h⟩ := oin_e h
          refine oc_RX7_57 (rb := x0)  hX dX7_readOpen_84 (Nat.le_of_ble_eq_true rfl) e24 (hc _ _ _ _ e26) ?_
          refine os_bipush (v := 37) hX dX7_readOpen_87 (by decide) ?_
          refine os_icmp_eq (tgt := 94) hX dX7_readOpen_89 (by decide) (fun c28 => ?_) (fun c28 => ?_)
          · rw [if_pos c28] at h
            refine os_weak hX (lw := [some (va_rf x0), none, none, some (va_rf r10), none]) ⟨rfl, rfl, trivial⟩ ?_
            exact qj_X7_readOpen_94 hX hc h
          · rw [if_neg c28] at h
            refine os_aload_n (r := r10) hX dX7_readOpen_92 rfl rfl ?_
            exact os_aret (r := r10) hX dX7_readOpen_93 rfl (Option.some.inj h)
    · rw [if_neg c5] at h
      refine os_aload_n (r := x0) hX dX7_readOpen_54 rfl rfl ?_
      refine os_iload_n hX dX7_readOpen_55 rfl rfl ?_
      obtain ⟨a29, e30, h⟩ := obn_e h
      obtain ⟨r33, s31, e32, h⟩ := orn_e h
      refine oc_RX7_281 (rb := x0) (a1 := .int x1) hX dX7_readOpen_56 (Nat.le_of_ble_eq_true rfl) e30 (hc _ _ _ _ e32) ?_
      exact os_aret (r := r33) hX dX7_readOpen_59 rfl (Option.some.inj h)
  · rw [if_pos c1] at h
    refine os_aload_n (r := x0) hX dX7_readOpen_33 rfl rfl ?_
    refine os_bipush (v := 91) hX dX7_readOpen_34 (by decide) ?_
    obtain ⟨a34, e35, h⟩ := obn_e h
    obtain ⟨r38, s36, e37, h⟩ := orn_e h
    refine oc_RX7_163 (rb := x0) (a1 := .int 91) hX dX7_readOpen_36 (Nat.le_of_ble_eq_true rfl) e35 (hc _ _ _ _ e37) ?_
    refine os_astore_n (r := r38) hX dX7_readOpen_39 rfl (by decide) rfl ?_
    dsimp only [List.set]
    refine os_aload_n (r := x0) hX dX7_readOpen_40 rfl rfl ?_
    refine os_aload_n (r := r38) hX dX7_readOpen_41 rfl rfl ?_
    obtain ⟨a39, e40, h⟩ := obn_e h
    obtain ⟨s41, e42, h⟩ := ocv_e h
    refine oc_RX7_252 (rb := x0) (a1 := va_rf r38) hX dX7_readOpen_42 (Nat.le_of_ble_eq_true rfl) e40 (hc _ _ _ _ e42) ?_
    refine os_aload_n (r := r38) hX dX7_readOpen_45 rfl rfl ?_
    exact os_aret (r := r38) hX dX7_readOpen_46 rfl (Option.some.inj h)
set_option maxHeartbeats 4000000 in
theorem qb_X7_readOpen {κ : oKv} {n : Nat} {call : oCl} {kc : Nat → List Value → oSt → Option Value × oSt → Prop} {v : Option Value × oSt} {X : Nat → zLv → List Value → oSt → Prop} (hX : oSem RX7 cX7_readOpen 5 0 (some (.object "LiquidTongue$Node")) κ kc v X) (hc : ∀ j av s w, call j av s = some w → kc j av s w) {x0 : Option Nat} {x1 : Int32} {σ : oSt} (h : ob_X7_readOpen n call κ x0 x1 σ = some v) : X 0 [some (va_rf x0), some (.int x1), none, none, none] [] σ := by
  rw [ob_X7_readOpen] at h
  refine os_aload_n (r := x0) hX dX7_readOpen_0 rfl rfl ?_
  obtain ⟨a1, e2, h⟩ := obn_e h
  obtain ⟨r5, s3, e4, h⟩ := oin_e h
  refine oc_RX7_57 (rb := x0)  hX dX7_readOpen_1 (Nat.le_of_ble_eq_true rfl) e2 (hc _ _ _ _ e4) ?_
  refine os_iconst (v := 1) hX dX7_readOpen_4 (by decide) ?_
  refine os_icmp_ne (tgt := 25) hX dX7_readOpen_5 (by decide) (fun c6 => ?_) (fun c6 => ?_)
  · rw [if_neg c6] at h
    refine os_iconst (v := 0) hX dX7_readOpen_25 (by decide) ?_
    exact qj_X7_readOpen_26 hX hc h
  · rw [if_pos c6] at h
    refine os_aload_n (r := x0) hX dX7_readOpen_8 rfl rfl ?_
    obtain ⟨v7, e8, h⟩ := obn_e h
    refine ow_get (r := x0) hX dX7_readOpen_9 oF_RX7_50 (ovr_e e8) ?_
    obtain ⟨v9, e10, h⟩ := obn_e h
    refine ow_get (r := v7) hX dX7_readOpen_12 oF_RX7_81 (ovr_e e10) ?_
    refine os_aload_n (r := x0) hX dX7_readOpen_15 rfl rfl ?_
    obtain ⟨v11, e12, h⟩ := obn_e h
    refine ow_get (r := x0) hX dX7_readOpen_16 oF_RX7_86 (ovi_e e12) ?_
    refine os_iconst (v := 1) hX dX7_readOpen_19 (by decide) ?_
    refine os_iadd hX dX7_readOpen_20 ?_
    obtain ⟨v13, e14, h⟩ := obn_e h
    refine ow_ai (r := v9) (i := (v11 + 1)) hX dX7_readOpen_21 e14 ?_
    refine os_goto (tgt := 26) hX dX7_readOpen_22 (by decide) ?_
    exact qj_X7_readOpen_26 hX hc h
