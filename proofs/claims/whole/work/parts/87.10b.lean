/-! the methods of the class as plain functions (156 to 166) -/
theorem olk_X10_infer_18 {x : Int32} (h0 : ¬ x = 40) (h1 : ¬ x = 201) (h2 : ¬ x = 206) (h3 : ¬ x = 207) (h4 : ¬ x = 212) (h5 : ¬ x = 214) (h6 : ¬ x = 219) (h7 : ¬ x = 220) (h8 : ¬ x = 401) : Op.lookupswitch.offset (#[(40, 301), (201, 226), (206, 120), (207, 172), (212, 82), (214, 218), (219, 112), (220, 249), (401, 316)] : Array (Int × Int)).toList 324 x.toInt = 324 := by
  have a0 := z_ne h0 (k := 40) (by decide)
  have a1 := z_ne h1 (k := 201) (by decide)
  have a2 := z_ne h2 (k := 206) (by decide)
  have a3 := z_ne h3 (k := 207) (by decide)
  have a4 := z_ne h4 (k := 212) (by decide)
  have a5 := z_ne h5 (k := 214) (by decide)
  have a6 := z_ne h6 (k := 219) (by decide)
  have a7 := z_ne h7 (k := 220) (by decide)
  have a8 := z_ne h8 (k := 401) (by decide)
  simp [Op.lookupswitch.offset, a0, Ne.symm a0, a1, Ne.symm a1, a2, Ne.symm a2, a3, Ne.symm a3, a4, Ne.symm a4, a5, Ne.symm a5, a6, Ne.symm a6, a7, Ne.symm a7, a8, Ne.symm a8]
def oj_X10_infer_351 (n : Nat) (call : oCl) (κ : oKv) (x1 : Option Nat) (σ : oSt) : oRs :=
  obn (ovi (ofd σ x1 7 8)) fun v1 =>
  some (some (.int v1), σ)
def ob_X10_infer (n : Nat) (call : oCl) (κ : oKv) (x0 : Option Nat) (x1 : Option Nat) (σ : oSt) : oRs :=
  obn (ovi (ofd σ x0 12 8)) fun v1 =>
  if v1 < 0 then
    obn (ovi (ofd σ x1 7 0)) fun v4 =>
    if v4 = 40 then
      obn (ovr (ofd σ x1 7 12)) fun v7 =>
      obn (oob σ x0 12) fun a9 =>
      oin (call 156 [va_rf x0, va_rf v7] σ) fun r13 s11 =>
      obn (opf s11 x1 7 8 (.int r13)) fun s14 =>
      oj_X10_infer_351 n call κ x1 s14
    else
    if v4 = 201 then
      obn (ovr (ofd σ x1 7 14)) fun v17 =>
      obn (oob σ x0 12) fun a19 =>
      ocv (call 154 [va_rf x0, va_rf v17] σ) fun s21 =>
      obn (ovr (ofd s21 x1 7 12)) fun v24 =>
      obn (oob s21 x0 12) fun a26 =>
      oin (call 156 [va_rf x0, va_rf v24] s21) fun r30 s28 =>
      obn (opf s28 x1 7 8 (.int r30)) fun s31 =>
      oj_X10_infer_351 n call κ x1 s31
    else
    if v4 = 206 then
      obn (ovr (ofd σ x1 7 11)) fun v34 =>
      obn (oob σ v34 1) fun a36 =>
      orn (call 234 [va_rf v34, .int 0] σ) fun r40 s38 =>
      ogd (ocs s38 r40 6) (
      obn (oob s38 x0 12) fun a42 =>
      oin (call 146 [va_rf x0, .int 0] s38) fun r46 s44 =>
      obn (opf s44 r40 6 2 (.int r46)) fun s47 =>
      obn (ovr (ofd s47 x1 7 11)) fun v49 =>
      obn (oob s47 v49 1) fun a51 =>
      orn (call 234 [va_rf v49, .int 0] s47) fun r55 s53 =>
      ogd (ocs s53 r55 6) (
      obn (ovi (ofd s53 r55 6 2)) fun v57 =>
      obn (ovr (ofd s53 x1 7 12)) fun v59 =>
      obn (oob s53 x0 12) fun a61 =>
      oin (call 156 [va_rf x0, va_rf v59] s53) fun r65 s63 =>
      obn (oob s63 x0 12) fun a66 =>
      oin (call 149 [va_rf x0, .int v57, .int r65] s63) fun r70 s68 =>
      obn (opf s68 x1 7 8 (.int r70)) fun s71 =>
      oj_X10_infer_351 n call κ x1 s71))
    else
    if v4 = 207 then
      obn (ovr (ofd σ x1 7 14)) fun v74 =>
      obn (oob σ x0 12) fun a76 =>
      ocv (call 154 [va_rf x0, va_rf v74] σ) fun s78 =>
      obn (ovr (ofd s78 x1 7 12)) fun v81 =>
      obn (oob s78 x0 12) fun a83 =>
      oin (call 156 [va_rf x0, va_rf v81] s78) fun r87 s85 =>
      obn (opf s85 x1 7 8 (.int r87)) fun s88 =>
      obn (ovr (ofd s88 x1 7 13)) fun v90 =>
      obn (oob s88 x0 12) fun a92 =>
      oin (call 156 [va_rf x0, va_rf v90] s88) fun r96 s94 =>
      obn (ovi (ofd s94 x1 7 8)) fun v97 =>
      obn (ovr (ofd s94 x1 7 13)) fun v99 =>
      obn (ovi (ofd s94 v99 7 1)) fun v101 =>
      obn (oob s94 x0 12) fun a103 =>
      ocv (call 152 [va_rf x0, .int r96, .int v97, .int v101] s94) fun s105 =>
      oj_X10_infer_351 n call κ x1 s105
    else
    if v4 = 212 then
      obn (ovr (ofd σ x1 7 10)) fun v109 =>
      obn (ovr (ofd σ x1 7 12)) fun v111 =>
      obn (oob σ x0 12) fun a113 =>
      oin (call 156 [va_rf x0, va_rf v111] σ) fun r117 s115 =>
      obn (opf s115 v109 6 2 (.int r117)) fun s118 =>
      obn (ovr (ofd s118 x1 7 13)) fun v120 =>
      obn (oob s118 x0 12) fun a122 =>
      oin (call 156 [va_rf x0, va_rf v120] s118) fun r126 s124 =>
      obn (opf s124 x1 7 8 (.int r126)) fun s127 =>
      oj_X10_infer_351 n call κ x1 s127
    else
    if v4 = 214 then
      obn (oob σ x0 12) fun a130 =>
      ocv (call 158 [va_rf x0, va_rf x1] σ) fun s132 =>
      oj_X10_infer_351 n call κ x1 s132
    else
    if v4 = 219 then
      obn (oob σ x0 12) fun a136 =>
      ocv (call 159 [va_rf x0, va_rf x1] σ) fun s138 =>
      oj_X10_infer_351 n call κ x1 s138
    else
    if v4 = 220 then
      obn (ovr (ofd σ x1 7 9)) fun v142 =>
      obn (ovi (ofd σ v142 6 2)) fun v144 =>
      oin (call 148 [.int 200] σ) fun r148 s146 =>
      obn (ovi (ofd s146 x1 7 4)) fun v149 =>
      obn (oob s146 x0 12) fun a151 =>
      ocv (call 152 [va_rf x0, .int v144, .int r148, .int v149] s146) fun s153 =>
      obn (ovr (ofd s153 x1 7 15)) fun v156 =>
      obn (oob s153 x0 12) fun a158 =>
      ocv (call 153 [va_rf x0, va_rf v156] s153) fun s160 =>
      obn (ovr (ofd s160 x1 7 16)) fun v163 =>
      obn (oob s160 x0 12) fun a165 =>
      ocv (call 153 [va_rf x0, va_rf v163] s160) fun s167 =>
      obn (ovr (ofd s167 x1 7 12)) fun v170 =>
      obn (oob s167 x0 12) fun a172 =>
      oin (call 156 [va_rf x0, va_rf v170] s167) fun r176 s174 =>
      obn (opf s174 x1 7 8 (.int r176)) fun s177 =>
      oj_X10_infer_351 n call κ x1 s177
    else
    if v4 = 401 then
      obn (oob σ x0 12) fun a180 =>
      ocv (call 157 [va_rf x0, va_rf x1] σ) fun s182 =>
      oj_X10_infer_351 n call κ x1 s182
    else
    obn (oob σ x0 12) fun a185 =>
    oin (call 155 [va_rf x0, va_rf x1] σ) fun r189 s187 =>
    obn (opf s187 x1 7 8 (.int r189)) fun s190 =>
    oj_X10_infer_351 n call κ x1 s190
  else
    oin (call 148 [.int 210] σ) fun r194 s192 =>
    some (some (.int r194), s192)
set_option maxHeartbeats 4000000 in
theorem qj_X10_infer_351 {κ : oKv} {n : Nat} {call : oCl} {kc : Nat → List Value → oSt → Option Value × oSt → Prop} {v : Option Value × oSt} {X : Nat → zLv → List Value → oSt → Prop} (hX : oSem RX10 cX10_infer 2 0 (some .int) κ kc v X) (hc : ∀ j av s w, call j av s = some w → kc j av s w) {x1 : Option Nat} {σ : oSt} (h : oj_X10_infer_351 n call κ x1 σ = some v) : X 351 [none, some (va_rf x1)] [] σ := by
  rw [oj_X10_infer_351] at h
  refine os_aload_n (r := x1) hX dX10_infer_351 rfl rfl ?_
  obtain ⟨v1, e2, h⟩ := obn_e h
  refine ow_get (r := x1) hX dX10_infer_352 oF_RX10_120 (ovi_e e2) ?_
  exact os_iret hX dX10_infer_355 rfl (Option.some.inj h)
set_option maxHeartbeats 4000000 in
theorem qb_X10_infer {κ : oKv} {n : Nat} {call : oCl} {kc : Nat → List Value → oSt → Option Value × oSt → Prop} {v : Option Value × oSt} {X : Nat → zLv → List Value → oSt → Prop} (hX : oSem RX10 cX10_infer 2 0 (some .int) κ kc v X) (hc : ∀ j av s w, call j av s = some w → kc j av s w) {x0 : Option Nat} {x1 : Option Nat} {σ : oSt} (h : ob_X10_infer n call κ x0 x1 σ = some v) : X 0 [some (va_rf x0), some (va_rf x1)] [] σ := by
  rw [ob_X10_infer] at h
  refine os_aload_n (r := x0) hX dX10_infer_0 rfl rfl ?_
  obtain ⟨v1, e2, h⟩ := obn_e h
  refine ow_get (r := x0) hX dX10_infer_1 oF_RX10_9 (ovi_e e2) ?_
  refine os_if_lt (tgt := 14) hX dX10_infer_4 (by decide) (fun c3 => ?_) (fun c3 => ?_)
  · rw [if_pos c3] at h
    refine os_aload_n (r := x1) hX dX10_infer_14 rfl rfl ?_
    obtain ⟨v4, e5, h⟩ := obn_e h
    refine ow_get (r := x1) hX dX10_infer_15 oF_RX10_106 (ovi_e e5) ?_
    by_cases c6 : v4 = 40
    · rw [if_pos c6] at h
      refine os_lookup (tgt := 319) (off := 301) hX dX10_infer_18 (by decide) (by rw [c6]; rfl) (by decide) ?_
      refine os_aload_n (r := x1) hX dX10_infer_319 rfl rfl ?_
      refine os_aload_n (r := x0) hX dX10_infer_320 rfl rfl ?_
      refine os_aload_n (r := x1) hX dX10_infer_321 rfl rfl ?_
      obtain ⟨v7, e8, h⟩ := obn_e h
      refine ow_get (r := x1) hX dX10_infer_322 oF_RX10_114 (ovr_e e8) ?_
      obtain ⟨a9, e10, h⟩ := obn_e h
      obtain ⟨r13, s11, e12, h⟩ := oin_e h
      refine oc_RX10_75 (rb := x0) (a1 := va_rf v7) hX dX10_infer_325 (by simp only [List.map_cons, List.map_nil, List.sum_cons, List.sum_nil, ocat]; exact Nat.le_of_ble_eq_true rfl) e10 (hc _ _ _ _ e12) ?_
      obtain ⟨s14, e15, h⟩ := obn_e h
      refine ow_put (r := x1) (x := .int r13) hX dX10_infer_328 oF_RX10_120 (by decide) (opn_I oT_7_8) e15 ?_
      refine os_goto (tgt := 351) hX dX10_infer_331 (by decide) ?_
      refine os_weak hX (lw := [none, some (va_rf x1)]) ⟨rfl, trivial⟩ ?_
      exact qj_X10_infer_351 hX hc h
    rw [if_neg c6] at h
    by_cases c16 : v4 = 201
    · rw [if_pos c16] at h
      refine os_lookup (tgt := 244) (off := 226) hX dX10_infer_18 (by decide) (by rw [c16]; rfl) (by decide) ?_
      refine os_aload_n (r := x0) hX dX10_infer_244 rfl rfl ?_
      refine os_aload_n (r := x1) hX dX10_infer_245 rfl rfl ?_
      obtain ⟨v17, e18, h⟩ := obn_e h
      refine ow_get (r := x1) hX dX10_infer_246 oF_RX10_131 (ovr_e e18) ?_
      obtain ⟨a19, e20, h⟩ := obn_e h
      obtain ⟨s21, e22, h⟩ := ocv_e h
      refine oc_RX10_134 (rb := x0) (a1 := va_rf v17) hX dX10_infer_249 (Nat.le_of_ble_eq_true rfl) e20 (hc _ _ _ _ e22) ?_
      refine os_aload_n (r := x1) hX dX10_infer_252 rfl rfl ?_
      refine os_aload_n (r := x0) hX dX10_infer_253 rfl rfl ?_
      refine os_aload_n (r := x1) hX dX10_infer_254 rfl rfl ?_
      obtain ⟨v24, e25, h⟩ := obn_e h
      refine ow_get (r := x1) hX dX10_infer_255 oF_RX10_114 (ovr_e e25) ?_
      obtain ⟨a26, e27, h⟩ := obn_e h
      obtain ⟨r30, s28, e29, h⟩ := oin_e h
      refine oc_RX10_75 (rb := x0) (a1 := va_rf v24) hX dX10_infer_258 (by simp only [List.map_cons, List.map_nil, List.sum_cons, List.sum_nil, ocat]; exact Nat.le_of_ble_eq_true rfl) e27 (hc _ _ _ _ e29) ?_
      obtain ⟨s31, e32, h⟩ := obn_e h
      refine ow_put (r := x1) (x := .int r30) hX dX10_infer_261 oF_RX10_120 (by decide) (opn_I oT_7_8) e32 ?_
      refine os_goto (tgt := 351) hX dX10_infer_264 (by decide) ?_
      refine os_weak hX (lw := [none, some (va_rf x1)]) ⟨rfl, trivial⟩ ?_
      exact qj_X10_infer_351 hX hc h
    rw [if_neg c16] at h
    by_cases c33 : v4 = 206
    · rw [if_pos c33] at h
      refine os_lookup (tgt := 138) (off := 120) hX dX10_infer_18 (by decide) (by rw [c33]; rfl) (by decide) ?_
      refine os_aload_n (r := x1) hX dX10_infer_138 rfl rfl ?_
      obtain ⟨v34, e35, h⟩ := obn_e h
      refine ow_get (r := x1) hX dX10_infer_139 oF_RX10_124 (ovr_e e35) ?_
      refine os_iconst (v := 0) hX dX10_infer_142 (by decide) ?_
      obtain ⟨a36, e37, h⟩ := obn_e h
      obtain ⟨r40, s38, e39, h⟩ := orn_e h
      refine oc_RX10_56 (rb := v34) (a1 := .int 0) hX dX10_infer_143 (Nat.le_of_ble_eq_true rfl) e37 (hc _ _ _ _ e39) ?_
      obtain ⟨b41, h⟩ := ogd_e h
      refine ow_cs (r := r40) hX dX10_infer_146 oK_RX10_60 b41 ?_
      refine os_aload_n (r := x0) hX dX10_infer_149 rfl rfl ?_
      refine os_iconst (v := 0) hX dX10_infer_150 (by decide) ?_
      obtain ⟨a42, e43, h⟩ := obn_e h
      obtain ⟨r46, s44, e45, h⟩ := oin_e h
      refine oc_RX10_37 (rb := x0) (a1 := .int 0) hX dX10_infer_151 (by simp only [List.map_cons, List.map_nil, List.sum_cons, List.sum_nil, ocat]; exact Nat.le_of_ble_eq_true rfl) e43 (hc _ _ _ _ e45) ?_
      obtain ⟨s47, e48, h⟩ := obn_e h
      refine ow_put (r := r40) (x := .int r46) hX dX10_infer_154 oF_RX10_68 (by decide) (opn_I oT_6_2) e48 ?_
      refine os_aload_n (r := x1) hX dX10_infer_157 rfl rfl ?_
      refine os_aload_n (r := x0) hX dX10_infer_158 rfl rfl ?_
      refine os_aload_n (r := x1) hX dX10_infer_159 rfl rfl ?_
      obtain ⟨v49, e50, h⟩ := obn_e h
      refine ow_get (r := x1) hX dX10_infer_160 oF_RX10_124 (ovr_e e50) ?_
      refine os_iconst (v := 0) hX dX10_infer_163 (by decide) ?_
      obtain ⟨a51, e52, h⟩ := obn_e h
      obtain ⟨r55, s53, e54, h⟩ := orn_e h
      refine oc_RX10_56 (rb := v49) (a1 := .int 0) hX dX10_infer_164 (by simp only [List.map_cons, List.map_nil, List.sum_cons, List.sum_nil, ocat]; exact Nat.le_of_ble_eq_true rfl) e52 (hc _ _ _ _ e54) ?_
      obtain ⟨b56, h⟩ := ogd_e h
      refine ow_cs (r := r55) hX dX10_infer_167 oK_RX10_60 b56 ?_
      obtain ⟨v57, e58, h⟩ := obn_e h
      refine ow_get (r := r55) hX dX10_infer_170 oF_RX10_68 (ovi_e e58) ?_
      refine os_aload_n (r := x0) hX dX10_infer_173 rfl rfl ?_
      refine os_aload_n (r := x1) hX dX10_infer_174 rfl rfl ?_
      obtain ⟨v59, e60, h⟩ := obn_e h
      refine ow_get (r := x1) hX dX10_infer_175 oF_RX10_114 (ovr_e e60) ?_
      obtain ⟨a61, e62, h⟩ := obn_e h
      obtain ⟨r65, s63, e64, h⟩ := oin_e h
      refine oc_RX10_75 (rb := x0) (a1 := va_rf v59) hX dX10_infer_178 (by simp only [List.map_cons, List.map_nil, List.sum_cons, List.sum_nil, ocat]; exact Nat.le_of_ble_eq_true rfl) e62 (hc _ _ _ _ e64) ?_
      obtain ⟨a66, e67, h⟩ := obn_e h
      obtain ⟨r70, s68, e69, h⟩ := oin_e h
      refine oc_RX10_127 (rb := x0) (a1 := .int v57) (a2 := .int r65) hX dX10_infer_181 (by simp only [List.map_cons, List.map_nil, List.sum_cons, List.sum_nil, ocat]; exact Nat.le_of_ble_eq_true rfl) e67 (hc _ _ _ _ e69) ?_
      obtain ⟨s71, e72, h⟩ := obn_e h
      refine ow_put (r := x1) (x := .int r70) hX dX10_infer_184 oF_RX10_120 (by decide) (opn_I oT_7_8) e72 ?_
      refine os_goto (tgt := 351) hX dX10_infer_187 (by decide) ?_
      refine os_weak hX (lw := [none, some (va_rf x1)]) ⟨rfl, trivial⟩ ?_
      exact qj_X10_infer_351 hX hc h
    rw [if_neg c33] at h
    by_cases c73 : v4 = 207
    · rw [if_pos c73] at h
      refine os_lookup (tgt := 190) (off := 172) hX dX10_infer_18 (by decide) (by rw [c73]; rfl) (by decide) ?_
      refine os_aload_n (r := x0) hX dX10_infer_190 rfl rfl ?_
      refine os_aload_n (r := x1) hX dX10_infer_191 rfl rfl ?_
      obtain ⟨v74, e75, h⟩ := obn_e h
      refine ow_get (r := x1) hX dX10_infer_192 oF_RX10_131 (ovr_e e75) ?_
      obtain ⟨a76, e77, h⟩ := obn_e h
      obtain ⟨s78, e79, h⟩ := ocv_e h
      refine oc_RX10_134 (rb := x0) (a1 := va_rf v74) hX dX10_infer_195 (Nat.le_of_ble_eq_true rfl) e77 (hc _ _ _ _ e79) ?_
      refine os_aload_n (r := x1) hX dX10_infer_198 rfl rfl ?_
      refine os_aload_n (r := x0) hX dX10_infer_199 rfl rfl ?_
      refine os_aload_n (r := x1) hX dX10_infer_200 rfl rfl ?_
      obtain ⟨v81, e82, h⟩ := obn_e h
      refine ow_get (r := x1) hX dX10_infer_201 oF_RX10_114 (ovr_e e82) ?_
      obtain ⟨a83, e84, h⟩ := obn_e h
      obtain ⟨r87, s85, e86, h⟩ := oin_e h
      refine oc_RX10_75 (rb := x0) (a1 := va_rf v81) hX dX10_infer_204 (by simp only [List.map_cons, List.map_nil, List.sum_cons, List.sum_nil, ocat]; exact Nat.le_of_ble_eq_true rfl) e84 (hc _ _ _ _ e86) ?_
      obtain ⟨s88, e89, h⟩ := obn_e h
      refine ow_put (r := x1) (x := .int r87) hX dX10_infer_207 oF_RX10_120 (by decide) (opn_I oT_7_8) e89 ?_
      refine os_aload_n (r := x0) hX dX10_infer_210 rfl rfl ?_
      refine os_aload_n (r := x0) hX dX10_infer_211 rfl rfl ?_
      refine os_aload_n (r := x1) hX dX10_infer_212 rfl rfl ?_
      obtain ⟨v90, e91, h⟩ := obn_e h
      refine ow_get (r := x1) hX dX10_infer_213 oF_RX10_117 (ovr_e e91) ?_
      obtain ⟨a92, e93, h⟩ := obn_e h
      obtain ⟨r96, s94, e95, h⟩ := oin_e h
      refine oc_RX10_75 (rb := x0) (a1 := va_rf v90) hX dX10_infer_216 (by simp only [List.map_cons, List.map_nil, List.sum_cons, List.sum_nil, ocat]; exact Nat.le_of_ble_eq_true rfl) e93 (hc _ _ _ _ e95) ?_
      refine os_aload_n (r := x1) hX dX10_infer_219 rfl rfl ?_
      obtain ⟨v97, e98, h⟩ := obn_e h
      refine ow_get (r := x1) hX dX10_infer_220 oF_RX10_120 (ovi_e e98) ?_
      refine os_aload_n (r := x1) hX dX10_infer_223 rfl rfl ?_
      obtain ⟨v99, e100, h⟩ := obn_e h
      refine ow_get (r := x1) hX dX10_infer_224 oF_RX10_117 (ovr_e e100) ?_
      obtain ⟨v101, e102, h⟩ := obn_e h
      refine ow_get (r := v99) hX dX10_infer_227 oF_RX10_137 (ovi_e e102) ?_
      obtain ⟨a103, e104, h⟩ := obn_e h
      obtain ⟨s105, e106, h⟩ := ocv_e h
      refine oc_RX10_140 (rb := x0) (a1 := .int r96) (a2 := .int v97) (a3 := .int v101) hX dX10_infer_230 (Nat.le_of_ble_eq_true rfl) e104 (hc _ _ _ _ e106) ?_
      refine os_goto (tgt := 351) hX dX10_infer_233 (by decide) ?_
      refine os_weak hX (lw := [none, some (va_rf x1)]) ⟨rfl, trivial⟩ ?_
      exact qj_X10_infer_351 hX hc h
    rw [if_neg c73] at h
    by_cases c108 : v4 = 212
    · rw [if_pos c108] at h
      refine os_lookup (tgt := 100) (off := 82) hX dX10_infer_18 (by decide) (by rw [c108]; rfl) (by decide) ?_
      refine os_aload_n (r := x1) hX dX10_infer_100 rfl rfl ?_
      obtain ⟨v109, e110, h⟩ := obn_e h
      refine ow_get (r := x1) hX dX10_infer_101 oF_RX10_111 (ovr_e e110) ?_
      refine os_aload_n (r := x0) hX dX10_infer_104 rfl rfl ?_
      refine os_aload_n (r := x1) hX dX10_infer_105 rfl rfl ?_
      obtain ⟨v111, e112, h⟩ := obn_e h
      refine ow_get (r := x1) hX dX10_infer_106 oF_RX10_114 (ovr_e e112) ?_
      obtain ⟨a113, e114, h⟩ := obn_e h
      obtain ⟨r117, s115, e116, h⟩ := oin_e h
      refine oc_RX10_75 (rb := x0) (a1 := va_rf v111) hX dX10_infer_109 (by simp only [List.map_cons, List.map_nil, List.sum_cons, List.sum_nil, ocat]; exact Nat.le_of_ble_eq_true rfl) e114 (hc _ _ _ _ e116) ?_
      obtain ⟨s118, e119, h⟩ := obn_e h
      refine ow_put (r := v109) (x := .int r117) hX dX10_infer_112 oF_RX10_68 (by decide) (opn_I oT_6_2) e119 ?_
      refine os_aload_n (r := x1) hX dX10_infer_115 rfl rfl ?_
      refine os_aload_n (r := x0) hX dX10_infer_116 rfl rfl ?_
      refine os_aload_n (r := x1) hX dX10_infer_117 rfl rfl ?_
      obtain ⟨v120, e121, h⟩ := obn_e h
      refine ow_get (r := x1) hX dX10_infer_118 oF_RX10_117 (ovr_e e121) ?_
      obtain ⟨a122, e123, h⟩ := obn_e h
      obtain ⟨r126, s124, e125, h⟩ := oin_e h
      refine oc_RX10_75 (rb := x0) (a1 := va_rf v120) hX dX10_infer_121 (by simp only [List.map_cons, List.map_nil, List.sum_cons, List.sum_nil, ocat]; exact Nat.le_of_ble_eq_true rfl) e123 (hc _ _ _ _ e125) ?_
      obtain ⟨s127, e128, h⟩ := obn_e h
      refine ow_put (r := x1) (x := .int r126) hX dX10_infer_124 oF_RX10_120 (by decide) (opn_I oT_7_8) e128 ?_
      refine os_goto (tgt := 351) hX dX10_infer_127 (by decide) ?_
      refine os_weak hX (lw := [none, some (va_rf x1)]) ⟨rfl, trivial⟩ ?_
      exact qj_X10_infer_351 hX hc h
    rw [if_neg c108] at h
    by_cases c129 : v4 = 214
    · rw [if_pos c129] at h
      refine os_lookup (tgt := 236) (off := 218) hX dX10_infer_18 (by decide) (by rw [c129]; rfl) (by decide) ?_
      refine os_aload_n (r := x0) hX dX10_infer_236 rfl rfl ?_
      refine os_aload_n (r := x1) hX dX10_infer_237 rfl rfl ?_
      obtain ⟨a130, e131, h⟩ := obn_e h
      obtain ⟨s132, e133, h⟩ := ocv_e h
      refine oc_RX10_144 (rb := x0) (a1 := va_rf x1) hX dX10_infer_238 (Nat.le_of_ble_eq_true rfl) e131 (hc _ _ _ _ e133) ?_
      refine os_goto (tgt := 351) hX dX10_infer_241 (by decide) ?_
      refine os_weak hX (lw := [none, some (va_rf x1)]) ⟨rfl, trivial⟩ ?_
      exact qj_X10_infer_351 hX hc h
    rw [if_neg c129] at h
    by_cases c135 : v4 = 219
    · rw [if_pos c135] at h
      refine os_lookup (tgt := 130) (off := 112) hX dX10_infer_18 (by decide) (by rw [c135]; rfl) (by decide) ?_
      refine os_aload_n (r := x0) hX dX10_infer_130 rfl rfl ?_
      refine os_aload_n (r := x1) hX dX10_infer_131 rfl rfl ?_
      obtain ⟨a136, e137, h⟩ := obn_e h
      obtain ⟨s138, e139, h⟩ := ocv_e h
      refine oc_RX10_121 (rb := x0) (a1 := va_rf x1) hX dX10_infer_132 (Nat.le_of_ble_eq_true rfl) e137 (hc _ _ _ _ e139) ?_
      refine os_goto (tgt := 351) hX dX10_infer_135 (by decide) ?_
      refine os_weak hX (lw := [none, some (va_rf x1)]) ⟨rfl, trivial⟩ ?_
      exact qj_X10_infer_351 hX hc h
    rw [if_neg c135] at h
    by_cases c141 : v4 = 220
    · rw [if_pos c141] at h
      refine os_lookup (tgt := 267) (off := 249) hX dX10_infer_18 (by decide) (by rw [c141]; rfl) (by decide) ?_
      refine os_aload_n (r := x0) hX dX10_infer_267 rfl rfl ?_
      refine os_aload_n (r := x1) hX dX10_infer_268 rfl rfl ?_
      obtain ⟨v142, e143, h⟩ := obn_e h
      refine ow_get (r := x1) hX dX10_infer_269 oF_RX10_147 (ovr_e e143) ?_
      obtain ⟨v144, e145, h⟩ := obn_e h
      refine ow_get (r := v142) hX dX10_infer_272 oF_RX10_68 (ovi_e e145) ?_
      refine os_sipush (v := 200) hX dX10_infer_275 (by decide) ?_
      obtain ⟨r148, s146, e147, h⟩ := oin_e h
      refine oc_RX10_65 (a1 := .int 200) hX dX10_infer_278 (by simp only [List.map_cons, List.map_nil, List.sum_cons, List.sum_nil, ocat]; exact Nat.le_of_ble_eq_true rfl) (hc _ _ _ _ e147) ?_
      refine os_aload_n (r := x1) hX dX10_infer_281 rfl rfl ?_
      obtain ⟨v149, e150, h⟩ := obn_e h
      refine ow_get (r := x1) hX dX10_infer_282 oF_RX10_150 (ovi_e e150) ?_
      obtain ⟨a151, e152, h⟩ := obn_e h
      obtain ⟨s153, e154, h⟩ := ocv_e h
      refine oc_RX10_140 (rb := x0) (a1 := .int v144) (a2 := .int r148) (a3 := .int v149) hX dX10_infer_285 (Nat.le_of_ble_eq_true rfl) e152 (hc _ _ _ _ e154) ?_
      refine os_aload_n (r := x0) hX dX10_infer_288 rfl rfl ?_
      refine os_aload_n (r := x1) hX dX10_infer_289 rfl rfl ?_
      obtain ⟨v156, e157, h⟩ := obn_e h
      refine ow_get (r := x1) hX dX10_infer_290 oF_RX10_153 (ovr_e e157) ?_
      obtain ⟨a158, e159, h⟩ := obn_e h
      obtain ⟨s160, e161, h⟩ := ocv_e h
      refine oc_RX10_156 (rb := x0) (a1 := va_rf v156) hX dX10_infer_293 (Nat.le_of_ble_eq_true rfl) e159 (hc _ _ _ _ e161) ?_
      refine os_aload_n (r := x0) hX dX10_infer_296 rfl rfl ?_
      refine os_aload_n (r := x1) hX dX10_infer_297 rfl rfl ?_
      obtain ⟨v163, e164, h⟩ := obn_e h
      refine ow_get (r := x1) hX dX10_infer_298 oF_RX10_159 (ovr_e e164) ?_
      obtain ⟨a165, e166, h⟩ := obn_e h
      obtain ⟨s167, e168, h⟩ := ocv_e h
      refine oc_RX10_156 (rb := x0) (a1 := va_rf v163) hX dX10_infer_301 (Nat.le_of_ble_eq_true rfl) e166 (hc _ _ _ _ e168) ?_
      refine os_aload_n (r := x1) hX dX10_infer_304 rfl rfl ?_
      refine os_aload_n (r := x0) hX dX10_infer_305 rfl rfl ?_
      refine os_aload_n (r := x1) hX dX10_infer_306 rfl rfl ?_
      obtain ⟨v170, e171, h⟩ := obn_e h
      refine ow_get (r := x1) hX dX10_infer_307 oF_RX10_114 (ovr_e e171) ?_
      obtain ⟨a172, e173, h⟩ := obn_e h
      obtain ⟨r176, s174, e175, h⟩ := oin_e h
      refine oc_RX10_75 (rb := x0) (a1 := va_rf v170) hX dX10_infer_310 (by simp only [List.map_cons, List.map_nil, List.sum_cons, List.sum_nil, ocat]; exact Nat.le_of_ble_eq_true rfl) e173 (hc _ _ _ _ e175) ?_
      obtain ⟨s177, e178, h⟩ := obn_e h
      refine ow_put (r := x1) (x := .int r176) hX dX10_infer_313 oF_RX10_120 (by decide) (opn_I oT_7_8) e178 ?_
      refine os_goto (tgt := 351) hX dX10_infer_316 (by decide) ?_
      refine os_weak hX (lw := [none, some (va_rf x1)]) ⟨rfl, trivial⟩ ?_
      exact qj_X10_infer_351 hX hc h
    rw [if_neg c141] at h
    by_cases c179 : v4 = 401
    · rw [if_pos c179] at h
      refine os_lookup (tgt := 334) (off := 316) hX dX10_infer_18 (by decide) (by rw [c179]; rfl) (by decide) ?_
      refine os_aload_n (r := x0) hX dX10_infer_334 rfl rfl ?_
      refine os_aload_n (r := x1) hX dX10_infer_335 rfl rfl ?_
      obtain ⟨a180, e181, h⟩ := obn_e h
      obtain ⟨s182, e183, h⟩ := ocv_e h
      refine oc_RX10_162 (rb := x0) (a1 := va_rf x1) hX dX10_infer_336 (Nat.le_of_ble_eq_true rfl) e181 (hc _ _ _ _ e183) ?_
      refine os_goto (tgt := 351) hX dX10_infer_339 (by decide) ?_
      refine os_weak hX (lw := [none, some (va_rf x1)]) ⟨rfl, trivial⟩ ?_
      exact qj_X10_infer_351 hX hc h
    rw [if_neg c179] at h
    refine os_lookup (tgt := 342) (off := 324) hX dX10_infer_18 (by decide) (olk_X10_infer_18 c6 c16 c33 c73 c108 c129 c135 c141 c179) (by decide) ?_
    refine os_aload_n (r := x1) hX dX10_infer_342 rfl rfl ?_
    refine os_aload_n (r := x0) hX dX10_infer_343 rfl rfl ?_
    refine os_aload_n (r := x1) hX dX10_infer_344 rfl rfl ?_
    obtain ⟨a185, e186, h⟩ := obn_e h
    obtain ⟨r189, s187, e188, h⟩ := oin_e h
    refine oc_RX10_165 (rb := x0) (a1 := va_rf x1) hX dX10_infer_345 (by simp only [List.map_cons, List.map_nil, List.sum_cons, List.sum_nil, ocat]; exact Nat.le_of_ble_eq_true rfl) e186 (hc _ _ _ _ e188) ?_
    obtain ⟨s190, e191, h⟩ := obn_e h
    refine ow_put (r := x1) (x := .int r189) hX dX10_infer_348 oF_RX10_120 (by decide) (opn_I oT_7_8) e191 ?_
    refine os_weak hX (lw := [none, some (va_rf x1)]) ⟨rfl, trivial⟩ ?_
    exact qj_X10_infer_351 hX hc h
  · rw [if_neg c3] at h
    refine os_sipush (v := 210) hX dX10_infer_7 (by decide) ?_
    obtain ⟨r194, s192, e193, h⟩ := oin_e h
    refine oc_RX10_65 (a1 := .int 210) hX dX10_infer_10 (Nat.le_of_ble_eq_true rfl) (hc _ _ _ _ e193) ?_
    exact os_iret hX dX10_infer_13 rfl (Option.some.inj h)
def ol_X10_inferCall_120 (n : Nat) (call : oCl) (κ : oKv) : Nat → Option Nat → Option Nat → Int32 → Int32 → oSt → oRs
  | 0, _, _, _, _, _ => none
  | f + 1, x0, x1, x2, x3, σ =>
    obn (ovr (ofd σ x1 7 18)) fun v1 =>
    obn (oob σ v1 1) fun a3 =>
    oin (call 236 [va_rf v1] σ) fun r7 s5 =>
    if r7 ≤ x3 then
      obn (opf s5 x1 7 8 (.int x2)) fun s9 =>
      some (none, s9)
    else
      obn (ovr (ofd s5 x1 7 18)) fun v11 =>
      obn (oob s5 v11 1) fun a13 =>
      orn (call 234 [va_rf v11, .int x3] s5) fun r17 s15 =>
      ogd (ocs s15 r17 7) (
      obn (ovi (ofd s15 r17 7 8)) fun v19 =>
      obn (oob s15 x0 12) fun a21 =>
      oin (call 156 [va_rf x0, va_rf r17] s15) fun r25 s23 =>
      obn (ovi (ofd s23 r17 7 3)) fun v26 =>
      obn (oob s23 x0 12) fun a28 =>
      ocv (call 152 [va_rf x0, .int r25, .int v19, .int v26] s23) fun s30 =>
      ol_X10_inferCall_120 n call κ f x0 x1 x2 (x3 + 1) s30)
def oj_X10_inferCall_60 (n : Nat) (call : oCl) (κ : oKv) (k14 : Option Nat → Option Nat → Int32 → Int32 → oSt → oRs) (x0 : Option Nat) (x1 : Option Nat) (x2 : Int32) (x3 : Int32) (σ : oSt) : oRs :=
  obn (ovr (ofd σ x0 12 0)) fun v1 =>
  obn (oai σ v1 .int x2) fun v3 =>
  if v3 = 206 then
    obn (ovr (ofd σ x1 7 18)) fun v6 =>
    obn (oob σ v6 1) fun a8 =>
    orn (call 234 [va_rf v6, .int x3] σ) fun r12 s10 =>
    ogd (ocs s10 r12 7) (
    obn (ovr (ofd s10 x0 12 1)) fun v14 =>
    obn (oai s10 v14 .int x2) fun v16 =>
    obn (opf s10 r12 7 8 (.int v16)) fun s18 =>
    obn (ovr (ofd s18 x0 12 2)) fun v20 =>
    obn (oai s18 v20 .int x2) fun v22 =>
    obn (oob s18 x0 12) fun a24 =>
    oin (call 21 [va_rf x0, .int v22] s18) fun r28 s26 =>
    k14 x0 x1 r28 (x3 + 1) s26)
  else
    obn (ovi (ofd σ x1 7 4)) fun v29 =>
    obn (opf σ x0 12 8 (.int v29)) fun s31 =>
    some (none, s31)
def ol_X10_inferCall_14 (n : Nat) (call : oCl) (κ : oKv) : Nat → Option Nat → Option Nat → Int32 → Int32 → oSt → oRs
  | 0, _, _, _, _, _ => none
  | f + 1, x0, x1, x2, x3, σ =>
    obn (ovr (ofd σ x1 7 18)) fun v1 =>
    obn (oob σ v1 1) fun a3 =>
    oin (call 236 [va_rf v1] σ) fun r7 s5 =>
    if r7 ≤ x3 then
      ol_X10_inferCall_120 n call κ n x0 x1 x2 0 s5
    else
      obn (ovr (ofd s5 x0 12 0)) fun v9 =>
      obn (oai s5 v9 .int x2) fun v11 =>
      if v11 = 0 then
        obn (ovr (ofd s5 x0 12 3)) fun v14 =>
        obn (oob s5 x0 12) fun a16 =>
        oin (call 146 [va_rf x0, .int 0] s5) fun r20 s18 =>
        obn (oob s18 x0 12) fun a21 =>
        oin (call 146 [va_rf x0, .int 0] s18) fun r25 s23 =>
        obn (oob s23 x0 12) fun a26 =>
        oin (call 149 [va_rf x0, .int r20, .int r25] s23) fun r30 s28 =>
        obn (osi s28 v14 .int x2 r30) fun s31 =>
        obn (oob s31 x0 12) fun a33 =>
        oin (call 21 [va_rf x0, .int x2] s31) fun r37 s35 =>
        oj_X10_inferCall_60 n call κ (ol_X10_inferCall_14 n call κ f) x0 x1 r37 x3 s35
      else
        oj_X10_inferCall_60 n call κ (ol_X10_inferCall_14 n call κ f) x0 x1 x2 x3 s5
def ob_X10_inferCall (n : Nat) (call : oCl) (κ : oKv) (x0 : Option Nat) (x1 : Option Nat) (σ : oSt) : oRs :=
  obn (ovr (ofd σ x1 7 9)) fun v1 =>
  obn (ovi (ofd σ v1 6 2)) fun v3 =>
  obn (oob σ x0 12) fun a5 =>
  oin (call 21 [va_rf x0, .int v3] σ) fun r9 s7 =>
  ol_X10_inferCall_14 n call κ n x0 x1 r9 0 s7
set_option maxHeartbeats 4000000 in
theorem ql_X10_inferCall_120 {κ : oKv} {n : Nat} {call : oCl} {kc : Nat → List Value → oSt → Option Value × oSt → Prop} {v : Option Value × oSt} {X : Nat → zLv → List Value → oSt → Prop} (hX : oSem RX10 cX10_inferCall 6 0 none κ kc v X) (hc : ∀ j av s w, call j av s = some w → kc j av s w) : ∀ (f : Nat) (x0 : Option Nat) (x1 : Option Nat) (x2 : Int32) (x3 : Int32) (σ : oSt), ol_X10_inferCall_120 n call κ f x0 x1 x2 x3 σ = some v → X 120 [some (va_rf x0), some (va_rf x1), some (.int x2), some (.int x3), none, none] [] σ := by
  intro f
  induction f with
  | zero => intro x0 x1 x2 x3 σ h; cases h
  | succ f hk120 =>
    intro x0 x1 x2 x3 σ h
    rw [ol_X10_inferCall_120] at h
    refine os_iload_n hX dX10_inferCall_120 rfl rfl ?_
    refine os_aload_n (r := x1) hX dX10_inferCall_121 rfl rfl ?_
    obtain ⟨v1, e2, h⟩ := obn_e h
    refine ow_get (r := x1) hX dX10_inferCall_122 oF_RX10_171 (ovr_e e2) ?_
    obtain ⟨a3, e4, h⟩ := obn_e h
    obtain ⟨r7, s5, e6, h⟩ := oin_e h
    refine oc_RX10_50 (rb := v1)  hX dX10_inferCall_125 (Nat.le_of_ble_eq_true rfl) e4 (hc _ _ _ _ e6) ?_
    refine os_icmp_ge (tgt := 174) hX dX10_inferCall_128 (by decide) (fun c8 => ?_) (fun c8 => ?_)
    · rw [if_pos c8] at h
      refine os_aload_n (r := x1) hX dX10_inferCall_174 rfl rfl ?_
      refine os_iload_n hX dX10_inferCall_175 rfl rfl ?_
      obtain ⟨s9, e10, h⟩ := obn_e h
      refine ow_put (r := x1) (x := .int x2) hX dX10_inferCall_176 oF_RX10_120 (by decide) (opn_I oT_7_8) e10 ?_
      exact os_vret hX dX10_inferCall_179 rfl (Option.some.inj h)
    · rw [if_neg c8] at h
      refine os_aload_n (r := x1) hX dX10_inferCall_131 rfl rfl ?_
      obtain ⟨v11, e12, h⟩ := obn_e h
      refine ow_get (r := x1) hX dX10_inferCall_132 oF_RX10_171 (ovr_e e12) ?_
      refine os_iload_n hX dX10_inferCall_135 rfl rfl ?_
      obtain ⟨a13, e14, h⟩ := obn_e h
      obtain ⟨r17, s15, e16, h⟩ := orn_e h
      refine oc_RX10_56 (rb := v11) (a1 := .int x3) hX dX10_inferCall_136 (Nat.le_of_ble_eq_true rfl) e14 (hc _ _ _ _ e16) ?_
      obtain ⟨b18, h⟩ := ogd_e h
      refine ow_cs (r := r17) hX dX10_inferCall_139 oK_RX10_107 b18 ?_
      refine os_astore (r := r17) hX dX10_inferCall_142 (by decide) rfl ?_
      dsimp only [List.set]
      refine os_aload (r := r17) hX dX10_inferCall_144 rfl ?_
      obtain ⟨v19, e20, h⟩ := obn_e h
      refine ow_get (r := r17) hX dX10_inferCall_146 oF_RX10_120 (ovi_e e20) ?_
      refine os_istore hX dX10_inferCall_149 (by decide) (ozlo (i := 4) (r := r17) rfl) ?_
      dsimp only [List.set]
      refine os_aload_n (r := x0) hX dX10_inferCall_151 rfl rfl ?_
      refine os_aload_n (r := x0) hX dX10_inferCall_152 rfl rfl ?_
      refine os_aload (r := r17) hX dX10_inferCall_153 rfl ?_
      obtain ⟨a21, e22, h⟩ := obn_e h
      obtain ⟨r25, s23, e24, h⟩ := oin_e h
      refine oc_RX10_75 (rb := x0) (a1 := va_rf r17) hX dX10_inferCall_155 (by simp only [List.map_cons, List.map_nil, List.sum_cons, List.sum_nil, ocat]; exact Nat.le_of_ble_eq_true rfl) e22 (hc _ _ _ _ e24) ?_
      refine os_iload hX dX10_inferCall_158 rfl ?_
      refine os_aload (r := r17) hX dX10_inferCall_160 rfl ?_
      obtain ⟨v26, e27, h⟩ := obn_e h
      refine ow_get (r := r17) hX dX10_inferCall_162 oF_RX10_174 (ovi_e e27) ?_
      obtain ⟨a28, e29, h⟩ := obn_e h
      obtain ⟨s30, e31, h⟩ := ocv_e h
      refine oc_RX10_140 (rb := x0) (a1 := .int r25) (a2 := .int v19) (a3 := .int v26) hX dX10_inferCall_165 (Nat.le_of_ble_eq_true rfl) e29 (hc _ _ _ _ e31) ?_
      refine os_iinc (v := x3 + 1) hX dX10_inferCall_168 rfl rfl (by decide) rfl ?_
      dsimp only [List.set]
      refine os_goto (tgt := 120) hX dX10_inferCall_171 (by decide) ?_
      refine os_weak hX (lw := [some (va_rf x0), some (va_rf x1), some (.int x2), some (.int (x3 + 1)), none, none]) ⟨rfl, rfl, rfl, rfl, trivial⟩ ?_
      exact hk120 _ _ _ _ _ h
set_option maxHeartbeats 4000000 in
theorem qj_X10_inferCall_60 {κ : oKv} {n : Nat} {call : oCl} {kc : Nat → List Value → oSt → Option Value × oSt → Prop} {v : Option Value × oSt} {X : Nat → zLv → List Value → oSt → Prop} (hX : oSem RX10 cX10_inferCall 6 0 none κ kc v X) (hc : ∀ j av s w, call j av s = some w → kc j av s w) {k14 : Option Nat → Option Nat → Int32 → Int32 → oSt → oRs} (hk14 : ∀ (x0 : Option Nat) (x1 : Option Nat) (x2 : Int32) (x3 : Int32) (s : oSt), k14 x0 x1 x2 x3 s = some v → X 14 [some (va_rf x0), some (va_rf x1), some (.int x2), some (.int x3), none, none] [] s) {x0 : Option Nat} {x1 : Option Nat} {x2 : Int32} {x3 : Int32} {σ : oSt} (h : oj_X10_inferCall_60 n call κ k14 x0 x1 x2 x3 σ = some v) : X 60 [some (va_rf x0), some (va_rf x1), some (.int x2), some (.int x3), none, none] [] σ := by
  rw [oj_X10_inferCall_60] at h
  refine os_aload_n (r := x0) hX dX10_inferCall_60 rfl rfl ?_
  obtain ⟨v1, e2, h⟩ := obn_e h
  refine ow_get (r := x0) hX dX10_inferCall_61 oF_RX10_18 (ovr_e e2) ?_
  refine os_iload_n hX dX10_inferCall_64 rfl rfl ?_
  obtain ⟨v3, e4, h⟩ := obn_e h
  refine ow_ai (r := v1) (i := x2) hX dX10_inferCall_65 e4 ?_
  refine os_sipush (v := 206) hX dX10_inferCall_66 (by decide) ?_
  refine os_icmp_eq (tgt := 81) hX dX10_inferCall_69 (by decide) (fun c5 => ?_) (fun c5 => ?_)
  · rw [if_pos c5] at h
    refine os_aload_n (r := x1) hX dX10_inferCall_81 rfl rfl ?_
    obtain ⟨v6, e7, h⟩ := obn_e h
    refine ow_get (r := x1) hX dX10_inferCall_82 oF_RX10_171 (ovr_e e7) ?_
    refine os_iload_n hX dX10_inferCall_85 rfl rfl ?_
    obtain ⟨a8, e9, h⟩ := obn_e h
    obtain ⟨r12, s10, e11, h⟩ := orn_e h
    refine oc_RX10_56 (rb := v6) (a1 := .int x3) hX dX10_inferCall_86 (Nat.le_of_ble_eq_true rfl) e9 (hc _ _ _ _ e11) ?_
    obtain ⟨b13, h⟩ := ogd_e h
    refine ow_cs (r := r12) hX dX10_inferCall_89 oK_RX10_107 b13 ?_
    refine os_aload_n (r := x0) hX dX10_inferCall_92 rfl rfl ?_
    obtain ⟨v14, e15, h⟩ := obn_e h
    refine ow_get (r := x0) hX dX10_inferCall_93 oF_RX10_22 (ovr_e e15) ?_
    refine os_iload_n hX dX10_inferCall_96 rfl rfl ?_
    obtain ⟨v16, e17, h⟩ := obn_e h
    refine ow_ai (r := v14) (i := x2) hX dX10_inferCall_97 e17 ?_
    obtain ⟨s18, e19, h⟩ := obn_e h
    refine ow_put (r := r12) (x := .int v16) hX dX10_inferCall_98 oF_RX10_120 (by decide) (opn_I oT_7_8) e19 ?_
    refine os_aload_n (r := x0) hX dX10_inferCall_101 rfl rfl ?_
    refine os_aload_n (r := x0) hX dX10_inferCall_102 rfl rfl ?_
    obtain ⟨v20, e21, h⟩ := obn_e h
    refine ow_get (r := x0) hX dX10_inferCall_103 oF_RX10_25 (ovr_e e21) ?_
    refine os_iload_n hX dX10_inferCall_106 rfl rfl ?_
    obtain ⟨v22, e23, h⟩ := obn_e h
    refine ow_ai (r := v20) (i := x2) hX dX10_inferCall_107 e23 ?_
    obtain ⟨a24, e25, h⟩ := obn_e h
    obtain ⟨r28, s26, e27, h⟩ := oin_e h
    refine oc_RX10_89 (rb := x0) (a1 := .int v22) hX dX10_inferCall_108 (Nat.le_of_ble_eq_true rfl) e25 (hc _ _ _ _ e27) ?_
    refine os_istore_n hX dX10_inferCall_111 rfl (by decide) (ozlo (i := 1) (r := x1) rfl) ?_
    dsimp only [List.set]
    refine os_iinc (v := x3 + 1) hX dX10_inferCall_112 rfl rfl (by decide) rfl ?_
    dsimp only [List.set]
    refine os_goto (tgt := 14) hX dX10_inferCall_115 (by decide) ?_
    exact hk14 _ _ _ _ _ h
  · rw [if_neg c5] at h
    refine os_aload_n (r := x0) hX dX10_inferCall_72 rfl rfl ?_
    refine os_aload_n (r := x1) hX dX10_inferCall_73 rfl rfl ?_
    obtain ⟨v29, e30, h⟩ := obn_e h
    refine ow_get (r := x1) hX dX10_inferCall_74 oF_RX10_150 (ovi_e e30) ?_
    obtain ⟨s31, e32, h⟩ := obn_e h
    refine ow_put (r := x0) (x := .int v29) hX dX10_inferCall_77 oF_RX10_9 (by decide) (opn_I oT_12_8) e32 ?_
    exact os_vret hX dX10_inferCall_80 rfl (Option.some.inj h)
set_option maxHeartbeats 4000000 in
theorem ql_X10_inferCall_14 {κ : oKv} {n : Nat} {call : oCl} {kc : Nat → List Value → oSt → Option Value × oSt → Prop} {v : Option Value × oSt} {X : Nat → zLv → List Value → oSt → Prop} (hX : oSem RX10 cX10_inferCall 6 0 none κ kc v X) (hc : ∀ j av s w, call j av s = some w → kc j av s w) : ∀ (f : Nat) (x0 : Option Nat) (x1 : Option Nat) (x2 : Int32) (x3 : Int32) (σ : oSt), ol_X10_inferCall_14 n call κ f x0 x1 x2 x3 σ = some v → X 14 [some (va_rf x0), some (va_rf x1), some (.int x2), some (.int x3), none, none] [] σ := by
  intro f
  induction f with
  | zero => intro x0 x1 x2 x3 σ h; cases h
  | succ f hk14 =>
    intro x0 x1 x2 x3 σ h
    rw [ol_X10_inferCall_14] at h
    refine os_iload_n hX dX10_inferCall_14 rfl rfl ?_
    refine os_aload_n (r := x1) hX dX10_inferCall_15 rfl rfl ?_
    obtain ⟨v1, e2, h⟩ := obn_e h
    refine ow_get (r := x1) hX dX10_inferCall_16 oF_RX10_171 (ovr_e e2) ?_
    obtain ⟨a3, e4, h⟩ := obn_e h
    obtain ⟨r7, s5, e6, h⟩ := oin_e h
    refine oc_RX10_50 (rb := v1)  hX dX10_inferCall_19 (Nat.le_of_ble_eq_true rfl) e4 (hc _ _ _ _ e6) ?_
    refine os_icmp_ge (tgt := 118) hX dX10_inferCall_22 (by decide) (fun c8 => ?_) (fun c8 => ?_)
    · rw [if_pos c8] at h
      refine os_iconst (v := 0) hX dX10_inferCall_118 (by decide) ?_
      refine os_istore_n hX dX10_inferCall_119 rfl (by decide) rfl ?_
      dsimp only [List.set]
      exact ql_X10_inferCall_120 hX hc n _ _ _ _ _ h
    · rw [if_neg c8] at h
      refine os_aload_n (r := x0) hX dX10_inferCall_25 rfl rfl ?_
      obtain ⟨v9, e10, h⟩ := obn_e h
      refine ow_get (r := x0) hX dX10_inferCall_26 oF_RX10_18 (ovr_e e10) ?_
      refine os_iload_n hX dX10_inferCall_29 rfl rfl ?_
      obtain ⟨v11, e12, h⟩ := obn_e h
      refine ow_ai (r := v9) (i := x2) hX dX10_inferCall_30 e12 ?_
      refine os_if_ne (tgt := 60) hX dX10_inferCall_31 (by decide) (fun c13 => ?_) (fun c13 => ?_)
      · rw [if_neg c13] at h
        exact qj_X10_inferCall_60 hX hc hk14 h
      · rw [if_pos c13] at h
        refine os_aload_n (r := x0) hX dX10_inferCall_34 rfl rfl ?_
        obtain ⟨v14, e15, h⟩ := obn_e h
        refine ow_get (r := x0) hX dX10_inferCall_35 oF_RX10_28 (ovr_e e15) ?_
        refine os_iload_n hX dX10_inferCall_38 rfl rfl ?_
        refine os_aload_n (r := x0) hX dX10_inferCall_39 rfl rfl ?_
        refine os_aload_n (r := x0) hX dX10_inferCall_40 rfl rfl ?_
        refine os_iconst (v := 0) hX dX10_inferCall_41 (by decide) ?_
        obtain ⟨a16, e17, h⟩ := obn_e h
        obtain ⟨r20, s18, e19, h⟩ := oin_e h
        refine oc_RX10_37 (rb := x0) (a1 := .int 0) hX dX10_inferCall_42 (by simp only [List.map_cons, List.map_nil, List.sum_cons, List.sum_nil, ocat]; exact Nat.le_of_ble_eq_true rfl) e17 (hc _ _ _ _ e19) ?_
        refine os_aload_n (r := x0) hX dX10_inferCall_45 rfl rfl ?_
        refine os_iconst (v := 0) hX dX10_inferCall_46 (by decide) ?_
        obtain ⟨a21, e22, h⟩ := obn_e h
        obtain ⟨r25, s23, e24, h⟩ := oin_e h
        refine oc_RX10_37 (rb := x0) (a1 := .int 0) hX dX10_inferCall_47 (by simp only [List.map_cons, List.map_nil, List.sum_cons, List.sum_nil, ocat]; exact Nat.le_of_ble_eq_true rfl) e22 (hc _ _ _ _ e24) ?_
        obtain ⟨a26, e27, h⟩ := obn_e h
        obtain ⟨r30, s28, e29, h⟩ := oin_e h
        refine oc_RX10_127 (rb := x0) (a1 := .int r20) (a2 := .int r25) hX dX10_inferCall_50 (by simp only [List.map_cons, List.map_nil, List.sum_cons, List.sum_nil, ocat]; exact Nat.le_of_ble_eq_true rfl) e27 (hc _ _ _ _ e29) ?_
        obtain ⟨s31, e32, h⟩ := obn_e h
        refine ow_si (r := v14) (i := x2) (x := r30) hX dX10_inferCall_53 e32 ?_
        refine os_aload_n (r := x0) hX dX10_inferCall_54 rfl rfl ?_
        refine os_iload_n hX dX10_inferCall_55 rfl rfl ?_
        obtain ⟨a33, e34, h⟩ := obn_e h
        obtain ⟨r37, s35, e36, h⟩ := oin_e h
        refine oc_RX10_89 (rb := x0) (a1 := .int x2) hX dX10_inferCall_56 (Nat.le_of_ble_eq_true rfl) e34 (hc _ _ _ _ e36) ?_
        refine os_istore_n hX dX10_inferCall_59 rfl (by decide) (ozlo (i := 1) (r := x1) rfl) ?_
        dsimp only [List.set]
        exact qj_X10_inferCall_60 hX hc hk14 h
set_option maxHeartbeats 4000000 in
theorem qb_X10_inferCall {κ : oKv} {n : Nat} {call : oCl} {kc : Nat → List Value → oSt → Option Value × oSt → Prop} {v : Option Value × oSt} {X : Nat → zLv → List Value → oSt → Prop} (hX : oSem RX10 cX10_inferCall 6 0 none κ kc v X) (hc : ∀ j av s w, call j av s = some w → kc j av s w) {x0 : Option Nat} {x1 : Option Nat} {σ : oSt} (h : ob_X10_inferCall n call κ x0 x1 σ = some v) : X 0 [some (va_rf x0), some (va_rf x1), none, none, none, none] [] σ := by
  rw [ob_X10_inferCall] at h
  refine os_aload_n (r := x0) hX dX10_inferCall_0 rfl rfl ?_
  refine os_aload_n (r := x1) hX dX10_inferCall_1 rfl rfl ?_
  obtain ⟨v1, e2, h⟩ := obn_e h
  refine ow_get (r := x1) hX dX10_inferCall_2 oF_RX10_147 (ovr_e e2) ?_
  obtain ⟨v3, e4, h⟩ := obn_e h
  refine ow_get (r := v1) hX dX10_inferCall_5 oF_RX10_68 (ovi_e e4) ?_
  obtain ⟨a5, e6, h⟩ := obn_e h
  obtain ⟨r9, s7, e8, h⟩ := oin_e h
  refine oc_RX10_89 (rb := x0) (a1 := .int v3) hX dX10_inferCall_8 (Nat.le_of_ble_eq_true rfl) e6 (hc _ _ _ _ e8) ?_
  refine os_istore_n hX dX10_inferCall_11 rfl (by decide) (ozlo (i := 1) (r := x1) rfl) ?_
  dsimp only [List.set]
  refine os_iconst (v := 0) hX dX10_inferCall_12 (by decide) ?_
  refine os_istore_n hX dX10_inferCall_13 rfl (by decide) rfl ?_
  dsimp only [List.set]
  exact ql_X10_inferCall_14 hX hc n _ _ _ _ _ h
def ob_X10_inferMatch (n : Nat) (call : oCl) (κ : oKv) (x0 : Option Nat) (x1 : Option Nat) (σ : oSt) : oRs :=
  obn (ovr (ofd σ x1 7 9)) fun v1 =>
  obn (ovi (ofd σ v1 6 2)) fun v3 =>
  oin (call 148 [.int 213] σ) fun r7 s5 =>
  obn (ovi (ofd s5 x1 7 4)) fun v8 =>
  obn (oob s5 x0 12) fun a10 =>
  ocv (call 152 [va_rf x0, .int v3, .int r7, .int v8] s5) fun s12 =>
  obn (ovr (ofd s12 x1 7 12)) fun v15 =>
  obn (oob s12 x0 12) fun a17 =>
  oin (call 156 [va_rf x0, va_rf v15] s12) fun r21 s19 =>
  obn (opf s19 x1 7 8 (.int r21)) fun s22 =>
  obn (ovr (ofd s22 x1 7 11)) fun v24 =>
  obn (oob s22 v24 1) fun a26 =>
  orn (call 234 [va_rf v24, .int 0] s22) fun r30 s28 =>
  ogd (ocs s28 r30 6) (
  oin (call 148 [.int 210] s28) fun r34 s32 =>
  obn (opf s32 r30 6 2 (.int r34)) fun s35 =>
  obn (ovr (ofd s35 x1 7 11)) fun v37 =>
  obn (oob s35 v37 1) fun a39 =>
  orn (call 234 [va_rf v37, .int 1] s35) fun r43 s41 =>
  ogd (ocs s41 r43 6) (
  oin (call 148 [.int 213] s41) fun r47 s45 =>
  obn (opf s45 r43 6 2 (.int r47)) fun s48 =>
  obn (ovr (ofd s48 x1 7 13)) fun v50 =>
  obn (oob s48 x0 12) fun a52 =>
  oin (call 156 [va_rf x0, va_rf v50] s48) fun r56 s54 =>
  obn (ovi (ofd s54 x1 7 8)) fun v57 =>
  obn (ovr (ofd s54 x1 7 13)) fun v59 =>
  obn (ovi (ofd s54 v59 7 1)) fun v61 =>
  obn (oob s54 x0 12) fun a63 =>
  ocv (call 152 [va_rf x0, .int r56, .int v57, .int v61] s54) fun s65 =>
  some (none, s65)))
set_option maxHeartbeats 4000000 in
theorem qb_X10_inferMatch {κ : oKv} {n : Nat} {call : oCl} {kc : Nat → List Value → oSt → Option Value × oSt → Prop} {v : Option Value × oSt} {X : Nat → zLv → List Value → oSt → Prop} (hX : oSem RX10 cX10_inferMatch 2 0 none κ kc v X) (hc : ∀ j av s w, call j av s = some w → kc j av s w) {x0 : Option Nat} {x1 : Option Nat} {σ : oSt} (h : ob_X10_inferMatch n call κ x0 x1 σ = some v) : X 0 [some (va_rf x0), some (va_rf x1)] [] σ := by
  rw [ob_X10_inferMatch] at h
  refine os_aload_n (r := x0) hX dX10_inferMatch_0 rfl rfl ?_
  refine os_aload_n (r := x1) hX dX10_inferMatch_1 rfl rfl ?_
  obtain ⟨v1, e2, h⟩ := obn_e h
  refine ow_get (r := x1) hX dX10_inferMatch_2 oF_RX10_147 (ovr_e e2) ?_
  obtain ⟨v3, e4, h⟩ := obn_e h
  refine ow_get (r := v1) hX dX10_inferMatch_5 oF_RX10_68 (ovi_e e4) ?_
  refine os_sipush (v := 213) hX dX10_inferMatch_8 (by decide) ?_
  obtain ⟨r7, s5, e6, h⟩ := oin_e h
  refine oc_RX10_65 (a1 := .int 213) hX dX10_inferMatch_11 (by simp only [List.map_cons, List.map_nil, List.sum_cons, List.sum_nil, ocat]; exact Nat.le_of_ble_eq_true rfl) (hc _ _ _ _ e6) ?_
  refine os_aload_n (r := x1) hX dX10_inferMatch_14 rfl rfl ?_
  obtain ⟨v8, e9, h⟩ := obn_e h
  refine ow_get (r := x1) hX dX10_inferMatch_15 oF_RX10_150 (ovi_e e9) ?_
  obtain ⟨a10, e11, h⟩ := obn_e h
  obtain ⟨s12, e13, h⟩ := ocv_e h
  refine oc_RX10_140 (rb := x0) (a1 := .int v3) (a2 := .int r7) (a3 := .int v8) hX dX10_inferMatch_18 (Nat.le_of_ble_eq_true rfl) e11 (hc _ _ _ _ e13) ?_
  refine os_aload_n (r := x1) hX dX10_inferMatch_21 rfl rfl ?_
  refine os_aload_n (r := x0) hX dX10_inferMatch_22 rfl rfl ?_
  refine os_aload_n (r := x1) hX dX10_inferMatch_23 rfl rfl ?_
  obtain ⟨v15, e16, h⟩ := obn_e h
  refine ow_get (r := x1) hX dX10_inferMatch_24 oF_RX10_114 (ovr_e e16) ?_
  obtain ⟨a17, e18, h⟩ := obn_e h
  obtain ⟨r21, s19, e20, h⟩ := oin_e h
  refine oc_RX10_75 (rb := x0) (a1 := va_rf v15) hX dX10_inferMatch_27 (by simp only [List.map_cons, List.map_nil, List.sum_cons, List.sum_nil, ocat]; exact Nat.le_of_ble_eq_true rfl) e18 (hc _ _ _ _ e20) ?_
  obtain ⟨s22, e23, h⟩ := obn_e h
  refine ow_put (r := x1) (x := .int r21) hX dX10_inferMatch_30 oF_RX10_120 (by decide) (opn_I oT_7_8) e23 ?_
  refine os_aload_n (r := x1) hX dX10_inferMatch_33 rfl rfl ?_
  obtain ⟨v24, e25, h⟩ := obn_e h
  refine ow_get (r := x1) hX dX10_inferMatch_34 oF_RX10_124 (ovr_e e25) ?_
  refine os_iconst (v := 0) hX dX10_inferMatch_37 (by decide) ?_
  obtain ⟨a26, e27, h⟩ := obn_e h
  obtain ⟨r30, s28, e29, h⟩ := orn_e h
  refine oc_RX10_56 (rb := v24) (a1 := .int 0) hX dX10_inferMatch_38 (Nat.le_of_ble_eq_true rfl) e27 (hc _ _ _ _ e29) ?_
  obtain ⟨b31, h⟩ := ogd_e h
  refine ow_cs (r := r30) hX dX10_inferMatch_41 oK_RX10_60 b31 ?_
  refine os_sipush (v := 210) hX dX10_inferMatch_44 (by decide) ?_
  obtain ⟨r34, s32, e33, h⟩ := oin_e h
  refine oc_RX10_65 (a1 := .int 210) hX dX10_inferMatch_47 (by simp only [List.map_cons, List.map_nil, List.sum_cons, List.sum_nil, ocat]; exact Nat.le_of_ble_eq_true rfl) (hc _ _ _ _ e33) ?_
  obtain ⟨s35, e36, h⟩ := obn_e h
  refine ow_put (r := r30) (x := .int r34) hX dX10_inferMatch_50 oF_RX10_68 (by decide) (opn_I oT_6_2) e36 ?_
  refine os_aload_n (r := x1) hX dX10_inferMatch_53 rfl rfl ?_
  obtain ⟨v37, e38, h⟩ := obn_e h
  refine ow_get (r := x1) hX dX10_inferMatch_54 oF_RX10_124 (ovr_e e38) ?_
  refine os_iconst (v := 1) hX dX10_inferMatch_57 (by decide) ?_
  obtain ⟨a39, e40, h⟩ := obn_e h
  obtain ⟨r43, s41, e42, h⟩ := orn_e h
  refine oc_RX10_56 (rb := v37) (a1 := .int 1) hX dX10_inferMatch_58 (Nat.le_of_ble_eq_true rfl) e40 (hc _ _ _ _ e42) ?_
  obtain ⟨b44, h⟩ := ogd_e h
  refine ow_cs (r := r43) hX dX10_inferMatch_61 oK_RX10_60 b44 ?_
  refine os_sipush (v := 213) hX dX10_inferMatch_64 (by decide) ?_
  obtain ⟨r47, s45, e46, h⟩ := oin_e h
  refine oc_RX10_65 (a1 := .int 213) hX dX10_inferMatch_67 (by simp only [List.map_cons, List.map_nil, List.sum_cons, List.sum_nil, ocat]; exact Nat.le_of_ble_eq_true rfl) (hc _ _ _ _ e46) ?_
  obtain ⟨s48, e49, h⟩ := obn_e h
  refine ow_put (r := r43) (x := .int r47) hX dX10_inferMatch_70 oF_RX10_68 (by decide) (opn_I oT_6_2) e49 ?_
  refine os_aload_n (r := x0) hX dX10_inferMatch_73 rfl rfl ?_
  refine os_aload_n (r := x0) hX dX10_inferMatch_74 rfl rfl ?_
  refine os_aload_n (r := x1) hX dX10_inferMatch_75 rfl rfl ?_
  obtain ⟨v50, e51, h⟩ := obn_e h
  refine ow_get (r := x1) hX dX10_inferMatch_76 oF_RX10_117 (ovr_e e51) ?_
  obtain ⟨a52, e53, h⟩ := obn_e h
  obtain ⟨r56, s54, e55, h⟩ := oin_e h
  refine oc_RX10_75 (rb := x0) (a1 := va_rf v50) hX dX10_inferMatch_79 (by simp only [List.map_cons, List.map_nil, List.sum_cons, List.sum_nil, ocat]; exact Nat.le_of_ble_eq_true rfl) e53 (hc _ _ _ _ e55) ?_
  refine os_aload_n (r := x1) hX dX10_inferMatch_82 rfl rfl ?_
  obtain ⟨v57, e58, h⟩ := obn_e h
  refine ow_get (r := x1) hX dX10_inferMatch_83 oF_RX10_120 (ovi_e e58) ?_
  refine os_aload_n (r := x1) hX dX10_inferMatch_86 rfl rfl ?_
  obtain ⟨v59, e60, h⟩ := obn_e h
  refine ow_get (r := x1) hX dX10_inferMatch_87 oF_RX10_117 (ovr_e e60) ?_
  obtain ⟨v61, e62, h⟩ := obn_e h
  refine ow_get (r := v59) hX dX10_inferMatch_90 oF_RX10_137 (ovi_e e62) ?_
  obtain ⟨a63, e64, h⟩ := obn_e h
  obtain ⟨s65, e66, h⟩ := ocv_e h
  refine oc_RX10_140 (rb := x0) (a1 := .int r56) (a2 := .int v57) (a3 := .int v61) hX dX10_inferMatch_93 (Nat.le_of_ble_eq_true rfl) e64 (hc _ _ _ _ e66) ?_
  exact os_vret hX dX10_inferMatch_96 rfl (Option.some.inj h)
def ol_X10_inferRec_62 (n : Nat) (call : oCl) (κ : oKv) : Nat → Option Nat → Option Nat → Int32 → Int32 → oSt → oRs
  | 0, _, _, _, _, _ => none
  | f + 1, x0, x1, x2, x3, σ =>
    if x3 < 0 then
      obn (ovr (ofd σ x1 7 12)) fun v2 =>
      obn (oob σ x0 12) fun a4 =>
      oin (call 156 [va_rf x0, va_rf v2] σ) fun r8 s6 =>
      obn (ovr (ofd s6 x1 7 12)) fun v9 =>
      obn (ovi (ofd s6 v9 7 1)) fun v11 =>
      obn (oob s6 x0 12) fun a13 =>
      ocv (call 152 [va_rf x0, .int r8, .int x2, .int v11] s6) fun s15 =>
      obn (ovr (ofd s15 x1 7 13)) fun v18 =>
      obn (oob s15 x0 12) fun a20 =>
      oin (call 156 [va_rf x0, va_rf v18] s15) fun r24 s22 =>
      obn (opf s22 x1 7 8 (.int r24)) fun s25 =>
      some (none, s25)
    else
      obn (ovr (ofd σ x1 7 10)) fun v27 =>
      obn (ovr (ofd σ x1 7 11)) fun v29 =>
      obn (oob σ v29 1) fun a31 =>
      orn (call 234 [va_rf v29, .int x3] σ) fun r35 s33 =>
      ogd (ocs s33 r35 6) (
      obn (ovi (ofd s33 r35 6 2)) fun v37 =>
      obn (ovr (ofd s33 x1 7 10)) fun v39 =>
      obn (ovi (ofd s33 v39 6 2)) fun v41 =>
      obn (oob s33 x0 12) fun a43 =>
      oin (call 149 [va_rf x0, .int v37, .int v41] s33) fun r47 s45 =>
      obn (opf s45 v27 6 2 (.int r47)) fun s48 =>
      ol_X10_inferRec_62 n call κ f x0 x1 x2 (x3 + (-1)) s48)
def ol_X10_inferRec_2 (n : Nat) (call : oCl) (κ : oKv) : Nat → Option Nat → Option Nat → Int32 → oSt → oRs
  | 0, _, _, _, _ => none
  | f + 1, x0, x1, x2, σ =>
    obn (ovr (ofd σ x1 7 11)) fun v1 =>
    obn (oob σ v1 1) fun a3 =>
    oin (call 236 [va_rf v1] σ) fun r7 s5 =>
    if r7 ≤ x2 then
      obn (oob s5 x0 12) fun a9 =>
      oin (call 146 [va_rf x0, .int 0] s5) fun r13 s11 =>
      obn (ovr (ofd s11 x1 7 10)) fun v14 =>
      obn (opf s11 v14 6 2 (.int r13)) fun s16 =>
      obn (ovr (ofd s16 x1 7 11)) fun v18 =>
      obn (oob s16 v18 1) fun a20 =>
      oin (call 236 [va_rf v18] s16) fun r24 s22 =>
      ol_X10_inferRec_62 n call κ n x0 x1 r13 (r24 - 1) s22
    else
      obn (ovr (ofd s5 x1 7 11)) fun v25 =>
      obn (oob s5 v25 1) fun a27 =>
      orn (call 234 [va_rf v25, .int x2] s5) fun r31 s29 =>
      ogd (ocs s29 r31 6) (
      obn (oob s29 x0 12) fun a33 =>
      oin (call 146 [va_rf x0, .int 0] s29) fun r37 s35 =>
      obn (opf s35 r31 6 2 (.int r37)) fun s38 =>
      ol_X10_inferRec_2 n call κ f x0 x1 (x2 + 1) s38)
def ob_X10_inferRec (n : Nat) (call : oCl) (κ : oKv) (x0 : Option Nat) (x1 : Option Nat) (σ : oSt) : oRs :=
  ol_X10_inferRec_2 n call κ n x0 x1 0 σ
set_option maxHeartbeats 4000000 in
theorem ql_X10_inferRec_62 {κ : oKv} {n : Nat} {call : oCl} {kc : Nat → List Value → oSt → Option Value × oSt → Prop} {v : Option Value × oSt} {X : Nat → zLv → List Value → oSt → Prop} (hX : oSem RX10 cX10_inferRec 4 0 none κ kc v X) (hc : ∀ j av s w, call j av s = some w → kc j av s w) : ∀ (f : Nat) (x0 : Option Nat) (x1 : Option Nat) (x2 : Int32) (x3 : Int32) (σ : oSt), ol_X10_inferRec_62 n call κ f x0 x1 x2 x3 σ = some v → X 62 [some (va_rf x0), some (va_rf x1), some (.int x2), some (.int x3)] [] σ := by
  intro f
  induction f with
  | zero => intro x0 x1 x2 x3 σ h; cases h
  | succ f hk62 =>
    intro x0 x1 x2 x3 σ h
    rw [ol_X10_inferRec_62] at h
    refine os_iload_n hX dX10_inferRec_62 rfl rfl ?_
    refine os_if_lt (tgt := 104) hX dX10_inferRec_63 (by decide) (fun c1 => ?_) (fun c1 => ?_)
    · rw [if_pos c1] at h
      refine os_aload_n (r := x0) hX dX10_inferRec_104 rfl rfl ?_
      refine os_aload_n (r := x0) hX dX10_inferRec_105 rfl rfl ?_
      refine os_aload_n (r := x1) hX dX10_inferRec_106 rfl rfl ?_
      obtain ⟨v2, e3, h⟩ := obn_e h
      refine ow_get (r := x1) hX dX10_inferRec_107 oF_RX10_114 (ovr_e e3) ?_
      obtain ⟨a4, e5, h⟩ := obn_e h
      obtain ⟨r8, s6, e7, h⟩ := oin_e h
      refine oc_RX10_75 (rb := x0) (a1 := va_rf v2) hX dX10_inferRec_110 (by simp only [List.map_cons, List.map_nil, List.sum_cons, List.sum_nil, ocat]; exact Nat.le_of_ble_eq_true rfl) e5 (hc _ _ _ _ e7) ?_
      refine os_iload_n hX dX10_inferRec_113 rfl rfl ?_
      refine os_aload_n (r := x1) hX dX10_inferRec_114 rfl rfl ?_
      obtain ⟨v9, e10, h⟩ := obn_e h
      refine ow_get (r := x1) hX dX10_inferRec_115 oF_RX10_114 (ovr_e e10) ?_
      obtain ⟨v11, e12, h⟩ := obn_e h
      refine ow_get (r := v9) hX dX10_inferRec_118 oF_RX10_137 (ovi_e e12) ?_
      obtain ⟨a13, e14, h⟩ := obn_e h
      obtain ⟨s15, e16, h⟩ := ocv_e h
      refine oc_RX10_140 (rb := x0) (a1 := .int r8) (a2 := .int x2) (a3 := .int v11) hX dX10_inferRec_121 (Nat.le_of_ble_eq_true rfl) e14 (hc _ _ _ _ e16) ?_
      refine os_aload_n (r := x1) hX dX10_inferRec_124 rfl rfl ?_
      refine os_aload_n (r := x0) hX dX10_inferRec_125 rfl rfl ?_
      refine os_aload_n (r := x1) hX dX10_inferRec_126 rfl rfl ?_
      obtain ⟨v18, e19, h⟩ := obn_e h
      refine ow_get (r := x1) hX dX10_inferRec_127 oF_RX10_117 (ovr_e e19) ?_
      obtain ⟨a20, e21, h⟩ := obn_e h
      obtain ⟨r24, s22, e23, h⟩ := oin_e h
      refine oc_RX10_75 (rb := x0) (a1 := va_rf v18) hX dX10_inferRec_130 (by simp only [List.map_cons, List.map_nil, List.sum_cons, List.sum_nil, ocat]; exact Nat.le_of_ble_eq_true rfl) e21 (hc _ _ _ _ e23) ?_
      obtain ⟨s25, e26, h⟩ := obn_e h
      refine ow_put (r := x1) (x := .int r24) hX dX10_inferRec_133 oF_RX10_120 (by decide) (opn_I oT_7_8) e26 ?_
      exact os_vret hX dX10_inferRec_136 rfl (Option.some.inj h)
    · rw [if_neg c1] at h
      refine os_aload_n (r := x1) hX dX10_inferRec_66 rfl rfl ?_
      obtain ⟨v27, e28, h⟩ := obn_e h
      refine ow_get (r := x1) hX dX10_inferRec_67 oF_RX10_111 (ovr_e e28) ?_
      refine os_aload_n (r := x0) hX dX10_inferRec_70 rfl rfl ?_
      refine os_aload_n (r := x1) hX dX10_inferRec_71 rfl rfl ?_
      obtain ⟨v29, e30, h⟩ := obn_e h
      refine ow_get (r := x1) hX dX10_inferRec_72 oF_RX10_124 (ovr_e e30) ?_
      refine os_iload_n hX dX10_inferRec_75 rfl rfl ?_
      obtain ⟨a31, e32, h⟩ := obn_e h
      obtain ⟨r35, s33, e34, h⟩ := orn_e h
      refine oc_RX10_56 (rb := v29) (a1 := .int x3) hX dX10_inferRec_76 (by simp only [List.map_cons, List.map_nil, List.sum_cons, List.sum_nil, ocat]; exact Nat.le_of_ble_eq_true rfl) e32 (hc _ _ _ _ e34) ?_
      obtain ⟨b36, h⟩ := ogd_e h
      refine ow_cs (r := r35) hX dX10_inferRec_79 oK_RX10_60 b36 ?_
      obtain ⟨v37, e38, h⟩ := obn_e h
      refine ow_get (r := r35) hX dX10_inferRec_82 oF_RX10_68 (ovi_e e38) ?_
      refine os_aload_n (r := x1) hX dX10_inferRec_85 rfl rfl ?_
      obtain ⟨v39, e40, h⟩ := obn_e h
      refine ow_get (r := x1) hX dX10_inferRec_86 oF_RX10_111 (ovr_e e40) ?_
      obtain ⟨v41, e42, h⟩ := obn_e h
      refine ow_get (r := v39) hX dX10_inferRec_89 oF_RX10_68 (ovi_e e42) ?_
      obtain ⟨a43, e44, h⟩ := obn_e h
      obtain ⟨r47, s45, e46, h⟩ := oin_e h
      refine oc_RX10_127 (rb := x0) (a1 := .int v37) (a2 := .int v41) hX dX10_inferRec_92 (by simp only [List.map_cons, List.map_nil, List.sum_cons, List.sum_nil, ocat]; exact Nat.le_of_ble_eq_true rfl) e44 (hc _ _ _ _ e46) ?_
      obtain ⟨s48, e49, h⟩ := obn_e h
      refine ow_put (r := v27) (x := .int r47) hX dX10_inferRec_95 oF_RX10_68 (by decide) (opn_I oT_6_2) e49 ?_
      refine os_iinc (v := x3 + (-1)) hX dX10_inferRec_98 rfl rfl (by decide) rfl ?_
      dsimp only [List.set]
      refine os_goto (tgt := 62) hX dX10_inferRec_101 (by decide) ?_
      exact hk62 _ _ _ _ _ h
set_option maxHeartbeats 4000000 in
theorem ql_X10_inferRec_2 {κ : oKv} {n : Nat} {call : oCl} {kc : Nat → List Value → oSt → Option Value × oSt → Prop} {v : Option Value × oSt} {X : Nat → zLv → List Value → oSt → Prop} (hX : oSem RX10 cX10_inferRec 4 0 none κ kc v X) (hc : ∀ j av s w, call j av s = some w → kc j av s w) : ∀ (f : Nat) (x0 : Option Nat) (x1 : Option Nat) (x2 : Int32) (σ : oSt), ol_X10_inferRec_2 n call κ f x0 x1 x2 σ = some v → X 2 [some (va_rf x0), some (va_rf x1), some (.int x2), none] [] σ := by
  intro f
  induction f with
  | zero => intro x0 x1 x2 σ h; cases h
  | succ f hk2 =>
    intro x0 x1 x2 σ h
    rw [ol_X10_inferRec_2] at h
    refine os_iload_n hX dX10_inferRec_2 rfl rfl ?_
    refine os_aload_n (r := x1) hX dX10_inferRec_3 rfl rfl ?_
    obtain ⟨v1, e2, h⟩ := obn_e h
    refine ow_get (r := x1) hX dX10_inferRec_4 oF_RX10_124 (ovr_e e2) ?_
    obtain ⟨a3, e4, h⟩ := obn_e h
    obtain ⟨r7, s5, e6, h⟩ := oin_e h
    refine oc_RX10_50 (rb := v1)  hX dX10_inferRec_7 (Nat.le_of_ble_eq_true rfl) e4 (hc _ _ _ _ e6) ?_
    refine os_icmp_ge (tgt := 38) hX dX10_inferRec_10 (by decide) (fun c8 => ?_) (fun c8 => ?_)
    · rw [if_pos c8] at h
      refine os_aload_n (r := x0) hX dX10_inferRec_38 rfl rfl ?_
      refine os_iconst (v := 0) hX dX10_inferRec_39 (by decide) ?_
      obtain ⟨a9, e10, h⟩ := obn_e h
      obtain ⟨r13, s11, e12, h⟩ := oin_e h
      refine oc_RX10_37 (rb := x0) (a1 := .int 0) hX dX10_inferRec_40 (Nat.le_of_ble_eq_true rfl) e10 (hc _ _ _ _ e12) ?_
      refine os_istore_n hX dX10_inferRec_43 rfl (by decide) (ozlo (i := 1) (r := x1) rfl) ?_
      dsimp only [List.set]
      refine os_aload_n (r := x1) hX dX10_inferRec_44 rfl rfl ?_
      obtain ⟨v14, e15, h⟩ := obn_e h
      refine ow_get (r := x1) hX dX10_inferRec_45 oF_RX10_111 (ovr_e e15) ?_
      refine os_iload_n hX dX10_inferRec_48 rfl rfl ?_
      obtain ⟨s16, e17, h⟩ := obn_e h
      refine ow_put (r := v14) (x := .int r13) hX dX10_inferRec_49 oF_RX10_68 (by decide) (opn_I oT_6_2) e17 ?_
      refine os_aload_n (r := x1) hX dX10_inferRec_52 rfl rfl ?_
      obtain ⟨v18, e19, h⟩ := obn_e h
      refine ow_get (r := x1) hX dX10_inferRec_53 oF_RX10_124 (ovr_e e19) ?_
      obtain ⟨a20, e21, h⟩ := obn_e h
      obtain ⟨r24, s22, e23, h⟩ := oin_e h
      refine oc_RX10_50 (rb := v18)  hX dX10_inferRec_56 (Nat.le_of_ble_eq_true rfl) e21 (hc _ _ _ _ e23) ?_
      refine os_iconst (v := 1) hX dX10_inferRec_59 (by decide) ?_
      refine os_isub hX dX10_inferRec_60 ?_
      refine os_istore_n hX dX10_inferRec_61 rfl (by decide) rfl ?_
      dsimp only [List.set]
      exact ql_X10_inferRec_62 hX hc n _ _ _ _ _ h
    · rw [if_neg c8] at h
      refine os_aload_n (r := x1) hX dX10_inferRec_13 rfl rfl ?_
      obtain ⟨v25, e26, h⟩ := obn_e h
      refine ow_get (r := x1) hX dX10_inferRec_14 oF_RX10_124 (ovr_e e26) ?_
      refine os_iload_n hX dX10_inferRec_17 rfl rfl ?_
      obtain ⟨a27, e28, h⟩ := obn_e h
      obtain ⟨r31, s29, e30, h⟩ := orn_e h
      refine oc_RX10_56 (rb := v25) (a1 := .int x2) hX dX10_inferRec_18 (Nat.le_of_ble_eq_true rfl) e28 (hc _ _ _ _ e30) ?_
      obtain ⟨b32, h⟩ := ogd_e h
      refine ow_cs (r := r31) hX dX10_inferRec_21 oK_RX10_60 b32 ?_
      refine os_aload_n (r := x0) hX dX10_inferRec_24 rfl rfl ?_
      refine os_iconst (v := 0) hX dX10_inferRec_25 (by decide) ?_
      obtain ⟨a33, e34, h⟩ := obn_e h
      obtain ⟨r37, s35, e36, h⟩ := oin_e h
      refine oc_RX10_37 (rb := x0) (a1 := .int 0) hX dX10_inferRec_26 (by simp only [List.map_cons, List.map_nil, List.sum_cons, List.sum_nil, ocat]; exact Nat.le_of_ble_eq_true rfl) e34 (hc _ _ _ _ e36) ?_
      obtain ⟨s38, e39, h⟩ := obn_e h
      refine ow_put (r := r31) (x := .int r37) hX dX10_inferRec_29 oF_RX10_68 (by decide) (opn_I oT_6_2) e39 ?_
      refine os_iinc (v := x2 + 1) hX dX10_inferRec_32 rfl rfl (by decide) (ozlo (i := 1) (r := x1) rfl) ?_
      dsimp only [List.set]
      refine os_goto (tgt := 2) hX dX10_inferRec_35 (by decide) ?_
      exact hk2 _ _ _ _ h
set_option maxHeartbeats 4000000 in
theorem qb_X10_inferRec {κ : oKv} {n : Nat} {call : oCl} {kc : Nat → List Value → oSt → Option Value × oSt → Prop} {v : Option Value × oSt} {X : Nat → zLv → List Value → oSt → Prop} (hX : oSem RX10 cX10_inferRec 4 0 none κ kc v X) (hc : ∀ j av s w, call j av s = some w → kc j av s w) {x0 : Option Nat} {x1 : Option Nat} {σ : oSt} (h : ob_X10_inferRec n call κ x0 x1 σ = some v) : X 0 [some (va_rf x0), some (va_rf x1), none, none] [] σ := by
  rw [ob_X10_inferRec] at h
  refine os_iconst (v := 0) hX dX10_inferRec_0 (by decide) ?_
  refine os_istore_n hX dX10_inferRec_1 rfl (by decide) (ozlo (i := 1) (r := x1) rfl) ?_
  dsimp only [List.set]
  exact ql_X10_inferRec_2 hX hc n _ _ _ _ h
def oj_X10_leavesOf_100 (n : Nat) (call : oCl) (κ : oKv) (k17 : Option Nat → Int32 → Int32 → Int32 → oSt → oRs) (x0 : Option Nat) (x2 : Int32) (x3 : Int32) (x4 : Int32) (σ : oSt) : oRs :=
  k17 x0 x2 x3 (x4 + 1) σ
def ol_X10_leavesOf_17 (n : Nat) (call : oCl) (κ : oKv) : Nat → Option Nat → Int32 → Int32 → Int32 → oSt → oRs
  | 0, _, _, _, _, _ => none
  | f + 1, x0, x2, x3, x4, σ =>
    if 1000000 ≤ x4 then
      some (some (.int x2), σ)
    else
      if x3 ≤ 0 then
        some (some (.int x2), σ)
      else
        if 60 < x2 then
          some (some (.int x2), σ)
        else
          obn (ovr (ofd σ x0 12 5)) fun v4 =>
          obn (oai σ v4 .int (x3 + (-1))) fun v6 =>
          obn (oob σ x0 12) fun a8 =>
          oin (call 21 [va_rf x0, .int v6] σ) fun r12 s10 =>
          obn (ovr (ofd s10 x0 12 0)) fun v13 =>
          obn (oai s10 v13 .int r12) fun v15 =>
          if v15 = 206 then
            obn (ovr (ofd s10 x0 12 5)) fun v18 =>
            obn (ovr (ofd s10 x0 12 2)) fun v20 =>
            obn (oai s10 v20 .int r12) fun v22 =>
            obn (osi s10 v18 .int (x3 + (-1)) v22) fun s24 =>
            obn (ovr (ofd s24 x0 12 5)) fun v26 =>
            obn (ovr (ofd s24 x0 12 1)) fun v28 =>
            obn (oai s24 v28 .int r12) fun v30 =>
            obn (osi s24 v26 .int ((x3 + (-1)) + 1) v30) fun s32 =>
            oj_X10_leavesOf_100 n call κ (ol_X10_leavesOf_17 n call κ f) x0 x2 (((x3 + (-1)) + 1) + 1) x4 s32
          else
            oj_X10_leavesOf_100 n call κ (ol_X10_leavesOf_17 n call κ f) x0 (x2 + 1) (x3 + (-1)) x4 s10
def ob_X10_leavesOf (n : Nat) (call : oCl) (κ : oKv) (x0 : Option Nat) (x1 : Int32) (σ : oSt) : oRs :=
  obn (ovr (ofd σ x0 12 5)) fun v1 =>
  obn (osi σ v1 .int 0 x1) fun s3 =>
  ol_X10_leavesOf_17 n call κ n x0 0 (0 + 1) 0 s3
set_option maxHeartbeats 4000000 in
theorem qj_X10_leavesOf_100 {κ : oKv} {n : Nat} {call : oCl} {kc : Nat → List Value → oSt → Option Value × oSt → Prop} {v : Option Value × oSt} {X : Nat → zLv → List Value → oSt → Prop} (hX : oSem RX10 cX10_leavesOf 6 0 (some .int) κ kc v X) (hc : ∀ j av s w, call j av s = some w → kc j av s w) {k17 : Option Nat → Int32 → Int32 → Int32 → oSt → oRs} (hk17 : ∀ (x0 : Option Nat) (x2 : Int32) (x3 : Int32) (x4 : Int32) (s : oSt), k17 x0 x2 x3 x4 s = some v → X 17 [some (va_rf x0), none, some (.int x2), some (.int x3), some (.int x4), none] [] s) {x0 : Option Nat} {x2 : Int32} {x3 : Int32} {x4 : Int32} {σ : oSt} (h : oj_X10_leavesOf_100 n call κ k17 x0 x2 x3 x4 σ = some v) : X 100 [some (va_rf x0), none, some (.int x2), some (.int x3), some (.int x4), none] [] σ := by
  rw [oj_X10_leavesOf_100] at h
  refine os_iinc (v := x4 + 1) hX dX10_leavesOf_100 rfl rfl (by decide) rfl ?_
  dsimp only [List.set]
  refine os_goto (tgt := 17) hX dX10_leavesOf_103 (by decide) ?_
  exact hk17 _ _ _ _ _ h
set_option maxHeartbeats 4000000 in
theorem ql_X10_leavesOf_17 {κ : oKv} {n : Nat} {call : oCl} {kc : Nat → List Value → oSt → Option Value × oSt → Prop} {v : Option Value × oSt} {X : Nat → zLv → List Value → oSt → Prop} (hX : oSem RX10 cX10_leavesOf 6 0 (some .int) κ kc v X) (hc : ∀ j av s w, call j av s = some w → kc j av s w) : ∀ (f : Nat) (x0 : Option Nat) (x2 : Int32) (x3 : Int32) (x4 : Int32) (σ : oSt), ol_X10_leavesOf_17 n call κ f x0 x2 x3 x4 σ = some v → X 17 [some (va_rf x0), none, some (.int x2), some (.int x3), some (.int x4), none] [] σ := by
  intro f
  induction f with
  | zero => intro x0 x2 x3 x4 σ h; cases h
  | succ f hk17 =>
    intro x0 x2 x3 x4 σ h
    rw [ol_X10_leavesOf_17] at h
    refine os_iload hX dX10_leavesOf_17 rfl ?_
    refine os_ldc (x := 1000000) hX dX10_leavesOf_19 oCI_RX10_99 ?_
    refine os_icmp_ge (tgt := 106) hX dX10_leavesOf_21 (by decide) (fun c1 => ?_) (fun c1 => ?_)
    · rw [if_pos c1] at h
      refine os_iload_n hX dX10_leavesOf_106 rfl rfl ?_
      exact os_iret hX dX10_leavesOf_107 rfl (Option.some.inj h)
    · rw [if_neg c1] at h
      refine os_iload_n hX dX10_leavesOf_24 rfl rfl ?_
      refine os_if_le (tgt := 106) hX dX10_leavesOf_25 (by decide) (fun c2 => ?_) (fun c2 => ?_)
      · rw [if_pos c2] at h
        refine os_iload_n hX dX10_leavesOf_106 rfl rfl ?_
        exact os_iret hX dX10_leavesOf_107 rfl (Option.some.inj h)
      · rw [if_neg c2] at h
        refine os_iload_n hX dX10_leavesOf_28 rfl rfl ?_
        refine os_bipush (v := 60) hX dX10_leavesOf_29 (by decide) ?_
        refine os_icmp_gt (tgt := 106) hX dX10_leavesOf_31 (by decide) (fun c3 => ?_) (fun c3 => ?_)
        · rw [if_pos c3] at h
          refine os_iload_n hX dX10_leavesOf_106 rfl rfl ?_
          exact os_iret hX dX10_leavesOf_107 rfl (Option.some.inj h)
        · rw [if_neg c3] at h
          refine os_aload_n (r := x0) hX dX10_leavesOf_34 rfl rfl ?_
          refine os_aload_n (r := x0) hX dX10_leavesOf_35 rfl rfl ?_
          obtain ⟨v4, e5, h⟩ := obn_e h
          refine ow_get (r := x0) hX dX10_leavesOf_36 oF_RX10_34 (ovr_e e5) ?_
          refine os_iinc (v := x3 + (-1)) hX dX10_leavesOf_39 rfl rfl (by decide) rfl ?_
          dsimp only [List.set]
          refine os_iload_n hX dX10_leavesOf_42 rfl rfl ?_
          obtain ⟨v6, e7, h⟩ := obn_e h
          refine ow_ai (r := v4) (i := (x3 + (-1))) hX dX10_leavesOf_43 e7 ?_
          obtain ⟨a8, e9, h⟩ := obn_e h
          obtain ⟨r12, s10, e11, h⟩ := oin_e h
          refine oc_RX10_89 (rb := x0) (a1 := .int v6) hX dX10_leavesOf_44 (Nat.le_of_ble_eq_true rfl) e9 (hc _ _ _ _ e11) ?_
          refine os_istore hX dX10_leavesOf_47 (by decide) rfl ?_
          dsimp only [List.set]
          refine os_aload_n (r := x0) hX dX10_leavesOf_49 rfl rfl ?_
          obtain ⟨v13, e14, h⟩ := obn_e h
          refine ow_get (r := x0) hX dX10_leavesOf_50 oF_RX10_18 (ovr_e e14) ?_
          refine os_iload hX dX10_leavesOf_53 rfl ?_
          obtain ⟨v15, e16, h⟩ := obn_e h
          refine ow_ai (r := v13) (i := r12) hX dX10_leavesOf_55 e16 ?_
          refine os_sipush (v := 206) hX dX10_leavesOf_56 (by decide) ?_
          refine os_icmp_ne (tgt := 97) hX dX10_leavesOf_59 (by decide) (fun c17 => ?_) (fun c17 => ?_)
          · rw [if_neg c17] at h
            refine os_iinc (v := x2 + 1) hX dX10_leavesOf_97 rfl rfl (by decide) rfl ?_
            dsimp only [List.set]
            refine os_weak hX (lw := [some (va_rf x0), none, some (.int (x2 + 1)), some (.int (x3 + (-1))), some (.int x4), none]) ⟨rfl, rfl, rfl, rfl, trivial⟩ ?_
            exact qj_X10_leavesOf_100 hX hc hk17 h
          · rw [if_pos c17] at h
            refine os_aload_n (r := x0) hX dX10_leavesOf_62 rfl rfl ?_
            obtain ⟨v18, e19, h⟩ := obn_e h
            refine ow_get (r := x0) hX dX10_leavesOf_63 oF_RX10_34 (ovr_e e19) ?_
            refine os_iload_n hX dX10_leavesOf_66 rfl rfl ?_
            refine os_iinc (v := (x3 + (-1)) + 1) hX dX10_leavesOf_67 rfl rfl (by decide) rfl ?_
            dsimp only [List.set]
            refine os_aload_n (r := x0) hX dX10_leavesOf_70 rfl rfl ?_
            obtain ⟨v20, e21, h⟩ := obn_e h
            refine ow_get (r := x0) hX dX10_leavesOf_71 oF_RX10_25 (ovr_e e21) ?_
            refine os_iload hX dX10_leavesOf_74 rfl ?_
            obtain ⟨v22, e23, h⟩ := obn_e h
            refine ow_ai (r := v20) (i := r12) hX dX10_leavesOf_76 e23 ?_
            obtain ⟨s24, e25, h⟩ := obn_e h
            refine ow_si (r := v18) (i := (x3 + (-1))) (x := v22) hX dX10_leavesOf_77 e25 ?_
            refine os_aload_n (r := x0) hX dX10_leavesOf_78 rfl rfl ?_
            obtain ⟨v26, e27, h⟩ := obn_e h
            refine ow_get (r := x0) hX dX10_leavesOf_79 oF_RX10_34 (ovr_e e27) ?_
            refine os_iload_n hX dX10_leavesOf_82 rfl rfl ?_
            refine os_iinc (v := ((x3 + (-1)) + 1) + 1) hX dX10_leavesOf_83 rfl rfl (by decide) rfl ?_
            dsimp only [List.set]
            refine os_aload_n (r := x0) hX dX10_leavesOf_86 rfl rfl ?_
            obtain ⟨v28, e29, h⟩ := obn_e h
            refine ow_get (r := x0) hX dX10_leavesOf_87 oF_RX10_22 (ovr_e e29) ?_
            refine os_iload hX dX10_leavesOf_90 rfl ?_
            obtain ⟨v30, e31, h⟩ := obn_e h
            refine ow_ai (r := v28) (i := r12) hX dX10_leavesOf_92 e31 ?_
            obtain ⟨s32, e33, h⟩ := obn_e h
            refine ow_si (r := v26) (i := ((x3 + (-1)) + 1)) (x := v30) hX dX10_leavesOf_93 e33 ?_
            refine os_goto (tgt := 100) hX dX10_leavesOf_94 (by decide) ?_
            refine os_weak hX (lw := [some (va_rf x0), none, some (.int x2), some (.int (((x3 + (-1)) + 1) + 1)), some (.int x4), none]) ⟨rfl, rfl, rfl, rfl, trivial⟩ ?_
            exact qj_X10_leavesOf_100 hX hc hk17 h
set_option maxHeartbeats 4000000 in
theorem qb_X10_leavesOf {κ : oKv} {n : Nat} {call : oCl} {kc : Nat → List Value → oSt → Option Value × oSt → Prop} {v : Option Value × oSt} {X : Nat → zLv → List Value → oSt → Prop} (hX : oSem RX10 cX10_leavesOf 6 0 (some .int) κ kc v X) (hc : ∀ j av s w, call j av s = some w → kc j av s w) {x0 : Option Nat} {x1 : Int32} {σ : oSt} (h : ob_X10_leavesOf n call κ x0 x1 σ = some v) : X 0 [some (va_rf x0), some (.int x1), none, none, none, none] [] σ := by
  rw [ob_X10_leavesOf] at h
  refine os_iconst (v := 0) hX dX10_leavesOf_0 (by decide) ?_
  refine os_istore_n hX dX10_leavesOf_1 rfl (by decide) rfl ?_
  dsimp only [List.set]
  refine os_iconst (v := 0) hX dX10_leavesOf_2 (by decide) ?_
  refine os_istore_n hX dX10_leavesOf_3 rfl (by decide) rfl ?_
  dsimp only [List.set]
  refine os_aload_n (r := x0) hX dX10_leavesOf_4 rfl rfl ?_
  obtain ⟨v1, e2, h⟩ := obn_e h
  refine ow_get (r := x0) hX dX10_leavesOf_5 oF_RX10_34 (ovr_e e2) ?_
  refine os_iload_n hX dX10_leavesOf_8 rfl rfl ?_
  refine os_iinc (v := 0 + 1) hX dX10_leavesOf_9 rfl rfl (by decide) rfl ?_
  dsimp only [List.set]
  refine os_iload_n hX dX10_leavesOf_12 rfl rfl ?_
  obtain ⟨s3, e4, h⟩ := obn_e h
  refine ow_si (r := v1) (i := 0) (x := x1) hX dX10_leavesOf_13 e4 ?_
  refine os_iconst (v := 0) hX dX10_leavesOf_14 (by decide) ?_
  refine os_istore hX dX10_leavesOf_15 (by decide) rfl ?_
  dsimp only [List.set]
  refine os_weak hX (lw := [some (va_rf x0), none, some (.int 0), some (.int (0 + 1)), some (.int 0), none]) ⟨rfl, rfl, rfl, rfl, trivial⟩ ?_
  exact ql_X10_leavesOf_17 hX hc n _ _ _ _ _ h
def ol_X10_countTemplates_161 (n : Nat) (call : oCl) (κ : oKv) : Nat → Option Nat → Option Nat → Int32 → oSt → oRs
  | 0, _, _, _, _ => none
  | f + 1, x0, x1, x2, σ =>
    obn (ovi (ofd σ x1 7 0)) fun v1 =>
    if v1 = 401 then
      obn (ovr (ofd σ x1 7 18)) fun v4 =>
      obn (oob σ v4 1) fun a6 =>
      oin (call 236 [va_rf v4] σ) fun r10 s8 =>
      if r10 ≤ x2 then
        some (none, s8)
      else
        obn (ovr (ofd s8 x1 7 18)) fun v12 =>
        obn (oob s8 v12 1) fun a14 =>
        orn (call 234 [va_rf v12, .int x2] s8) fun r18 s16 =>
        ogd (ocs s16 r18 7) (
        obn (oob s16 x0 12) fun a20 =>
        ocv (call 161 [va_rf x0, va_rf r18] s16) fun s22 =>
        ol_X10_countTemplates_161 n call κ f x0 x1 (x2 + 1) s22)
    else
      some (none, σ)
def oj_X10_countTemplates_159 (n : Nat) (call : oCl) (κ : oKv) (x0 : Option Nat) (x1 : Option Nat) (σ : oSt) : oRs :=
  ol_X10_countTemplates_161 n call κ n x0 x1 0 σ
def oj_X10_countTemplates_144 (n : Nat) (call : oCl) (κ : oKv) (x0 : Option Nat) (x1 : Option Nat) (σ : oSt) : oRs :=
  obn (ovr (ofd σ x1 7 13)) fun v1 =>
  if v1 = none then
    oj_X10_countTemplates_159 n call κ x0 x1 σ
  else
    obn (ovr (ofd σ x1 7 13)) fun v4 =>
    obn (oob σ x0 12) fun a6 =>
    ocv (call 161 [va_rf x0, va_rf v4] σ) fun s8 =>
    oj_X10_countTemplates_159 n call κ x0 x1 s8
def oj_X10_countTemplates_97 (n : Nat) (call : oCl) (κ : oKv) (x0 : Option Nat) (x1 : Option Nat) (σ : oSt) : oRs :=
  obn (ovi (ofd σ x0 12 7)) fun v1 =>
  if v1 ≤ 60 then
    obn (ovr (ofd σ x1 7 12)) fun v4 =>
    if v4 = none then
      oj_X10_countTemplates_144 n call κ x0 x1 σ
    else
      obn (ovr (ofd σ x1 7 12)) fun v7 =>
      obn (oob σ x0 12) fun a9 =>
      ocv (call 161 [va_rf x0, va_rf v7] σ) fun s11 =>
      oj_X10_countTemplates_144 n call κ x0 x1 s11
  else
    obn (ovi (ofd σ x0 12 9)) fun v14 =>
    if 0 ≤ v14 then
      obn (ovi (ofd σ x0 12 9)) fun v17 =>
      obn (opf σ x0 12 9 (.int v17)) fun s19 =>
      some (none, s19)
    else
      obn (ovi (ofd σ x1 7 1)) fun v21 =>
      obn (opf σ x0 12 9 (.int v21)) fun s23 =>
      some (none, s23)
def oj_X10_countTemplates_80 (n : Nat) (call : oCl) (κ : oKv) (x0 : Option Nat) (x1 : Option Nat) (σ : oSt) : oRs :=
  obn (ovi (ofd σ x0 12 7)) fun v1 =>
  obn (ovi (ofd σ x1 7 8)) fun v3 =>
  obn (oob σ x0 12) fun a5 =>
  oin (call 160 [va_rf x0, .int v3] σ) fun r9 s7 =>
  obn (opf s7 x0 12 7 (.int (v1 + r9))) fun s10 =>
  oj_X10_countTemplates_97 n call κ x0 x1 s10
def oj_X10_countTemplates_30 (n : Nat) (call : oCl) (κ : oKv) (x0 : Option Nat) (x1 : Option Nat) (σ : oSt) : oRs :=
  obn (ovi (ofd σ x1 7 0)) fun v1 =>
  if v1 = 212 then
    oj_X10_countTemplates_80 n call κ x0 x1 σ
  else
    obn (ovi (ofd σ x1 7 0)) fun v4 =>
    if v4 = 219 then
      oj_X10_countTemplates_80 n call κ x0 x1 σ
    else
      obn (ovi (ofd σ x1 7 0)) fun v7 =>
      if v7 = 206 then
        oj_X10_countTemplates_80 n call κ x0 x1 σ
      else
        obn (ovi (ofd σ x1 7 0)) fun v10 =>
        if v10 = 207 then
          oj_X10_countTemplates_80 n call κ x0 x1 σ
        else
          obn (ovi (ofd σ x1 7 0)) fun v13 =>
          if v13 = 214 then
            oj_X10_countTemplates_80 n call κ x0 x1 σ
          else
            oj_X10_countTemplates_97 n call κ x0 x1 σ
def ob_X10_countTemplates (n : Nat) (call : oCl) (κ : oKv) (x0 : Option Nat) (x1 : Option Nat) (σ : oSt) : oRs :=
  obn (ovi (ofd σ x1 7 0)) fun v1 =>
  if v1 = 219 then
    obn (ovi (ofd σ x0 12 7)) fun v4 =>
    obn (ovr (ofd σ x1 7 10)) fun v6 =>
    obn (ovi (ofd σ v6 6 2)) fun v8 =>
    obn (oob σ x0 12) fun a10 =>
    oin (call 160 [va_rf x0, .int v8] σ) fun r14 s12 =>
    obn (opf s12 x0 12 7 (.int (v4 + r14))) fun s15 =>
    oj_X10_countTemplates_30 n call κ x0 x1 s15
  else
    oj_X10_countTemplates_30 n call κ x0 x1 σ
set_option maxHeartbeats 4000000 in
theorem ql_X10_countTemplates_161 {κ : oKv} {n : Nat} {call : oCl} {kc : Nat → List Value → oSt → Option Value × oSt → Prop} {v : Option Value × oSt} {X : Nat → zLv → List Value → oSt → Prop} (hX : oSem RX10 cX10_countTemplates 3 0 none κ kc v X) (hc : ∀ j av s w, call j av s = some w → kc j av s w) : ∀ (f : Nat) (x0 : Option Nat) (x1 : Option Nat) (x2 : Int32) (σ : oSt), ol_X10_countTemplates_161 n call κ f x0 x1 x2 σ = some v → X 161 [some (va_rf x0), some (va_rf x1), some (.int x2)] [] σ := by
  intro f
  induction f with
  | zero => intro x0 x1 x2 σ h; cases h
  | succ f hk161 =>
    intro x0 x1 x2 σ h
    rw [ol_X10_countTemplates_161] at h
    refine os_aload_n (r := x1) hX dX10_countTemplates_161 rfl rfl ?_
    obtain ⟨v1, e2, h⟩ := obn_e h
    refine ow_get (r := x1) hX dX10_countTemplates_162 oF_RX10_106 (ovi_e e2) ?_
    refine os_sipush (v := 401) hX dX10_countTemplates_165 (by decide) ?_
    refine os_icmp_ne (tgt := 203) hX dX10_countTemplates_168 (by decide) (fun c3 => ?_) (fun c3 => ?_)
    · rw [if_neg c3] at h
      exact os_vret hX dX10_countTemplates_203 rfl (Option.some.inj h)
    · rw [if_pos c3] at h
      refine os_iload_n hX dX10_countTemplates_171 rfl rfl ?_
      refine os_aload_n (r := x1) hX dX10_countTemplates_172 rfl rfl ?_
      obtain ⟨v4, e5, h⟩ := obn_e h
      refine ow_get (r := x1) hX dX10_countTemplates_173 oF_RX10_171 (ovr_e e5) ?_
      obtain ⟨a6, e7, h⟩ := obn_e h
      obtain ⟨r10, s8, e9, h⟩ := oin_e h
      refine oc_RX10_50 (rb := v4)  hX dX10_countTemplates_176 (Nat.le_of_ble_eq_true rfl) e7 (hc _ _ _ _ e9) ?_
      refine os_icmp_ge (tgt := 203) hX dX10_countTemplates_179 (by decide) (fun c11 => ?_) (fun c11 => ?_)
      · rw [if_pos c11] at h
        exact os_vret hX dX10_countTemplates_203 rfl (Option.some.inj h)
      · rw [if_neg c11] at h
        refine os_aload_n (r := x0) hX dX10_countTemplates_182 rfl rfl ?_
        refine os_aload_n (r := x1) hX dX10_countTemplates_183 rfl rfl ?_
        obtain ⟨v12, e13, h⟩ := obn_e h
        refine ow_get (r := x1) hX dX10_countTemplates_184 oF_RX10_171 (ovr_e e13) ?_
        refine os_iload_n hX dX10_countTemplates_187 rfl rfl ?_
        obtain ⟨a14, e15, h⟩ := obn_e h
        obtain ⟨r18, s16, e17, h⟩ := orn_e h
        refine oc_RX10_56 (rb := v12) (a1 := .int x2) hX dX10_countTemplates_188 (by simp only [List.map_cons, List.map_nil, List.sum_cons, List.sum_nil, ocat]; exact Nat.le_of_ble_eq_true rfl) e15 (hc _ _ _ _ e17) ?_
        obtain ⟨b19, h⟩ := ogd_e h
        refine ow_cs (r := r18) hX dX10_countTemplates_191 oK_RX10_107 b19 ?_
        obtain ⟨a20, e21, h⟩ := obn_e h
        obtain ⟨s22, e23, h⟩ := ocv_e h
        refine oc_RX10_82 (rb := x0) (a1 := va_rf r18) hX dX10_countTemplates_194 (Nat.le_of_ble_eq_true rfl) e21 (hc _ _ _ _ e23) ?_
        refine os_iinc (v := x2 + 1) hX dX10_countTemplates_197 rfl rfl (by decide) (ozlo (i := 1) (r := x1) rfl) ?_
        dsimp only [List.set]
        refine os_goto (tgt := 161) hX dX10_countTemplates_200 (by decide) ?_
        exact hk161 _ _ _ _ h
set_option maxHeartbeats 4000000 in
theorem qj_X10_countTemplates_159 {κ : oKv} {n : Nat} {call : oCl} {kc : Nat → List Value → oSt → Option Value × oSt → Prop} {v : Option Value × oSt} {X : Nat → zLv → List Value → oSt → Prop} (hX : oSem RX10 cX10_countTemplates 3 0 none κ kc v X) (hc : ∀ j av s w, call j av s = some w → kc j av s w) {x0 : Option Nat} {x1 : Option Nat} {σ : oSt} (h : oj_X10_countTemplates_159 n call κ x0 x1 σ = some v) : X 159 [some (va_rf x0), some (va_rf x1), none] [] σ := by
  rw [oj_X10_countTemplates_159] at h
  refine os_iconst (v := 0) hX dX10_countTemplates_159 (by decide) ?_
  refine os_istore_n hX dX10_countTemplates_160 rfl (by decide) (ozlo (i := 1) (r := x1) rfl) ?_
  dsimp only [List.set]
  exact ql_X10_countTemplates_161 hX hc n _ _ _ _ h
set_option maxHeartbeats 4000000 in
theorem qj_X10_countTemplates_144 {κ : oKv} {n : Nat} {call : oCl} {kc : Nat → List Value → oSt → Option Value × oSt → Prop} {v : Option Value × oSt} {X : Nat → zLv → List Value → oSt → Prop} (hX : oSem RX10 cX10_countTemplates 3 0 none κ kc v X) (hc : ∀ j av s w, call j av s = some w → kc j av s w) {x0 : Option Nat} {x1 : Option Nat} {σ : oSt} (h : oj_X10_countTemplates_144 n call κ x0 x1 σ = some v) : X 144 [some (va_rf x0), some (va_rf x1), none] [] σ := by
  rw [oj_X10_countTemplates_144] at h
  refine os_aload_n (r := x1) hX dX10_countTemplates_144 rfl rfl ?_
  obtain ⟨v1, e2, h⟩ := obn_e h
  refine ow_get (r := x1) hX dX10_countTemplates_145 oF_RX10_117 (ovr_e e2) ?_
  refine os_ifnull (r := v1) (tgt := 159) hX dX10_countTemplates_148 (by decide) (fun c3 => ?_) (fun c3 => ?_)
  · rw [if_pos c3] at h
    exact qj_X10_countTemplates_159 hX hc h
  · rw [if_neg c3] at h
    refine os_aload_n (r := x0) hX dX10_countTemplates_151 rfl rfl ?_
    refine os_aload_n (r := x1) hX dX10_countTemplates_152 rfl rfl ?_
    obtain ⟨v4, e5, h⟩ := obn_e h
    refine ow_get (r := x1) hX dX10_countTemplates_153 oF_RX10_117 (ovr_e e5) ?_
    obtain ⟨a6, e7, h⟩ := obn_e h
    obtain ⟨s8, e9, h⟩ := ocv_e h
    refine oc_RX10_82 (rb := x0) (a1 := va_rf v4) hX dX10_countTemplates_156 (Nat.le_of_ble_eq_true rfl) e7 (hc _ _ _ _ e9) ?_
    exact qj_X10_countTemplates_159 hX hc h
set_option maxHeartbeats 4000000 in
theorem qj_X10_countTemplates_97 {κ : oKv} {n : Nat} {call : oCl} {kc : Nat → List Value → oSt → Option Value × oSt → Prop} {v : Option Value × oSt} {X : Nat → zLv → List Value → oSt → Prop} (hX : oSem RX10 cX10_countTemplates 3 0 none κ kc v X) (hc : ∀ j av s w, call j av s = some w → kc j av s w) {x0 : Option Nat} {x1 : Option Nat} {σ : oSt} (h : oj_X10_countTemplates_97 n call κ x0 x1 σ = some v) : X 97 [some (va_rf x0), some (va_rf x1), none] [] σ := by
  rw [oj_X10_countTemplates_97] at h
  refine os_aload_n (r := x0) hX dX10_countTemplates_97 rfl rfl ?_
  obtain ⟨v1, e2, h⟩ := obn_e h
  refine ow_get (r := x0) hX dX10_countTemplates_98 oF_RX10_177 (ovi_e e2) ?_
  refine os_bipush (v := 60) hX dX10_countTemplates_101 (by decide) ?_
  refine os_icmp_le (tgt := 129) hX dX10_countTemplates_103 (by decide) (fun c3 => ?_) (fun c3 => ?_)
  · rw [if_pos c3] at h
    refine os_aload_n (r := x1) hX dX10_countTemplates_129 rfl rfl ?_
    obtain ⟨v4, e5, h⟩ := obn_e h
    refine ow_get (r := x1) hX dX10_countTemplates_130 oF_RX10_114 (ovr_e e5) ?_
    refine os_ifnull (r := v4) (tgt := 144) hX dX10_countTemplates_133 (by decide) (fun c6 => ?_) (fun c6 => ?_)
    · rw [if_pos c6] at h
      exact qj_X10_countTemplates_144 hX hc h
    · rw [if_neg c6] at h
      refine os_aload_n (r := x0) hX dX10_countTemplates_136 rfl rfl ?_
      refine os_aload_n (r := x1) hX dX10_countTemplates_137 rfl rfl ?_
      obtain ⟨v7, e8, h⟩ := obn_e h
      refine ow_get (r := x1) hX dX10_countTemplates_138 oF_RX10_114 (ovr_e e8) ?_
      obtain ⟨a9, e10, h⟩ := obn_e h
      obtain ⟨s11, e12, h⟩ := ocv_e h
      refine oc_RX10_82 (rb := x0) (a1 := va_rf v7) hX dX10_countTemplates_141 (Nat.le_of_ble_eq_true rfl) e10 (hc _ _ _ _ e12) ?_
      exact qj_X10_countTemplates_144 hX hc h
  · rw [if_neg c3] at h
    refine os_aload_n (r := x0) hX dX10_countTemplates_106 rfl rfl ?_
    refine os_aload_n (r := x0) hX dX10_countTemplates_107 rfl rfl ?_
    obtain ⟨v14, e15, h⟩ := obn_e h
    refine ow_get (r := x0) hX dX10_countTemplates_108 oF_RX10_15 (ovi_e e15) ?_
    refine os_if_ge (tgt := 121) hX dX10_countTemplates_111 (by decide) (fun c16 => ?_) (fun c16 => ?_)
    · rw [if_pos c16] at h
      refine os_aload_n (r := x0) hX dX10_countTemplates_121 rfl rfl ?_
      obtain ⟨v17, e18, h⟩ := obn_e h
      refine ow_get (r := x0) hX dX10_countTemplates_122 oF_RX10_15 (ovi_e e18) ?_
      obtain ⟨s19, e20, h⟩ := obn_e h
      refine ow_put (r := x0) (x := .int v17) hX dX10_countTemplates_125 oF_RX10_15 (by decide) (opn_I oT_12_9) e20 ?_
      exact os_vret hX dX10_countTemplates_128 rfl (Option.some.inj h)
    · rw [if_neg c16] at h
      refine os_aload_n (r := x1) hX dX10_countTemplates_114 rfl rfl ?_
      obtain ⟨v21, e22, h⟩ := obn_e h
      refine ow_get (r := x1) hX dX10_countTemplates_115 oF_RX10_137 (ovi_e e22) ?_
      refine os_goto (tgt := 125) hX dX10_countTemplates_118 (by decide) ?_
      obtain ⟨s23, e24, h⟩ := obn_e h
      refine ow_put (r := x0) (x := .int v21) hX dX10_countTemplates_125 oF_RX10_15 (by decide) (opn_I oT_12_9) e24 ?_
      exact os_vret hX dX10_countTemplates_128 rfl (Option.some.inj h)
set_option maxHeartbeats 4000000 in
theorem qj_X10_countTemplates_80 {κ : oKv} {n : Nat} {call : oCl} {kc : Nat → List Value → oSt → Option Value × oSt → Prop} {v : Option Value × oSt} {X : Nat → zLv → List Value → oSt → Prop} (hX : oSem RX10 cX10_countTemplates 3 0 none κ kc v X) (hc : ∀ j av s w, call j av s = some w → kc j av s w) {x0 : Option Nat} {x1 : Option Nat} {σ : oSt} (h : oj_X10_countTemplates_80 n call κ x0 x1 σ = some v) : X 80 [some (va_rf x0), some (va_rf x1), none] [] σ := by
  rw [oj_X10_countTemplates_80] at h
  refine os_aload_n (r := x0) hX dX10_countTemplates_80 rfl rfl ?_
  refine os_dup hX dX10_countTemplates_81 (ocat x0) ?_
  obtain ⟨v1, e2, h⟩ := obn_e h
  refine ow_get (r := x0) hX dX10_countTemplates_82 oF_RX10_177 (ovi_e e2) ?_
  refine os_aload_n (r := x0) hX dX10_countTemplates_85 rfl rfl ?_
  refine os_aload_n (r := x1) hX dX10_countTemplates_86 rfl rfl ?_
  obtain ⟨v3, e4, h⟩ := obn_e h
  refine ow_get (r := x1) hX dX10_countTemplates_87 oF_RX10_120 (ovi_e e4) ?_
  obtain ⟨a5, e6, h⟩ := obn_e h
  obtain ⟨r9, s7, e8, h⟩ := oin_e h
  refine oc_RX10_180 (rb := x0) (a1 := .int v3) hX dX10_countTemplates_90 (by simp only [List.map_cons, List.map_nil, List.sum_cons, List.sum_nil, ocat]; exact Nat.le_of_ble_eq_true rfl) e6 (hc _ _ _ _ e8) ?_
  refine os_iadd hX dX10_countTemplates_93 ?_
  obtain ⟨s10, e11, h⟩ := obn_e h
  refine ow_put (r := x0) (x := .int (v1 + r9)) hX dX10_countTemplates_94 oF_RX10_177 (by decide) (opn_I oT_12_7) e11 ?_
  exact qj_X10_countTemplates_97 hX hc h
set_option maxHeartbeats 4000000 in
theorem qj_X10_countTemplates_30 {κ : oKv} {n : Nat} {call : oCl} {kc : Nat → List Value → oSt → Option Value × oSt → Prop} {v : Option Value × oSt} {X : Nat → zLv → List Value → oSt → Prop} (hX : oSem RX10 cX10_countTemplates 3 0 none κ kc v X) (hc : ∀ j av s w, call j av s = some w → kc j av s w) {x0 : Option Nat} {x1 : Option Nat} {σ : oSt} (h : oj_X10_countTemplates_30 n call κ x0 x1 σ = some v) : X 30 [some (va_rf x0), some (va_rf x1), none] [] σ := by
  rw [oj_X10_countTemplates_30] at h
  refine os_aload_n (r := x1) hX dX10_countTemplates_30 rfl rfl ?_
  obtain ⟨v1, e2, h⟩ := obn_e h
  refine ow_get (r := x1) hX dX10_countTemplates_31 oF_RX10_106 (ovi_e e2) ?_
  refine os_sipush (v := 212) hX dX10_countTemplates_34 (by decide) ?_
  refine os_icmp_eq (tgt := 80) hX dX10_countTemplates_37 (by decide) (fun c3 => ?_) (fun c3 => ?_)
  · rw [if_pos c3] at h
    exact qj_X10_countTemplates_80 hX hc h
  · rw [if_neg c3] at h
    refine os_aload_n (r := x1) hX dX10_countTemplates_40 rfl rfl ?_
    obtain ⟨v4, e5, h⟩ := obn_e h
    refine ow_get (r := x1) hX dX10_countTemplates_41 oF_RX10_106 (ovi_e e5) ?_
    refine os_sipush (v := 219) hX dX10_countTemplates_44 (by decide) ?_
    refine os_icmp_eq (tgt := 80) hX dX10_countTemplates_47 (by decide) (fun c6 => ?_) (fun c6 => ?_)
    · rw [if_pos c6] at h
      exact qj_X10_countTemplates_80 hX hc h
    · rw [if_neg c6] at h
      refine os_aload_n (r := x1) hX dX10_countTemplates_50 rfl rfl ?_
      obtain ⟨v7, e8, h⟩ := obn_e h
      refine ow_get (r := x1) hX dX10_countTemplates_51 oF_RX10_106 (ovi_e e8) ?_
      refine os_sipush (v := 206) hX dX10_countTemplates_54 (by decide) ?_
      refine os_icmp_eq (tgt := 80) hX dX10_countTemplates_57 (by decide) (fun c9 => ?_) (fun c9 => ?_)
      · rw [if_pos c9] at h
        exact qj_X10_countTemplates_80 hX hc h
      · rw [if_neg c9] at h
        refine os_aload_n (r := x1) hX dX10_countTemplates_60 rfl rfl ?_
        obtain ⟨v10, e11, h⟩ := obn_e h
        refine ow_get (r := x1) hX dX10_countTemplates_61 oF_RX10_106 (ovi_e e11) ?_
        refine os_sipush (v := 207) hX dX10_countTemplates_64 (by decide) ?_
        refine os_icmp_eq (tgt := 80) hX dX10_countTemplates_67 (by decide) (fun c12 => ?_) (fun c12 => ?_)
        · rw [if_pos c12] at h
          exact qj_X10_countTemplates_80 hX hc h
        · rw [if_neg c12] at h
          refine os_aload_n (r := x1) hX dX10_countTemplates_70 rfl rfl ?_
          obtain ⟨v13, e14, h⟩ := obn_e h
          refine ow_get (r := x1) hX dX10_countTemplates_71 oF_RX10_106 (ovi_e e14) ?_
          refine os_sipush (v := 214) hX dX10_countTemplates_74 (by decide) ?_
          refine os_icmp_ne (tgt := 97) hX dX10_countTemplates_77 (by decide) (fun c15 => ?_) (fun c15 => ?_)
          · rw [if_neg c15] at h
            exact qj_X10_countTemplates_97 hX hc h
          · rw [if_pos c15] at h
            exact qj_X10_countTemplates_80 hX hc h
set_option maxHeartbeats 4000000 in
theorem qb_X10_countTemplates {κ : oKv} {n : Nat} {call : oCl} {kc : Nat → List Value → oSt → Option Value × oSt → Prop} {v : Option Value × oSt} {X : Nat → zLv → List Value → oSt → Prop} (hX : oSem RX10 cX10_countTemplates 3 0 none κ kc v X) (hc : ∀ j av s w, call j av s = some w → kc j av s w) {x0 : Option Nat} {x1 : Option Nat} {σ : oSt} (h : ob_X10_countTemplates n call κ x0 x1 σ = some v) : X 0 [some (va_rf x0), some (va_rf x1), none] [] σ := by
  rw [ob_X10_countTemplates] at h
  refine os_aload_n (r := x1) hX dX10_countTemplates_0 rfl rfl ?_
  obtain ⟨v1, e2, h⟩ := obn_e h
  refine ow_get (r := x1) hX dX10_countTemplates_1 oF_RX10_106 (ovi_e e2) ?_
  refine os_sipush (v := 219) hX dX10_countTemplates_4 (by decide) ?_
  refine os_icmp_ne (tgt := 30) hX dX10_countTemplates_7 (by decide) (fun c3 => ?_) (fun c3 => ?_)
  · rw [if_neg c3] at h
    exact qj_X10_countTemplates_30 hX hc h
  · rw [if_pos c3] at h
    refine os_aload_n (r := x0) hX dX10_countTemplates_10 rfl rfl ?_
    refine os_dup hX dX10_countTemplates_11 (ocat x0) ?_
    obtain ⟨v4, e5, h⟩ := obn_e h
    refine ow_get (r := x0) hX dX10_countTemplates_12 oF_RX10_177 (ovi_e e5) ?_
    refine os_aload_n (r := x0) hX dX10_countTemplates_15 rfl rfl ?_
    refine os_aload_n (r := x1) hX dX10_countTemplates_16 rfl rfl ?_
    obtain ⟨v6, e7, h⟩ := obn_e h
    refine ow_get (r := x1) hX dX10_countTemplates_17 oF_RX10_111 (ovr_e e7) ?_
    obtain ⟨v8, e9, h⟩ := obn_e h
    refine ow_get (r := v6) hX dX10_countTemplates_20 oF_RX10_68 (ovi_e e9) ?_
    obtain ⟨a10, e11, h⟩ := obn_e h
    obtain ⟨r14, s12, e13, h⟩ := oin_e h
    refine oc_RX10_180 (rb := x0) (a1 := .int v8) hX dX10_countTemplates_23 (by simp only [List.map_cons, List.map_nil, List.sum_cons, List.sum_nil, ocat]; exact Nat.le_of_ble_eq_true rfl) e11 (hc _ _ _ _ e13) ?_
    refine os_iadd hX dX10_countTemplates_26 ?_
    obtain ⟨s15, e16, h⟩ := obn_e h
    refine ow_put (r := x0) (x := .int (v4 + r14)) hX dX10_countTemplates_27 oF_RX10_177 (by decide) (opn_I oT_12_7) e16 ?_
    exact qj_X10_countTemplates_30 hX hc h
def ol_X10_findAll_77 (n : Nat) (call : oCl) (κ : oKv) : Nat → Option Nat → Option Nat → Int32 → oSt → oRs
  | 0, _, _, _, _ => none
  | f + 1, x0, x1, x2, σ =>
    obn (ovr (ofd σ x1 9 2)) fun v1 =>
    obn (oob σ v1 1) fun a3 =>
    oin (call 236 [va_rf v1] σ) fun r7 s5 =>
    if r7 ≤ x2 then
      obn (ovr (ofd s5 x1 9 10)) fun v9 =>
      obn (oob s5 x0 12) fun a11 =>
      ocv (call 161 [va_rf x0, va_rf v9] s5) fun s13 =>
      some (none, s13)
    else
      obn (ovr (ofd s5 x1 9 2)) fun v16 =>
      obn (oob s5 v16 1) fun a18 =>
      orn (call 234 [va_rf v16, .int x2] s5) fun r22 s20 =>
      ogd (ocs s20 r22 6) (
      obn (ovr (ofd s20 x1 9 2)) fun v24 =>
      obn (oob s20 v24 1) fun a26 =>
      orn (call 234 [va_rf v24, .int x2] s20) fun r30 s28 =>
      ogd (ocs s28 r30 6) (
      obn (ovi (ofd s28 r30 6 2)) fun v32 =>
      obn (oob s28 x0 12) fun a34 =>
      oin (call 22 [va_rf x0, .int v32] s28) fun r38 s36 =>
      obn (opf s36 r22 6 3 (.int r38)) fun s39 =>
      ol_X10_findAll_77 n call κ f x0 x1 (x2 + 1) s39))
def oj_X10_findAll_58 (n : Nat) (call : oCl) (κ : oKv) (x0 : Option Nat) (x1 : Option Nat) (σ : oSt) : oRs :=
  obn (ovr (ofd σ x1 9 10)) fun v1 =>
  obn (oob σ x0 12) fun a3 =>
  oin (call 156 [va_rf x0, va_rf v1] σ) fun r7 s5 =>
  obn (ovi (ofd s5 x0 12 8)) fun v8 =>
  if v8 < 0 then
    ol_X10_findAll_77 n call κ n x0 x1 0 s5
  else
    some (none, s5)
def ol_X10_findAll_2 (n : Nat) (call : oCl) (κ : oKv) : Nat → Option Nat → Option Nat → Int32 → oSt → oRs
  | 0, _, _, _, _ => none
  | f + 1, x0, x1, x2, σ =>
    obn (ovi (ofd σ x1 9 9)) fun v1 =>
    if v1 ≤ x2 then
      oj_X10_findAll_58 n call κ x0 x1 σ
    else
      obn (ovr (ofd σ x1 9 2)) fun v4 =>
      obn (oob σ v4 1) fun a6 =>
      oin (call 236 [va_rf v4] σ) fun r10 s8 =>
      if r10 ≤ x2 then
        oj_X10_findAll_58 n call κ x0 x1 s8
      else
        obn (ovr (ofd s8 x1 9 2)) fun v12 =>
        obn (oob s8 v12 1) fun a14 =>
        orn (call 234 [va_rf v12, .int x2] s8) fun r18 s16 =>
        ogd (ocs s16 r18 6) (
        obn (ovr (ofd s16 x1 9 2)) fun v20 =>
        obn (oob s16 v20 1) fun a22 =>
        orn (call 234 [va_rf v20, .int x2] s16) fun r26 s24 =>
        ogd (ocs s24 r26 6) (
        obn (ovi (ofd s24 r26 6 3)) fun v28 =>
        oin (call 148 [.int v28] s24) fun r32 s30 =>
        obn (opf s30 r18 6 2 (.int r32)) fun s33 =>
        ol_X10_findAll_2 n call κ f x0 x1 (x2 + 1) s33))
def ob_X10_findAll (n : Nat) (call : oCl) (κ : oKv) (x0 : Option Nat) (x1 : Option Nat) (σ : oSt) : oRs :=
  ol_X10_findAll_2 n call κ n x0 x1 0 σ
set_option maxHeartbeats 4000000 in
theorem ql_X10_findAll_77 {κ : oKv} {n : Nat} {call : oCl} {kc : Nat → List Value → oSt → Option Value × oSt → Prop} {v : Option Value × oSt} {X : Nat → zLv → List Value → oSt → Prop} (hX : oSem RX10 cX10_findAll 3 0 none κ kc v X) (hc : ∀ j av s w, call j av s = some w → kc j av s w) : ∀ (f : Nat) (x0 : Option Nat) (x1 : Option Nat) (x2 : Int32) (σ : oSt), ol_X10_findAll_77 n call κ f x0 x1 x2 σ = some v → X 77 [some (va_rf x0), some (va_rf x1), some (.int x2)] [] σ := by
  intro f
  induction f with
  | zero => intro x0 x1 x2 σ h; cases h
  | succ f hk77 =>
    intro x0 x1 x2 σ h
    rw [ol_X10_findAll_77] at h
    refine os_iload_n hX dX10_findAll_77 rfl rfl ?_
    refine os_aload_n (r := x1) hX dX10_findAll_78 rfl rfl ?_
    obtain ⟨v1, e2, h⟩ := obn_e h
    refine ow_get (r := x1) hX dX10_findAll_79 oF_RX10_46 (ovr_e e2) ?_
    obtain ⟨a3, e4, h⟩ := obn_e h
    obtain ⟨r7, s5, e6, h⟩ := oin_e h
    refine oc_RX10_50 (rb := v1)  hX dX10_findAll_82 (Nat.le_of_ble_eq_true rfl) e4 (hc _ _ _ _ e6) ?_
    refine os_icmp_ge (tgt := 126) hX dX10_findAll_85 (by decide) (fun c8 => ?_) (fun c8 => ?_)
    · rw [if_pos c8] at h
      refine os_aload_n (r := x0) hX dX10_findAll_126 rfl rfl ?_
      refine os_aload_n (r := x1) hX dX10_findAll_127 rfl rfl ?_
      obtain ⟨v9, e10, h⟩ := obn_e h
      refine ow_get (r := x1) hX dX10_findAll_128 oF_RX10_71 (ovr_e e10) ?_
      obtain ⟨a11, e12, h⟩ := obn_e h
      obtain ⟨s13, e14, h⟩ := ocv_e h
      refine oc_RX10_82 (rb := x0) (a1 := va_rf v9) hX dX10_findAll_131 (Nat.le_of_ble_eq_true rfl) e12 (hc _ _ _ _ e14) ?_
      exact os_vret hX dX10_findAll_134 rfl (Option.some.inj h)
    · rw [if_neg c8] at h
      refine os_aload_n (r := x1) hX dX10_findAll_88 rfl rfl ?_
      obtain ⟨v16, e17, h⟩ := obn_e h
      refine ow_get (r := x1) hX dX10_findAll_89 oF_RX10_46 (ovr_e e17) ?_
      refine os_iload_n hX dX10_findAll_92 rfl rfl ?_
      obtain ⟨a18, e19, h⟩ := obn_e h
      obtain ⟨r22, s20, e21, h⟩ := orn_e h
      refine oc_RX10_56 (rb := v16) (a1 := .int x2) hX dX10_findAll_93 (Nat.le_of_ble_eq_true rfl) e19 (hc _ _ _ _ e21) ?_
      obtain ⟨b23, h⟩ := ogd_e h
      refine ow_cs (r := r22) hX dX10_findAll_96 oK_RX10_60 b23 ?_
      refine os_aload_n (r := x0) hX dX10_findAll_99 rfl rfl ?_
      refine os_aload_n (r := x1) hX dX10_findAll_100 rfl rfl ?_
      obtain ⟨v24, e25, h⟩ := obn_e h
      refine ow_get (r := x1) hX dX10_findAll_101 oF_RX10_46 (ovr_e e25) ?_
      refine os_iload_n hX dX10_findAll_104 rfl rfl ?_
      obtain ⟨a26, e27, h⟩ := obn_e h
      obtain ⟨r30, s28, e29, h⟩ := orn_e h
      refine oc_RX10_56 (rb := v24) (a1 := .int x2) hX dX10_findAll_105 (by simp only [List.map_cons, List.map_nil, List.sum_cons, List.sum_nil, ocat]; exact Nat.le_of_ble_eq_true rfl) e27 (hc _ _ _ _ e29) ?_
      obtain ⟨b31, h⟩ := ogd_e h
      refine ow_cs (r := r30) hX dX10_findAll_108 oK_RX10_60 b31 ?_
      obtain ⟨v32, e33, h⟩ := obn_e h
      refine ow_get (r := r30) hX dX10_findAll_111 oF_RX10_68 (ovi_e e33) ?_
      obtain ⟨a34, e35, h⟩ := obn_e h
      obtain ⟨r38, s36, e37, h⟩ := oin_e h
      refine oc_RX10_79 (rb := x0) (a1 := .int v32) hX dX10_findAll_114 (by simp only [List.map_cons, List.map_nil, List.sum_cons, List.sum_nil, ocat]; exact Nat.le_of_ble_eq_true rfl) e35 (hc _ _ _ _ e37) ?_
      obtain ⟨s39, e40, h⟩ := obn_e h
      refine ow_put (r := r22) (x := .int r38) hX dX10_findAll_117 oF_RX10_62 (by decide) (opn_I oT_6_3) e40 ?_
      refine os_iinc (v := x2 + 1) hX dX10_findAll_120 rfl rfl (by decide) (ozlo (i := 1) (r := x1) rfl) ?_
      dsimp only [List.set]
      refine os_goto (tgt := 77) hX dX10_findAll_123 (by decide) ?_
      exact hk77 _ _ _ _ h
set_option maxHeartbeats 4000000 in
theorem qj_X10_findAll_58 {κ : oKv} {n : Nat} {call : oCl} {kc : Nat → List Value → oSt → Option Value × oSt → Prop} {v : Option Value × oSt} {X : Nat → zLv → List Value → oSt → Prop} (hX : oSem RX10 cX10_findAll 3 0 none κ kc v X) (hc : ∀ j av s w, call j av s = some w → kc j av s w) {x0 : Option Nat} {x1 : Option Nat} {σ : oSt} (h : oj_X10_findAll_58 n call κ x0 x1 σ = some v) : X 58 [some (va_rf x0), some (va_rf x1), none] [] σ := by
  rw [oj_X10_findAll_58] at h
  refine os_aload_n (r := x0) hX dX10_findAll_58 rfl rfl ?_
  refine os_aload_n (r := x1) hX dX10_findAll_59 rfl rfl ?_
  obtain ⟨v1, e2, h⟩ := obn_e h
  refine ow_get (r := x1) hX dX10_findAll_60 oF_RX10_71 (ovr_e e2) ?_
  obtain ⟨a3, e4, h⟩ := obn_e h
  obtain ⟨r7, s5, e6, h⟩ := oin_e h
  refine oc_RX10_75 (rb := x0) (a1 := va_rf v1) hX dX10_findAll_63 (Nat.le_of_ble_eq_true rfl) e4 (hc _ _ _ _ e6) ?_
  refine os_pop hX dX10_findAll_66 rfl ?_
  refine os_aload_n (r := x0) hX dX10_findAll_67 rfl rfl ?_
  obtain ⟨v8, e9, h⟩ := obn_e h
  refine ow_get (r := x0) hX dX10_findAll_68 oF_RX10_9 (ovi_e e9) ?_
  refine os_if_lt (tgt := 75) hX dX10_findAll_71 (by decide) (fun c10 => ?_) (fun c10 => ?_)
  · rw [if_pos c10] at h
    refine os_iconst (v := 0) hX dX10_findAll_75 (by decide) ?_
    refine os_istore_n hX dX10_findAll_76 rfl (by decide) (ozlo (i := 1) (r := x1) rfl) ?_
    dsimp only [List.set]
    exact ql_X10_findAll_77 hX hc n _ _ _ _ h
  · rw [if_neg c10] at h
    exact os_vret hX dX10_findAll_74 rfl (Option.some.inj h)
set_option maxHeartbeats 4000000 in
theorem ql_X10_findAll_2 {κ : oKv} {n : Nat} {call : oCl} {kc : Nat → List Value → oSt → Option Value × oSt → Prop} {v : Option Value × oSt} {X : Nat → zLv → List Value → oSt → Prop} (hX : oSem RX10 cX10_findAll 3 0 none κ kc v X) (hc : ∀ j av s w, call j av s = some w → kc j av s w) : ∀ (f : Nat) (x0 : Option Nat) (x1 : Option Nat) (x2 : Int32) (σ : oSt), ol_X10_findAll_2 n call κ f x0 x1 x2 σ = some v → X 2 [some (va_rf x0), some (va_rf x1), some (.int x2)] [] σ := by
  intro f
  induction f with
  | zero => intro x0 x1 x2 σ h; cases h
  | succ f hk2 =>
    intro x0 x1 x2 σ h
    rw [ol_X10_findAll_2] at h
    refine os_iload_n hX dX10_findAll_2 rfl rfl ?_
    refine os_aload_n (r := x1) hX dX10_findAll_3 rfl rfl ?_
    obtain ⟨v1, e2, h⟩ := obn_e h
    refine ow_get (r := x1) hX dX10_findAll_4 oF_RX10_41 (ovi_e e2) ?_
    refine os_icmp_ge (tgt := 58) hX dX10_findAll_7 (by decide) (fun c3 => ?_) (fun c3 => ?_)
    · rw [if_pos c3] at h
      refine os_weak hX (lw := [some (va_rf x0), some (va_rf x1), none]) ⟨rfl, rfl, trivial⟩ ?_
      exact qj_X10_findAll_58 hX hc h
    · rw [if_neg c3] at h
      refine os_iload_n hX dX10_findAll_10 rfl rfl ?_
      refine os_aload_n (r := x1) hX dX10_findAll_11 rfl rfl ?_
      obtain ⟨v4, e5, h⟩ := obn_e h
      refine ow_get (r := x1) hX dX10_findAll_12 oF_RX10_46 (ovr_e e5) ?_
      obtain ⟨a6, e7, h⟩ := obn_e h
      obtain ⟨r10, s8, e9, h⟩ := oin_e h
      refine oc_RX10_50 (rb := v4)  hX dX10_findAll_15 (Nat.le_of_ble_eq_true rfl) e7 (hc _ _ _ _ e9) ?_
      refine os_icmp_ge (tgt := 58) hX dX10_findAll_18 (by decide) (fun c11 => ?_) (fun c11 => ?_)
      · rw [if_pos c11] at h
        refine os_weak hX (lw := [some (va_rf x0), some (va_rf x1), none]) ⟨rfl, rfl, trivial⟩ ?_
        exact qj_X10_findAll_58 hX hc h
      · rw [if_neg c11] at h
        refine os_aload_n (r := x1) hX dX10_findAll_21 rfl rfl ?_
        obtain ⟨v12, e13, h⟩ := obn_e h
        refine ow_get (r := x1) hX dX10_findAll_22 oF_RX10_46 (ovr_e e13) ?_
        refine os_iload_n hX dX10_findAll_25 rfl rfl ?_
        obtain ⟨a14, e15, h⟩ := obn_e h
        obtain ⟨r18, s16, e17, h⟩ := orn_e h
        refine oc_RX10_56 (rb := v12) (a1 := .int x2) hX dX10_findAll_26 (Nat.le_of_ble_eq_true rfl) e15 (hc _ _ _ _ e17) ?_
        obtain ⟨b19, h⟩ := ogd_e h
        refine ow_cs (r := r18) hX dX10_findAll_29 oK_RX10_60 b19 ?_
        refine os_aload_n (r := x1) hX dX10_findAll_32 rfl rfl ?_
        obtain ⟨v20, e21, h⟩ := obn_e h
        refine ow_get (r := x1) hX dX10_findAll_33 oF_RX10_46 (ovr_e e21) ?_
        refine os_iload_n hX dX10_findAll_36 rfl rfl ?_
        obtain ⟨a22, e23, h⟩ := obn_e h
        obtain ⟨r26, s24, e25, h⟩ := orn_e h
        refine oc_RX10_56 (rb := v20) (a1 := .int x2) hX dX10_findAll_37 (by simp only [List.map_cons, List.map_nil, List.sum_cons, List.sum_nil, ocat]; exact Nat.le_of_ble_eq_true rfl) e23 (hc _ _ _ _ e25) ?_
        obtain ⟨b27, h⟩ := ogd_e h
        refine ow_cs (r := r26) hX dX10_findAll_40 oK_RX10_60 b27 ?_
        obtain ⟨v28, e29, h⟩ := obn_e h
        refine ow_get (r := r26) hX dX10_findAll_43 oF_RX10_62 (ovi_e e29) ?_
        obtain ⟨r32, s30, e31, h⟩ := oin_e h
        refine oc_RX10_65 (a1 := .int v28) hX dX10_findAll_46 (by simp only [List.map_cons, List.map_nil, List.sum_cons, List.sum_nil, ocat]; exact Nat.le_of_ble_eq_true rfl) (hc _ _ _ _ e31) ?_
        obtain ⟨s33, e34, h⟩ := obn_e h
        refine ow_put (r := r18) (x := .int r32) hX dX10_findAll_49 oF_RX10_68 (by decide) (opn_I oT_6_2) e34 ?_
        refine os_iinc (v := x2 + 1) hX dX10_findAll_52 rfl rfl (by decide) (ozlo (i := 1) (r := x1) rfl) ?_
        dsimp only [List.set]
        refine os_goto (tgt := 2) hX dX10_findAll_55 (by decide) ?_
        exact hk2 _ _ _ _ h
set_option maxHeartbeats 4000000 in
theorem qb_X10_findAll {κ : oKv} {n : Nat} {call : oCl} {kc : Nat → List Value → oSt → Option Value × oSt → Prop} {v : Option Value × oSt} {X : Nat → zLv → List Value → oSt → Prop} (hX : oSem RX10 cX10_findAll 3 0 none κ kc v X) (hc : ∀ j av s w, call j av s = some w → kc j av s w) {x0 : Option Nat} {x1 : Option Nat} {σ : oSt} (h : ob_X10_findAll n call κ x0 x1 σ = some v) : X 0 [some (va_rf x0), some (va_rf x1), none] [] σ := by
  rw [ob_X10_findAll] at h
  refine os_iconst (v := 0) hX dX10_findAll_0 (by decide) ?_
  refine os_istore_n hX dX10_findAll_1 rfl (by decide) (ozlo (i := 1) (r := x1) rfl) ?_
  dsimp only [List.set]
  exact ql_X10_findAll_2 hX hc n _ _ _ _ h
def ob_X11_isLetter (n : Nat) (call : oCl) (κ : oKv) (x0 : Int32) (σ : oSt) : oRs :=
  if x0 < 97 then
    some (some (.int 0), σ)
  else
    if 122 < x0 then
      some (some (.int 0), σ)
    else
      some (some (.int 1), σ)
set_option maxHeartbeats 4000000 in
theorem qb_X11_isLetter {κ : oKv} {n : Nat} {call : oCl} {kc : Nat → List Value → oSt → Option Value × oSt → Prop} {v : Option Value × oSt} {X : Nat → zLv → List Value → oSt → Prop} (hX : oSem RX11 cX11_isLetter 1 1 (some .boolean) κ kc v X) (hc : ∀ j av s w, call j av s = some w → kc j av s w) {x0 : Int32} {σ : oSt} (h : ob_X11_isLetter n call κ x0 σ = some v) : X 0 [some (.int x0)] [] σ := by
  rw [ob_X11_isLetter] at h
  refine os_iload_n hX dX11_isLetter_0 rfl rfl ?_
  refine os_bipush (v := 97) hX dX11_isLetter_1 (by decide) ?_
  refine os_icmp_lt (tgt := 16) hX dX11_isLetter_3 (by decide) (fun c1 => ?_) (fun c1 => ?_)
  · rw [if_pos c1] at h
    refine os_iconst (v := 0) hX dX11_isLetter_16 (by decide) ?_
    exact os_nret (ty := .boolean) hX dX11_isLetter_17 rfl rfl (by decide) (Option.some.inj h)
  · rw [if_neg c1] at h
    refine os_iload_n hX dX11_isLetter_6 rfl rfl ?_
    refine os_bipush (v := 122) hX dX11_isLetter_7 (by decide) ?_
    refine os_icmp_gt (tgt := 16) hX dX11_isLetter_9 (by decide) (fun c2 => ?_) (fun c2 => ?_)
    · rw [if_pos c2] at h
      refine os_iconst (v := 0) hX dX11_isLetter_16 (by decide) ?_
      exact os_nret (ty := .boolean) hX dX11_isLetter_17 rfl rfl (by decide) (Option.some.inj h)
    · rw [if_neg c2] at h
      refine os_iconst (v := 1) hX dX11_isLetter_12 (by decide) ?_
      refine os_goto (tgt := 17) hX dX11_isLetter_13 (by decide) ?_
      exact os_nret (ty := .boolean) hX dX11_isLetter_17 rfl rfl (by decide) (Option.some.inj h)
def ob_X11_isDigit (n : Nat) (call : oCl) (κ : oKv) (x0 : Int32) (σ : oSt) : oRs :=
  if x0 < 48 then
    some (some (.int 0), σ)
  else
    if 57 < x0 then
      some (some (.int 0), σ)
    else
      some (some (.int 1), σ)
set_option maxHeartbeats 4000000 in
theorem qb_X11_isDigit {κ : oKv} {n : Nat} {call : oCl} {kc : Nat → List Value → oSt → Option Value × oSt → Prop} {v : Option Value × oSt} {X : Nat → zLv → List Value → oSt → Prop} (hX : oSem RX11 cX11_isDigit 1 1 (some .boolean) κ kc v X) (hc : ∀ j av s w, call j av s = some w → kc j av s w) {x0 : Int32} {σ : oSt} (h : ob_X11_isDigit n call κ x0 σ = some v) : X 0 [some (.int x0)] [] σ := by
  rw [ob_X11_isDigit] at h
  refine os_iload_n hX dX11_isDigit_0 rfl rfl ?_
  refine os_bipush (v := 48) hX dX11_isDigit_1 (by decide) ?_
  refine os_icmp_lt (tgt := 16) hX dX11_isDigit_3 (by decide) (fun c1 => ?_) (fun c1 => ?_)
  · rw [if_pos c1] at h
    refine os_iconst (v := 0) hX dX11_isDigit_16 (by decide) ?_
    exact os_nret (ty := .boolean) hX dX11_isDigit_17 rfl rfl (by decide) (Option.some.inj h)
  · rw [if_neg c1] at h
    refine os_iload_n hX dX11_isDigit_6 rfl rfl ?_
    refine os_bipush (v := 57) hX dX11_isDigit_7 (by decide) ?_
    refine os_icmp_gt (tgt := 16) hX dX11_isDigit_9 (by decide) (fun c2 => ?_) (fun c2 => ?_)
    · rw [if_pos c2] at h
      refine os_iconst (v := 0) hX dX11_isDigit_16 (by decide) ?_
      exact os_nret (ty := .boolean) hX dX11_isDigit_17 rfl rfl (by decide) (Option.some.inj h)
    · rw [if_neg c2] at h
      refine os_iconst (v := 1) hX dX11_isDigit_12 (by decide) ?_
      refine os_goto (tgt := 17) hX dX11_isDigit_13 (by decide) ?_
      exact os_nret (ty := .boolean) hX dX11_isDigit_17 rfl rfl (by decide) (Option.some.inj h)
def oj_X11_continues_24 (n : Nat) (call : oCl) (κ : oKv) (σ : oSt) : oRs :=
  some (some (.int 1), σ)
def ob_X11_continues (n : Nat) (call : oCl) (κ : oKv) (x0 : Int32) (x1 : Int32) (σ : oSt) : oRs :=
  oin (call 164 [.int x0] σ) fun r3 s1 =>
  if r3 = 0 then
    if x1 = 0 then
      some (some (.int 0), s1)
    else
      oin (call 163 [.int x0] s1) fun r8 s6 =>
      if r8 = 0 then
        if x0 = 95 then
          oj_X11_continues_24 n call κ s6
        else
          some (some (.int 0), s6)
      else
        oj_X11_continues_24 n call κ s6
  else
    oj_X11_continues_24 n call κ s1
set_option maxHeartbeats 4000000 in
theorem qj_X11_continues_24 {κ : oKv} {n : Nat} {call : oCl} {kc : Nat → List Value → oSt → Option Value × oSt → Prop} {v : Option Value × oSt} {X : Nat → zLv → List Value → oSt → Prop} (hX : oSem RX11 cX11_continues 2 1 (some .boolean) κ kc v X) (hc : ∀ j av s w, call j av s = some w → kc j av s w) {σ : oSt} (h : oj_X11_continues_24 n call κ σ = some v) : X 24 [none, none] [] σ := by
  rw [oj_X11_continues_24] at h
  refine os_iconst (v := 1) hX dX11_continues_24 (by decide) ?_
  refine os_goto (tgt := 29) hX dX11_continues_25 (by decide) ?_
  exact os_nret (ty := .boolean) hX dX11_continues_29 rfl rfl (by decide) (Option.some.inj h)
set_option maxHeartbeats 4000000 in
theorem qb_X11_continues {κ : oKv} {n : Nat} {call : oCl} {kc : Nat → List Value → oSt → Option Value × oSt → Prop} {v : Option Value × oSt} {X : Nat → zLv → List Value → oSt → Prop} (hX : oSem RX11 cX11_continues 2 1 (some .boolean) κ kc v X) (hc : ∀ j av s w, call j av s = some w → kc j av s w) {x0 : Int32} {x1 : Int32} {σ : oSt} (h : ob_X11_continues n call κ x0 x1 σ = some v) : X 0 [some (.int x0), some (.int x1)] [] σ := by
  rw [ob_X11_continues] at h
  refine os_iload_n hX dX11_continues_0 rfl rfl ?_
  obtain ⟨r3, s1, e2, h⟩ := oin_e h
  refine oc_RX11_61 (a1 := .int x0) hX dX11_continues_1 (Nat.le_of_ble_eq_true rfl) (hc _ _ _ _ e2) ?_
  refine os_if_ne (tgt := 24) hX dX11_continues_4 (by decide) (fun c4 => ?_) (fun c4 => ?_)
  · rw [if_neg c4] at h
    refine os_weak hX (lw := [none, none]) trivial ?_
    exact qj_X11_continues_24 hX hc h
  · rw [if_pos c4] at h
    refine os_iload_n hX dX11_continues_7 rfl rfl ?_
    refine os_if_eq (tgt := 28) hX dX11_continues_8 (by decide) (fun c5 => ?_) (fun c5 => ?_)
    · rw [if_pos c5] at h
      refine os_iconst (v := 0) hX dX11_continues_28 (by decide) ?_
      exact os_nret (ty := .boolean) hX dX11_continues_29 rfl rfl (by decide) (Option.some.inj h)
    · rw [if_neg c5] at h
      refine os_iload_n hX dX11_continues_11 rfl rfl ?_
      obtain ⟨r8, s6, e7, h⟩ := oin_e h
      refine oc_RX11_53 (a1 := .int x0) hX dX11_continues_12 (Nat.le_of_ble_eq_true rfl) (hc _ _ _ _ e7) ?_
      refine os_if_ne (tgt := 24) hX dX11_continues_15 (by decide) (fun c9 => ?_) (fun c9 => ?_)
      · rw [if_neg c9] at h
        refine os_weak hX (lw := [none, none]) trivial ?_
        exact qj_X11_continues_24 hX hc h
      · rw [if_pos c9] at h
        refine os_iload_n hX dX11_continues_18 rfl rfl ?_
        refine os_bipush (v := 95) hX dX11_continues_19 (by decide) ?_
        refine os_icmp_ne (tgt := 28) hX dX11_continues_21 (by decide) (fun c10 => ?_) (fun c10 => ?_)
        · rw [if_neg c10] at h
          refine os_iconst (v := 0) hX dX11_continues_28 (by decide) ?_
          exact os_nret (ty := .boolean) hX dX11_continues_29 rfl rfl (by decide) (Option.some.inj h)
        · rw [if_pos c10] at h
          refine os_weak hX (lw := [none, none]) trivial ?_
          exact qj_X11_continues_24 hX hc h
theorem olk_X11_doubleSign_34 {x : Int32} (h0 : ¬ x = 38) (h1 : ¬ x = 45) (h2 : ¬ x = 60) (h3 : ¬ x = 62) (h4 : ¬ x = 124) : Op.lookupswitch.offset (#[(38, 78), (45, 106), (60, 50), (62, 64), (124, 92)] : Array (Int × Int)).toList 120 x.toInt = 120 := by
  have a0 := z_ne h0 (k := 38) (by decide)
  have a1 := z_ne h1 (k := 45) (by decide)
  have a2 := z_ne h2 (k := 60) (by decide)
  have a3 := z_ne h3 (k := 62) (by decide)
  have a4 := z_ne h4 (k := 124) (by decide)
  simp [Op.lookupswitch.offset, a0, Ne.symm a0, a1, Ne.symm a1, a2, Ne.symm a2, a3, Ne.symm a3, a4, Ne.symm a4]
def ob_X11_doubleSign (n : Nat) (call : oCl) (κ : oKv) (x0 : Option Nat) (x1 : Int32) (σ : oSt) : oRs :=
  obn (ovr (ofd σ x0 13 0)) fun v1 =>
  obn (oSt' κ σ v1) fun a3 =>
  oin (call 207 [va_rf v1] σ) fun r7 s5 =>
  if (x1 + 1) < r7 then
    obn (ovr (ofd s5 x0 13 0)) fun v9 =>
    obn (oSt' κ s5 v9) fun a11 =>
    oin (call 201 [va_rf v9, .int (x1 + 1)] s5) fun r15 s13 =>
    obn (ovr (ofd s13 x0 13 0)) fun v16 =>
    obn (oSt' κ s13 v16) fun a18 =>
    oin (call 201 [va_rf v16, .int x1] s13) fun r22 s20 =>
    if r22 = 38 then
      if r15 = 38 then
        some (some (.int 302), s20)
      else
        some (some (.int 0), s20)
    else
    if r22 = 45 then
      if r15 = 62 then
        some (some (.int 304), s20)
      else
        some (some (.int 0), s20)
    else
    if r22 = 60 then
      if r15 = 61 then
        some (some (.int 300), s20)
      else
        some (some (.int 0), s20)
    else
    if r22 = 62 then
      if r15 = 61 then
        some (some (.int 301), s20)
      else
        some (some (.int 0), s20)
    else
    if r22 = 124 then
      if r15 = 124 then
        some (some (.int 303), s20)
      else
        some (some (.int 0), s20)
    else
    some (some (.int 0), s20)
  else
    some (some (.int 0), s5)
set_option maxHeartbeats 4000000 in
theorem qb_X11_doubleSign {κ : oKv} {n : Nat} {call : oCl} {kc : Nat → List Value → oSt → Option Value × oSt → Prop} {v : Option Value × oSt} {X : Nat → zLv → List Value → oSt → Prop} (hX : oSem RX11 cX11_doubleSign 3 0 (some .int) κ kc v X) (hc : ∀ j av s w, call j av s = some w → kc j av s w) {x0 : Option Nat} {x1 : Int32} {σ : oSt} (h : ob_X11_doubleSign n call κ x0 x1 σ = some v) : X 0 [some (va_rf x0), some (.int x1), none] [] σ := by
  rw [ob_X11_doubleSign] at h
  refine os_iload_n hX dX11_doubleSign_0 rfl rfl ?_
  refine os_iconst (v := 1) hX dX11_doubleSign_1 (by decide) ?_
  refine os_iadd hX dX11_doubleSign_2 ?_
  refine os_aload_n (r := x0) hX dX11_doubleSign_3 rfl rfl ?_
  obtain ⟨v1, e2, h⟩ := obn_e h
  refine ow_get (r := x0) hX dX11_doubleSign_4 oF_RX11_15 (ovr_e e2) ?_
  obtain ⟨a3, e4, h⟩ := obn_e h
  obtain ⟨r7, s5, e6, h⟩ := oin_e h
  refine oc_RX11_19 (rb := v1)  hX dX11_doubleSign_7 (Nat.le_of_ble_eq_true rfl) e4 (hc _ _ _ _ e6) ?_
  refine os_icmp_lt (tgt := 15) hX dX11_doubleSign_10 (by decide) (fun c8 => ?_) (fun c8 => ?_)
  · rw [if_pos c8] at h
    refine os_aload_n (r := x0) hX dX11_doubleSign_15 rfl rfl ?_
    obtain ⟨v9, e10, h⟩ := obn_e h
    refine ow_get (r := x0) hX dX11_doubleSign_16 oF_RX11_15 (ovr_e e10) ?_
    refine os_iload_n hX dX11_doubleSign_19 rfl rfl ?_
    refine os_iconst (v := 1) hX dX11_doubleSign_20 (by decide) ?_
    refine os_iadd hX dX11_doubleSign_21 ?_
    obtain ⟨a11, e12, h⟩ := obn_e h
    obtain ⟨r15, s13, e14, h⟩ := oin_e h
    refine oc_RX11_38 (rb := v9) (a1 := .int (x1 + 1)) hX dX11_doubleSign_22 (Nat.le_of_ble_eq_true rfl) e12 (hc _ _ _ _ e14) ?_
    refine os_istore_n hX dX11_doubleSign_25 rfl (by decide) rfl ?_
    dsimp only [List.set]
    refine os_aload_n (r := x0) hX dX11_doubleSign_26 rfl rfl ?_
    obtain ⟨v16, e17, h⟩ := obn_e h
    refine ow_get (r := x0) hX dX11_doubleSign_27 oF_RX11_15 (ovr_e e17) ?_
    refine os_iload_n hX dX11_doubleSign_30 rfl rfl ?_
    obtain ⟨a18, e19, h⟩ := obn_e h
    obtain ⟨r22, s20, e21, h⟩ := oin_e h
    refine oc_RX11_38 (rb := v16) (a1 := .int x1) hX dX11_doubleSign_31 (Nat.le_of_ble_eq_true rfl) e19 (hc _ _ _ _ e21) ?_
    by_cases c23 : r22 = 38
    · rw [if_pos c23] at h
      refine os_lookup (tgt := 112) (off := 78) hX dX11_doubleSign_34 (by decide) (by rw [c23]; rfl) (by decide) ?_
      refine os_iload_n hX dX11_doubleSign_112 rfl rfl ?_
      refine os_bipush (v := 38) hX dX11_doubleSign_113 (by decide) ?_
      refine os_icmp_ne (tgt := 124) hX dX11_doubleSign_115 (by decide) (fun c24 => ?_) (fun c24 => ?_)
      · rw [if_neg c24] at h
        refine os_iconst (v := 0) hX dX11_doubleSign_124 (by decide) ?_
        exact os_iret hX dX11_doubleSign_125 rfl (Option.some.inj h)
      · rw [if_pos c24] at h
        refine os_sipush (v := 302) hX dX11_doubleSign_118 (by decide) ?_
        refine os_goto (tgt := 125) hX dX11_doubleSign_121 (by decide) ?_
        exact os_iret hX dX11_doubleSign_125 rfl (Option.some.inj h)
    rw [if_neg c23] at h
    by_cases c25 : r22 = 45
    · rw [if_pos c25] at h
      refine os_lookup (tgt := 140) (off := 106) hX dX11_doubleSign_34 (by decide) (by rw [c25]; rfl) (by decide) ?_
      refine os_iload_n hX dX11_doubleSign_140 rfl rfl ?_
      refine os_bipush (v := 62) hX dX11_doubleSign_141 (by decide) ?_
      refine os_icmp_ne (tgt := 152) hX dX11_doubleSign_143 (by decide) (fun c26 => ?_) (fun c26 => ?_)
      · rw [if_neg c26] at h
        refine os_iconst (v := 0) hX dX11_doubleSign_152 (by decide) ?_
        exact os_iret hX dX11_doubleSign_153 rfl (Option.some.inj h)
      · rw [if_pos c26] at h
        refine os_sipush (v := 304) hX dX11_doubleSign_146 (by decide) ?_
        refine os_goto (tgt := 153) hX dX11_doubleSign_149 (by decide) ?_
        exact os_iret hX dX11_doubleSign_153 rfl (Option.some.inj h)
    rw [if_neg c25] at h
    by_cases c27 : r22 = 60
    · rw [if_pos c27] at h
      refine os_lookup (tgt := 84) (off := 50) hX dX11_doubleSign_34 (by decide) (by rw [c27]; rfl) (by decide) ?_
      refine os_iload_n hX dX11_doubleSign_84 rfl rfl ?_
      refine os_bipush (v := 61) hX dX11_doubleSign_85 (by decide) ?_
      refine os_icmp_ne (tgt := 96) hX dX11_doubleSign_87 (by decide) (fun c28 => ?_) (fun c28 => ?_)
      · rw [if_neg c28] at h
        refine os_iconst (v := 0) hX dX11_doubleSign_96 (by decide) ?_
        exact os_iret hX dX11_doubleSign_97 rfl (Option.some.inj h)
      · rw [if_pos c28] at h
        refine os_sipush (v := 300) hX dX11_doubleSign_90 (by decide) ?_
        refine os_goto (tgt := 97) hX dX11_doubleSign_93 (by decide) ?_
        exact os_iret hX dX11_doubleSign_97 rfl (Option.some.inj h)
    rw [if_neg c27] at h
    by_cases c29 : r22 = 62
    · rw [if_pos c29] at h
      refine os_lookup (tgt := 98) (off := 64) hX dX11_doubleSign_34 (by decide) (by rw [c29]; rfl) (by decide) ?_
      refine os_iload_n hX dX11_doubleSign_98 rfl rfl ?_
      refine os_bipush (v := 61) hX dX11_doubleSign_99 (by decide) ?_
      refine os_icmp_ne (tgt := 110) hX dX11_doubleSign_101 (by decide) (fun c30 => ?_) (fun c30 => ?_)
      · rw [if_neg c30] at h
        refine os_iconst (v := 0) hX dX11_doubleSign_110 (by decide) ?_
        exact os_iret hX dX11_doubleSign_111 rfl (Option.some.inj h)
      · rw [if_pos c30] at h
        refine os_sipush (v := 301) hX dX11_doubleSign_104 (by decide) ?_
        refine os_goto (tgt := 111) hX dX11_doubleSign_107 (by decide) ?_
        exact os_iret hX dX11_doubleSign_111 rfl (Option.some.inj h)
    rw [if_neg c29] at h
    by_cases c31 : r22 = 124
    · rw [if_pos c31] at h
      refine os_lookup (tgt := 126) (off := 92) hX dX11_doubleSign_34 (by decide) (by rw [c31]; rfl) (by decide) ?_
      refine os_iload_n hX dX11_doubleSign_126 rfl rfl ?_
      refine os_bipush (v := 124) hX dX11_doubleSign_127 (by decide) ?_
      refine os_icmp_ne (tgt := 138) hX dX11_doubleSign_129 (by decide) (fun c32 => ?_) (fun c32 => ?_)
      · rw [if_neg c32] at h
        refine os_iconst (v := 0) hX dX11_doubleSign_138 (by decide) ?_
        exact os_iret hX dX11_doubleSign_139 rfl (Option.some.inj h)
      · rw [if_pos c32] at h
        refine os_sipush (v := 303) hX dX11_doubleSign_132 (by decide) ?_
        refine os_goto (tgt := 139) hX dX11_doubleSign_135 (by decide) ?_
        exact os_iret hX dX11_doubleSign_139 rfl (Option.some.inj h)
    rw [if_neg c31] at h
    refine os_lookup (tgt := 154) (off := 120) hX dX11_doubleSign_34 (by decide) (olk_X11_doubleSign_34 c23 c25 c27 c29 c31) (by decide) ?_
    refine os_iconst (v := 0) hX dX11_doubleSign_154 (by decide) ?_
    exact os_iret hX dX11_doubleSign_155 rfl (Option.some.inj h)
  · rw [if_neg c8] at h
    refine os_iconst (v := 0) hX dX11_doubleSign_13 (by decide) ?_
    exact os_iret hX dX11_doubleSign_14 rfl (Option.some.inj h)
