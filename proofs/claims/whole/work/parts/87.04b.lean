/-! the methods of the class as plain functions (59 to 78) -/
def oj_X1_conclude_81 (n : Nat) (call : oCl) (κ : oKv) (k25 : Option Nat → Option Nat → Int32 → Int32 → oSt → oRs) (x0 : Option Nat) (x1 : Option Nat) (x2 : Int32) (x3 : Int32) (σ : oSt) : oRs :=
  k25 x0 x1 x2 (x3 + 1) σ
def ol_X1_conclude_25 (n : Nat) (call : oCl) (κ : oKv) : Nat → Option Nat → Option Nat → Int32 → Int32 → oSt → oRs
  | 0, _, _, _, _, _ => none
  | f + 1, x0, x1, x2, x3, σ =>
    obn (ovi (ofd σ x1 4 7)) fun v1 =>
    if v1 ≤ x3 then
      obn (opf σ x1 4 7 (.int x2)) fun s4 =>
      some (none, s4)
    else
      obn (ovr (ofd σ x0 3 8)) fun v6 =>
      obn (oob σ v6 4) fun a8 =>
      ocv (call 46 [va_rf v6, .int x3] σ) fun s10 =>
      obn (ovr (ofd s10 x0 3 8)) fun v13 =>
      obn (oob s10 x0 3) fun a15 =>
      oin (call 49 [va_rf x0, va_rf v13, .int 0, .int 1] s10) fun r19 s17 =>
      if r19 = 0 then
        oj_X1_conclude_81 n call κ (ol_X1_conclude_25 n call κ f) x0 x1 x2 x3 s17
      else
        obn (ovr (ofd s17 x1 4 5)) fun v21 =>
        obn (ovr (ofd s17 x1 4 5)) fun v23 =>
        obn (oai s17 v23 .int x3) fun v25 =>
        obn (osi s17 v21 .int x2 v25) fun s27 =>
        obn (ovr (ofd s27 x1 4 6)) fun v29 =>
        obn (ovr (ofd s27 x1 4 6)) fun v31 =>
        obn (oar s27 v31 x3) fun v33 =>
        obn (osr s27 v29 x2 v33) fun s35 =>
        oj_X1_conclude_81 n call κ (ol_X1_conclude_25 n call κ f) x0 x1 (x2 + 1) x3 s35
def ob_X1_conclude (n : Nat) (call : oCl) (κ : oKv) (x0 : Option Nat) (σ : oSt) : oRs :=
  obn (ovr (ofd σ x0 3 8)) fun v1 =>
  if v1 = none then
    obn (opf σ x0 3 9 (.int 1)) fun s8 =>
    some (none, s8)
  else
    obn (ovr (ofd σ x0 3 8)) fun v4 =>
    obn (ovr (ofd σ v4 4 1)) fun v6 =>
    ol_X1_conclude_25 n call κ n x0 v6 0 0 σ
set_option maxHeartbeats 4000000 in
theorem qj_X1_conclude_81 {κ : oKv} {n : Nat} {call : oCl} {kc : Nat → List Value → oSt → Option Value × oSt → Prop} {v : Option Value × oSt} {X : Nat → zLv → List Value → oSt → Prop} (hX : oSem RX1 cX1_conclude 4 0 none κ kc v X) (hc : ∀ j av s w, call j av s = some w → kc j av s w) {k25 : Option Nat → Option Nat → Int32 → Int32 → oSt → oRs} (hk25 : ∀ (x0 : Option Nat) (x1 : Option Nat) (x2 : Int32) (x3 : Int32) (s : oSt), k25 x0 x1 x2 x3 s = some v → X 25 [some (va_rf x0), some (va_rf x1), some (.int x2), some (.int x3)] [] s) {x0 : Option Nat} {x1 : Option Nat} {x2 : Int32} {x3 : Int32} {σ : oSt} (h : oj_X1_conclude_81 n call κ k25 x0 x1 x2 x3 σ = some v) : X 81 [some (va_rf x0), some (va_rf x1), some (.int x2), some (.int x3)] [] σ := by
  rw [oj_X1_conclude_81] at h
  refine os_iinc (v := x3 + 1) hX dX1_conclude_81 rfl rfl (by decide) rfl ?_
  dsimp only [List.set]
  refine os_goto (tgt := 25) hX dX1_conclude_84 (by decide) ?_
  exact hk25 _ _ _ _ _ h
set_option maxHeartbeats 4000000 in
theorem ql_X1_conclude_25 {κ : oKv} {n : Nat} {call : oCl} {kc : Nat → List Value → oSt → Option Value × oSt → Prop} {v : Option Value × oSt} {X : Nat → zLv → List Value → oSt → Prop} (hX : oSem RX1 cX1_conclude 4 0 none κ kc v X) (hc : ∀ j av s w, call j av s = some w → kc j av s w) : ∀ (f : Nat) (x0 : Option Nat) (x1 : Option Nat) (x2 : Int32) (x3 : Int32) (σ : oSt), ol_X1_conclude_25 n call κ f x0 x1 x2 x3 σ = some v → X 25 [some (va_rf x0), some (va_rf x1), some (.int x2), some (.int x3)] [] σ := by
  intro f
  induction f with
  | zero => intro x0 x1 x2 x3 σ h; cases h
  | succ f hk25 =>
    intro x0 x1 x2 x3 σ h
    rw [ol_X1_conclude_25] at h
    refine os_iload_n hX dX1_conclude_25 rfl rfl ?_
    refine os_aload_n (r := x1) hX dX1_conclude_26 rfl rfl ?_
    obtain ⟨v1, e2, h⟩ := obn_e h
    refine ow_get (r := x1) hX dX1_conclude_27 oF_RX1_43 (ovi_e e2) ?_
    refine os_icmp_ge (tgt := 87) hX dX1_conclude_30 (by decide) (fun c3 => ?_) (fun c3 => ?_)
    · rw [if_pos c3] at h
      refine os_aload_n (r := x1) hX dX1_conclude_87 rfl rfl ?_
      refine os_iload_n hX dX1_conclude_88 rfl rfl ?_
      obtain ⟨s4, e5, h⟩ := obn_e h
      refine ow_put (r := x1) (x := .int x2) hX dX1_conclude_89 oF_RX1_43 (by decide) (opn_I oT_4_7) e5 ?_
      exact os_vret hX dX1_conclude_92 rfl (Option.some.inj h)
    · rw [if_neg c3] at h
      refine os_aload_n (r := x0) hX dX1_conclude_33 rfl rfl ?_
      obtain ⟨v6, e7, h⟩ := obn_e h
      refine ow_get (r := x0) hX dX1_conclude_34 oF_RX1_47 (ovr_e e7) ?_
      refine os_iload_n hX dX1_conclude_37 rfl rfl ?_
      obtain ⟨a8, e9, h⟩ := obn_e h
      obtain ⟨s10, e11, h⟩ := ocv_e h
      refine oc_RX1_148 (rb := v6) (a1 := .int x3) hX dX1_conclude_38 (Nat.le_of_ble_eq_true rfl) e9 (hc _ _ _ _ e11) ?_
      refine os_aload_n (r := x0) hX dX1_conclude_41 rfl rfl ?_
      refine os_aload_n (r := x0) hX dX1_conclude_42 rfl rfl ?_
      obtain ⟨v13, e14, h⟩ := obn_e h
      refine ow_get (r := x0) hX dX1_conclude_43 oF_RX1_47 (ovr_e e14) ?_
      refine os_iconst (v := 0) hX dX1_conclude_46 (by decide) ?_
      refine os_iconst (v := 1) hX dX1_conclude_47 (by decide) ?_
      obtain ⟨a15, e16, h⟩ := obn_e h
      obtain ⟨r19, s17, e18, h⟩ := oin_e h
      refine oc_RX1_151 (rb := x0) (a1 := va_rf v13) (a2 := .int 0) (a3 := .int 1) hX dX1_conclude_48 (Nat.le_of_ble_eq_true rfl) e16 (hc _ _ _ _ e18) ?_
      refine os_if_eq (tgt := 81) hX dX1_conclude_51 (by decide) (fun c20 => ?_) (fun c20 => ?_)
      · rw [if_pos c20] at h
        exact qj_X1_conclude_81 hX hc hk25 h
      · rw [if_neg c20] at h
        refine os_aload_n (r := x1) hX dX1_conclude_54 rfl rfl ?_
        obtain ⟨v21, e22, h⟩ := obn_e h
        refine ow_get (r := x1) hX dX1_conclude_55 oF_RX1_226 (ovr_e e22) ?_
        refine os_iload_n hX dX1_conclude_58 rfl rfl ?_
        refine os_aload_n (r := x1) hX dX1_conclude_59 rfl rfl ?_
        obtain ⟨v23, e24, h⟩ := obn_e h
        refine ow_get (r := x1) hX dX1_conclude_60 oF_RX1_226 (ovr_e e24) ?_
        refine os_iload_n hX dX1_conclude_63 rfl rfl ?_
        obtain ⟨v25, e26, h⟩ := obn_e h
        refine ow_ai (r := v23) (i := x3) hX dX1_conclude_64 e26 ?_
        obtain ⟨s27, e28, h⟩ := obn_e h
        refine ow_si (r := v21) (i := x2) (x := v25) hX dX1_conclude_65 e28 ?_
        refine os_aload_n (r := x1) hX dX1_conclude_66 rfl rfl ?_
        obtain ⟨v29, e30, h⟩ := obn_e h
        refine ow_get (r := x1) hX dX1_conclude_67 oF_RX1_229 (ovr_e e30) ?_
        refine os_iload_n hX dX1_conclude_70 rfl rfl ?_
        refine os_aload_n (r := x1) hX dX1_conclude_71 rfl rfl ?_
        obtain ⟨v31, e32, h⟩ := obn_e h
        refine ow_get (r := x1) hX dX1_conclude_72 oF_RX1_229 (ovr_e e32) ?_
        refine os_iload_n hX dX1_conclude_75 rfl rfl ?_
        obtain ⟨v33, e34, h⟩ := obn_e h
        refine ow_ar (r := v31) (i := x3) hX dX1_conclude_76 e34 ?_
        obtain ⟨s35, e36, h⟩ := obn_e h
        refine ow_sr (r := v29) (i := x2) (y := v33) hX dX1_conclude_77 e36 ?_
        refine os_iinc (v := x2 + 1) hX dX1_conclude_78 rfl rfl (by decide) (ozlo (i := 1) (r := x1) rfl) ?_
        dsimp only [List.set]
        exact qj_X1_conclude_81 hX hc hk25 h
set_option maxHeartbeats 4000000 in
theorem qb_X1_conclude {κ : oKv} {n : Nat} {call : oCl} {kc : Nat → List Value → oSt → Option Value × oSt → Prop} {v : Option Value × oSt} {X : Nat → zLv → List Value → oSt → Prop} (hX : oSem RX1 cX1_conclude 4 0 none κ kc v X) (hc : ∀ j av s w, call j av s = some w → kc j av s w) {x0 : Option Nat} {σ : oSt} (h : ob_X1_conclude n call κ x0 σ = some v) : X 0 [some (va_rf x0), none, none, none] [] σ := by
  rw [ob_X1_conclude] at h
  refine os_aload_n (r := x0) hX dX1_conclude_0 rfl rfl ?_
  obtain ⟨v1, e2, h⟩ := obn_e h
  refine ow_get (r := x0) hX dX1_conclude_1 oF_RX1_47 (ovr_e e2) ?_
  refine os_ifnonnull (r := v1) (tgt := 13) hX dX1_conclude_4 (by decide) (fun c3 => ?_) (fun c3 => ?_)
  · rw [if_neg c3] at h
    refine os_aload_n (r := x0) hX dX1_conclude_13 rfl rfl ?_
    obtain ⟨v4, e5, h⟩ := obn_e h
    refine ow_get (r := x0) hX dX1_conclude_14 oF_RX1_47 (ovr_e e5) ?_
    obtain ⟨v6, e7, h⟩ := obn_e h
    refine ow_get (r := v4) hX dX1_conclude_17 oF_RX1_37 (ovr_e e7) ?_
    refine os_astore_n (r := v6) hX dX1_conclude_20 rfl (by decide) (ozlo (i := 0) (r := x0) rfl) ?_
    dsimp only [List.set]
    refine os_iconst (v := 0) hX dX1_conclude_21 (by decide) ?_
    refine os_istore_n hX dX1_conclude_22 rfl (by decide) (ozlo (i := 1) (r := v6) rfl) ?_
    dsimp only [List.set]
    refine os_iconst (v := 0) hX dX1_conclude_23 (by decide) ?_
    refine os_istore_n hX dX1_conclude_24 rfl (by decide) rfl ?_
    dsimp only [List.set]
    exact ql_X1_conclude_25 hX hc n _ _ _ _ _ h
  · rw [if_pos c3] at h
    refine os_aload_n (r := x0) hX dX1_conclude_7 rfl rfl ?_
    refine os_iconst (v := 1) hX dX1_conclude_8 (by decide) ?_
    obtain ⟨s8, e9, h⟩ := obn_e h
    refine ow_put (r := x0) (x := .int 1) hX dX1_conclude_9 oF_RX1_65 (by decide) (opn_Z oT_3_9 (by decide)) e9 ?_
    exact os_vret hX dX1_conclude_12 rfl (Option.some.inj h)
def ob_X1_isDecided (n : Nat) (call : oCl) (κ : oKv) (x0 : Option Nat) (σ : oSt) : oRs :=
  obn (ovr (ofd σ x0 3 8)) fun v1 =>
  if v1 = none then
    obn (ovi (ofd σ x0 3 9)) fun v11 =>
    ogd (onar .boolean v11) (some (some (.int v11), σ))
  else
    obn (ovr (ofd σ x0 3 8)) fun v4 =>
    obn (ovr (ofd σ v4 4 1)) fun v6 =>
    obn (ovi (ofd σ v6 4 7)) fun v8 =>
    if v8 = 0 then
      some (some (.int 1), σ)
    else
      some (some (.int 0), σ)
set_option maxHeartbeats 4000000 in
theorem qb_X1_isDecided {κ : oKv} {n : Nat} {call : oCl} {kc : Nat → List Value → oSt → Option Value × oSt → Prop} {v : Option Value × oSt} {X : Nat → zLv → List Value → oSt → Prop} (hX : oSem RX1 cX1_isDecided 1 0 (some .boolean) κ kc v X) (hc : ∀ j av s w, call j av s = some w → kc j av s w) {x0 : Option Nat} {σ : oSt} (h : ob_X1_isDecided n call κ x0 σ = some v) : X 0 [some (va_rf x0)] [] σ := by
  rw [ob_X1_isDecided] at h
  refine os_aload_n (r := x0) hX dX1_isDecided_0 rfl rfl ?_
  obtain ⟨v1, e2, h⟩ := obn_e h
  refine ow_get (r := x0) hX dX1_isDecided_1 oF_RX1_47 (ovr_e e2) ?_
  refine os_ifnonnull (r := v1) (tgt := 14) hX dX1_isDecided_4 (by decide) (fun c3 => ?_) (fun c3 => ?_)
  · rw [if_neg c3] at h
    refine os_aload_n (r := x0) hX dX1_isDecided_14 rfl rfl ?_
    obtain ⟨v4, e5, h⟩ := obn_e h
    refine ow_get (r := x0) hX dX1_isDecided_15 oF_RX1_47 (ovr_e e5) ?_
    obtain ⟨v6, e7, h⟩ := obn_e h
    refine ow_get (r := v4) hX dX1_isDecided_18 oF_RX1_37 (ovr_e e7) ?_
    obtain ⟨v8, e9, h⟩ := obn_e h
    refine ow_get (r := v6) hX dX1_isDecided_21 oF_RX1_43 (ovi_e e9) ?_
    refine os_if_ne (tgt := 31) hX dX1_isDecided_24 (by decide) (fun c10 => ?_) (fun c10 => ?_)
    · rw [if_neg c10] at h
      refine os_iconst (v := 0) hX dX1_isDecided_31 (by decide) ?_
      exact os_nret (ty := .boolean) hX dX1_isDecided_32 rfl rfl (by decide) (Option.some.inj h)
    · rw [if_pos c10] at h
      refine os_iconst (v := 1) hX dX1_isDecided_27 (by decide) ?_
      refine os_goto (tgt := 32) hX dX1_isDecided_28 (by decide) ?_
      exact os_nret (ty := .boolean) hX dX1_isDecided_32 rfl rfl (by decide) (Option.some.inj h)
  · rw [if_pos c3] at h
    refine os_aload_n (r := x0) hX dX1_isDecided_7 rfl rfl ?_
    obtain ⟨v11, e12, h⟩ := obn_e h
    refine ow_get (r := x0) hX dX1_isDecided_8 oF_RX1_65 (ovi_e e12) ?_
    refine os_goto (tgt := 32) hX dX1_isDecided_11 (by decide) ?_
    obtain ⟨b13, h⟩ := ogd_e h
    exact os_nret (ty := .boolean) hX dX1_isDecided_32 rfl rfl (znz_ok b13) (Option.some.inj h)
def ob_X6_rise (n : Nat) (call : oCl) (κ : oKv) (x0 : Option Nat) (σ : oSt) : oRs :=
  obn (ovi (ofd σ x0 8 1)) fun v1 =>
  obn (ovi (ofd σ x0 8 1)) fun v3 =>
  obn (ovi (ofd σ x0 8 2)) fun v5 =>
  obn (oob σ x0 8) fun a7 =>
  ocv (call 40 [va_rf x0, .int (v5 + (2 * (v1 * v3)))] σ) fun s9 =>
  obn (ovr (ofd s9 x0 8 0)) fun v12 =>
  obn (ovi (ofd s9 x0 8 2)) fun v14 =>
  obn (ovr (ofd s9 x0 8 0)) fun v16 =>
  obn (ovi (ofd s9 x0 8 2)) fun v18 =>
  obn (ocy s9 v12 v14 v16 (v18 + (v1 * v3)) (v1 * v3)) fun s20 =>
  obn (ovi (ofd s20 x0 8 2)) fun v22 =>
  obn (opf s20 x0 8 2 (.int (v22 + (v1 * v3)))) fun s24 =>
  some (none, s24)
set_option maxHeartbeats 4000000 in
theorem qb_X6_rise {κ : oKv} {n : Nat} {call : oCl} {kc : Nat → List Value → oSt → Option Value × oSt → Prop} {v : Option Value × oSt} {X : Nat → zLv → List Value → oSt → Prop} (hX : oSem RX6 cX6_rise 2 0 none κ kc v X) (hc : ∀ j av s w, call j av s = some w → kc j av s w) {x0 : Option Nat} {σ : oSt} (h : ob_X6_rise n call κ x0 σ = some v) : X 0 [some (va_rf x0), none] [] σ := by
  rw [ob_X6_rise] at h
  refine os_aload_n (r := x0) hX dX6_rise_0 rfl rfl ?_
  obtain ⟨v1, e2, h⟩ := obn_e h
  refine ow_get (r := x0) hX dX6_rise_1 oF_RX6_13 (ovi_e e2) ?_
  refine os_aload_n (r := x0) hX dX6_rise_4 rfl rfl ?_
  obtain ⟨v3, e4, h⟩ := obn_e h
  refine ow_get (r := x0) hX dX6_rise_5 oF_RX6_13 (ovi_e e4) ?_
  refine os_imul hX dX6_rise_8 ?_
  refine os_istore_n hX dX6_rise_9 rfl (by decide) (ozlo (i := 0) (r := x0) rfl) ?_
  dsimp only [List.set]
  refine os_aload_n (r := x0) hX dX6_rise_10 rfl rfl ?_
  refine os_aload_n (r := x0) hX dX6_rise_11 rfl rfl ?_
  obtain ⟨v5, e6, h⟩ := obn_e h
  refine ow_get (r := x0) hX dX6_rise_12 oF_RX6_17 (ovi_e e6) ?_
  refine os_iconst (v := 2) hX dX6_rise_15 (by decide) ?_
  refine os_iload_n hX dX6_rise_16 rfl rfl ?_
  refine os_imul hX dX6_rise_17 ?_
  refine os_iadd hX dX6_rise_18 ?_
  obtain ⟨a7, e8, h⟩ := obn_e h
  obtain ⟨s9, e10, h⟩ := ocv_e h
  refine oc_RX6_27 (rb := x0) (a1 := .int (v5 + (2 * (v1 * v3)))) hX dX6_rise_19 (Nat.le_of_ble_eq_true rfl) e8 (hc _ _ _ _ e10) ?_
  refine os_aload_n (r := x0) hX dX6_rise_22 rfl rfl ?_
  obtain ⟨v12, e13, h⟩ := obn_e h
  refine ow_get (r := x0) hX dX6_rise_23 oF_RX6_7 (ovr_e e13) ?_
  refine os_aload_n (r := x0) hX dX6_rise_26 rfl rfl ?_
  obtain ⟨v14, e15, h⟩ := obn_e h
  refine ow_get (r := x0) hX dX6_rise_27 oF_RX6_17 (ovi_e e15) ?_
  refine os_aload_n (r := x0) hX dX6_rise_30 rfl rfl ?_
  obtain ⟨v16, e17, h⟩ := obn_e h
  refine ow_get (r := x0) hX dX6_rise_31 oF_RX6_7 (ovr_e e17) ?_
  refine os_aload_n (r := x0) hX dX6_rise_34 rfl rfl ?_
  obtain ⟨v18, e19, h⟩ := obn_e h
  refine ow_get (r := x0) hX dX6_rise_35 oF_RX6_17 (ovi_e e19) ?_
  refine os_iload_n hX dX6_rise_38 rfl rfl ?_
  refine os_iadd hX dX6_rise_39 ?_
  refine os_iload_n hX dX6_rise_40 rfl rfl ?_
  obtain ⟨s20, e21, h⟩ := obn_e h
  refine ow_cpy (r0 := v12) (r1 := v16) (sp := v14) (dp := (v18 + (v1 * v3))) (n := (v1 * v3)) hX dX6_rise_41 oC_RX6_39 (Nat.le_of_ble_eq_true rfl) e21 ?_
  refine os_aload_n (r := x0) hX dX6_rise_44 rfl rfl ?_
  refine os_dup hX dX6_rise_45 (ocat x0) ?_
  obtain ⟨v22, e23, h⟩ := obn_e h
  refine ow_get (r := x0) hX dX6_rise_46 oF_RX6_17 (ovi_e e23) ?_
  refine os_iload_n hX dX6_rise_49 rfl rfl ?_
  refine os_iadd hX dX6_rise_50 ?_
  obtain ⟨s24, e25, h⟩ := obn_e h
  refine ow_put (r := x0) (x := .int (v22 + (v1 * v3))) hX dX6_rise_51 oF_RX6_17 (by decide) (opn_I oT_8_2) e25 ?_
  exact os_vret hX dX6_rise_54 rfl (Option.some.inj h)
def ob_X6_sink (n : Nat) (call : oCl) (κ : oKv) (x0 : Option Nat) (σ : oSt) : oRs :=
  obn (ovi (ofd σ x0 8 2)) fun v1 =>
  obn (ovi (ofd σ x0 8 1)) fun v3 =>
  obn (ovi (ofd σ x0 8 1)) fun v5 =>
  obn (opf σ x0 8 2 (.int (if (0 : Int32) < (v1 - (v3 * v5)) then (v1 - (v3 * v5)) else (0 : Int32)))) fun s7 =>
  obn (opf s7 x0 8 4 (.int 0)) fun s9 =>
  some (none, s9)
set_option maxHeartbeats 4000000 in
theorem qb_X6_sink {κ : oKv} {n : Nat} {call : oCl} {kc : Nat → List Value → oSt → Option Value × oSt → Prop} {v : Option Value × oSt} {X : Nat → zLv → List Value → oSt → Prop} (hX : oSem RX6 cX6_sink 1 0 none κ kc v X) (hc : ∀ j av s w, call j av s = some w → kc j av s w) {x0 : Option Nat} {σ : oSt} (h : ob_X6_sink n call κ x0 σ = some v) : X 0 [some (va_rf x0)] [] σ := by
  rw [ob_X6_sink] at h
  refine os_aload_n (r := x0) hX dX6_sink_0 rfl rfl ?_
  refine os_iconst (v := 0) hX dX6_sink_1 (by decide) ?_
  refine os_aload_n (r := x0) hX dX6_sink_2 rfl rfl ?_
  obtain ⟨v1, e2, h⟩ := obn_e h
  refine ow_get (r := x0) hX dX6_sink_3 oF_RX6_17 (ovi_e e2) ?_
  refine os_aload_n (r := x0) hX dX6_sink_6 rfl rfl ?_
  obtain ⟨v3, e4, h⟩ := obn_e h
  refine ow_get (r := x0) hX dX6_sink_7 oF_RX6_13 (ovi_e e4) ?_
  refine os_aload_n (r := x0) hX dX6_sink_10 rfl rfl ?_
  obtain ⟨v5, e6, h⟩ := obn_e h
  refine ow_get (r := x0) hX dX6_sink_11 oF_RX6_13 (ovi_e e6) ?_
  refine os_imul hX dX6_sink_14 ?_
  refine os_isub hX dX6_sink_15 ?_
  refine os_mmax hX dX6_sink_16 ommax_RX6_45 (by simp only [List.map_cons, List.map_nil, List.sum_cons, List.sum_nil, ocat]; exact Nat.le_of_ble_eq_true rfl) ?_
  obtain ⟨s7, e8, h⟩ := obn_e h
  refine ow_put (r := x0) (x := .int (if (0 : Int32) < (v1 - (v3 * v5)) then (v1 - (v3 * v5)) else (0 : Int32))) hX dX6_sink_19 oF_RX6_17 (by decide) (opn_I oT_8_2) e8 ?_
  refine os_aload_n (r := x0) hX dX6_sink_22 rfl rfl ?_
  refine os_iconst (v := 0) hX dX6_sink_23 (by decide) ?_
  obtain ⟨s9, e10, h⟩ := obn_e h
  refine ow_put (r := x0) (x := .int 0) hX dX6_sink_24 oF_RX6_24 (by decide) (opn_Z oT_8_4 (by decide)) e10 ?_
  exact os_vret hX dX6_sink_27 rfl (Option.some.inj h)
def oj_X1_explore_146 (n : Nat) (call : oCl) (κ : oKv) (k76 : Option Nat → Int32 → Option Nat → Int32 → Int32 → Int32 → Int32 → Int32 → oSt → oRs) (x0 : Option Nat) (x1 : Int32) (x2 : Option Nat) (x3 : Int32) (x4 : Int32) (x5 : Int32) (x6 : Int32) (x7 : Int32) (σ : oSt) : oRs :=
  obn (oob σ x0 3) fun a1 =>
  ocv (call 63 [va_rf x0, .int (x1 + 1)] σ) fun s3 =>
  obn (ovr (ofd s3 x0 3 0)) fun v6 =>
  obn (oob s3 v6 8) fun a8 =>
  ocv (call 62 [va_rf v6] s3) fun s10 =>
  obn (opf s10 x0 3 3 (.int x4)) fun s13 =>
  obn (opf s13 x0 3 6 (.int x5)) fun s15 =>
  k76 x0 x1 x2 x3 x4 x5 x6 (x7 + 1) s15
def oj_X1_explore_122 (n : Nat) (call : oCl) (κ : oKv) (k76 : Option Nat → Int32 → Option Nat → Int32 → Int32 → Int32 → Int32 → Int32 → oSt → oRs) (x0 : Option Nat) (x1 : Int32) (x2 : Option Nat) (x3 : Int32) (x4 : Int32) (x5 : Int32) (x6 : Int32) (x7 : Int32) (t0 : Option Nat) (t1 : Option Nat) (t2 : Int32) (σ : oSt) : oRs :=
  obn (oob σ t0 3) fun a1 =>
  ocv (call 54 [va_rf t0, va_rf t1, .int t2, .int 1] σ) fun s3 =>
  oj_X1_explore_146 n call κ k76 x0 x1 x2 x3 x4 x5 x6 x7 s3
def ol_X1_explore_76 (n : Nat) (call : oCl) (κ : oKv) : Nat → Option Nat → Int32 → Option Nat → Int32 → Int32 → Int32 → Int32 → Int32 → oSt → oRs
  | 0, _, _, _, _, _, _, _, _, _ => none
  | f + 1, x0, x1, x2, x3, x4, x5, x6, x7, σ =>
    if x6 ≤ x7 then
      some (none, σ)
    else
      obn (oob σ x0 3) fun a2 =>
      oin (call 60 [va_rf x0] σ) fun r6 s4 =>
      if r6 = 0 then
        obn (ovr (ofd s4 x0 3 0)) fun v8 =>
        obn (oob s4 v8 8) fun a10 =>
        ocv (call 61 [va_rf v8] s4) fun s12 =>
        obn (ovi (ofd s12 x2 7 0)) fun v15 =>
        if v15 = 403 then
          obn (ovr (ofd s12 x2 7 19)) fun v31 =>
          if x7 = 0 then
            oj_X1_explore_122 n call κ (ol_X1_explore_76 n call κ f) x0 x1 x2 x3 x4 x5 x6 x7 x0 v31 1 s12
          else
            oj_X1_explore_122 n call κ (ol_X1_explore_76 n call κ f) x0 x1 x2 x3 x4 x5 x6 x7 x0 v31 (-1) s12
        else
          obn (ovr (ofd s12 x2 7 18)) fun v18 =>
          obn (oob s12 v18 1) fun a20 =>
          orn (call 234 [va_rf v18, .int x7] s12) fun r24 s22 =>
          ogd (ocs s22 r24 7) (
          obn (oob s22 x0 3) fun a26 =>
          ocv (call 56 [va_rf x0, va_rf r24, .int x3] s22) fun s28 =>
          oj_X1_explore_146 n call κ (ol_X1_explore_76 n call κ f) x0 x1 x2 x3 x4 x5 x6 x7 s28)
      else
        some (none, s4)
def oj_X1_explore_71 (n : Nat) (call : oCl) (κ : oKv) (x0 : Option Nat) (x1 : Int32) (x2 : Option Nat) (x3 : Int32) (x4 : Int32) (x5 : Int32) (t0 : Int32) (σ : oSt) : oRs :=
  ol_X1_explore_76 n call κ n x0 x1 x2 x3 x4 x5 t0 0 σ
def ob_X1_explore (n : Nat) (call : oCl) (κ : oKv) (x0 : Option Nat) (x1 : Int32) (σ : oSt) : oRs :=
  obn (ovr (ofd σ x0 3 0)) fun v1 =>
  obn (ovi (ofd σ v1 8 4)) fun v3 =>
  if v3 = 0 then
    obn (ovi (ofd σ x0 3 3)) fun v6 =>
    if x1 < v6 then
      obn (ovr (ofd σ x0 3 1)) fun v9 =>
      obn (oar σ v9 x1) fun v11 =>
      obn (ovr (ofd σ x0 3 2)) fun v13 =>
      obn (oai σ v13 .boolean x1) fun v15 =>
      obn (ovi (ofd σ x0 3 3)) fun v17 =>
      obn (ovi (ofd σ x0 3 6)) fun v19 =>
      obn (ovi (ofd σ v11 7 0)) fun v21 =>
      if v21 = 403 then
        oj_X1_explore_71 n call κ x0 x1 v11 v15 v17 v19 2 σ
      else
        obn (ovr (ofd σ v11 7 18)) fun v24 =>
        obn (oob σ v24 1) fun a26 =>
        oin (call 236 [va_rf v24] σ) fun r30 s28 =>
        oj_X1_explore_71 n call κ x0 x1 v11 v15 v17 v19 r30 s28
    else
      obn (oob σ x0 3) fun a31 =>
      ocv (call 59 [va_rf x0] σ) fun s33 =>
      some (none, s33)
  else
    some (none, σ)
set_option maxHeartbeats 4000000 in
theorem qj_X1_explore_146 {κ : oKv} {n : Nat} {call : oCl} {kc : Nat → List Value → oSt → Option Value × oSt → Prop} {v : Option Value × oSt} {X : Nat → zLv → List Value → oSt → Prop} (hX : oSem RX1 cX1_explore 8 0 none κ kc v X) (hc : ∀ j av s w, call j av s = some w → kc j av s w) {k76 : Option Nat → Int32 → Option Nat → Int32 → Int32 → Int32 → Int32 → Int32 → oSt → oRs} (hk76 : ∀ (x0 : Option Nat) (x1 : Int32) (x2 : Option Nat) (x3 : Int32) (x4 : Int32) (x5 : Int32) (x6 : Int32) (x7 : Int32) (s : oSt), k76 x0 x1 x2 x3 x4 x5 x6 x7 s = some v → X 76 [some (va_rf x0), some (.int x1), some (va_rf x2), some (.int x3), some (.int x4), some (.int x5), some (.int x6), some (.int x7)] [] s) {x0 : Option Nat} {x1 : Int32} {x2 : Option Nat} {x3 : Int32} {x4 : Int32} {x5 : Int32} {x6 : Int32} {x7 : Int32} {σ : oSt} (h : oj_X1_explore_146 n call κ k76 x0 x1 x2 x3 x4 x5 x6 x7 σ = some v) : X 146 [some (va_rf x0), some (.int x1), some (va_rf x2), some (.int x3), some (.int x4), some (.int x5), some (.int x6), some (.int x7)] [] σ := by
  rw [oj_X1_explore_146] at h
  refine os_aload_n (r := x0) hX dX1_explore_146 rfl rfl ?_
  refine os_iload_n hX dX1_explore_147 rfl rfl ?_
  refine os_iconst (v := 1) hX dX1_explore_148 (by decide) ?_
  refine os_iadd hX dX1_explore_149 ?_
  obtain ⟨a1, e2, h⟩ := obn_e h
  obtain ⟨s3, e4, h⟩ := ocv_e h
  refine oc_RX1_57 (rb := x0) (a1 := .int (x1 + 1)) hX dX1_explore_150 (Nat.le_of_ble_eq_true rfl) e2 (hc _ _ _ _ e4) ?_
  refine os_aload_n (r := x0) hX dX1_explore_153 rfl rfl ?_
  obtain ⟨v6, e7, h⟩ := obn_e h
  refine ow_get (r := x0) hX dX1_explore_154 oF_RX1_12 (ovr_e e7) ?_
  obtain ⟨a8, e9, h⟩ := obn_e h
  obtain ⟨s10, e11, h⟩ := ocv_e h
  refine oc_RX1_223 (rb := v6)  hX dX1_explore_157 (Nat.le_of_ble_eq_true rfl) e9 (hc _ _ _ _ e11) ?_
  refine os_aload_n (r := x0) hX dX1_explore_160 rfl rfl ?_
  refine os_iload hX dX1_explore_161 rfl ?_
  obtain ⟨s13, e14, h⟩ := obn_e h
  refine ow_put (r := x0) (x := .int x4) hX dX1_explore_163 oF_RX1_103 (by decide) (opn_I oT_3_3) e14 ?_
  refine os_aload_n (r := x0) hX dX1_explore_166 rfl rfl ?_
  refine os_iload hX dX1_explore_167 rfl ?_
  obtain ⟨s15, e16, h⟩ := obn_e h
  refine ow_put (r := x0) (x := .int x5) hX dX1_explore_169 oF_RX1_106 (by decide) (opn_I oT_3_6) e16 ?_
  refine os_iinc (v := x7 + 1) hX dX1_explore_172 rfl rfl (by decide) rfl ?_
  dsimp only [List.set]
  refine os_goto (tgt := 76) hX dX1_explore_175 (by decide) ?_
  exact hk76 _ _ _ _ _ _ _ _ _ h
set_option maxHeartbeats 4000000 in
theorem qj_X1_explore_122 {κ : oKv} {n : Nat} {call : oCl} {kc : Nat → List Value → oSt → Option Value × oSt → Prop} {v : Option Value × oSt} {X : Nat → zLv → List Value → oSt → Prop} (hX : oSem RX1 cX1_explore 8 0 none κ kc v X) (hc : ∀ j av s w, call j av s = some w → kc j av s w) {k76 : Option Nat → Int32 → Option Nat → Int32 → Int32 → Int32 → Int32 → Int32 → oSt → oRs} (hk76 : ∀ (x0 : Option Nat) (x1 : Int32) (x2 : Option Nat) (x3 : Int32) (x4 : Int32) (x5 : Int32) (x6 : Int32) (x7 : Int32) (s : oSt), k76 x0 x1 x2 x3 x4 x5 x6 x7 s = some v → X 76 [some (va_rf x0), some (.int x1), some (va_rf x2), some (.int x3), some (.int x4), some (.int x5), some (.int x6), some (.int x7)] [] s) {x0 : Option Nat} {x1 : Int32} {x2 : Option Nat} {x3 : Int32} {x4 : Int32} {x5 : Int32} {x6 : Int32} {x7 : Int32} {t0 : Option Nat} {t1 : Option Nat} {t2 : Int32} {σ : oSt} (h : oj_X1_explore_122 n call κ k76 x0 x1 x2 x3 x4 x5 x6 x7 t0 t1 t2 σ = some v) : X 122 [some (va_rf x0), some (.int x1), some (va_rf x2), some (.int x3), some (.int x4), some (.int x5), some (.int x6), some (.int x7)] [.int t2, va_rf t1, va_rf t0] σ := by
  rw [oj_X1_explore_122] at h
  refine os_iconst (v := 1) hX dX1_explore_122 (by decide) ?_
  obtain ⟨a1, e2, h⟩ := obn_e h
  obtain ⟨s3, e4, h⟩ := ocv_e h
  refine oc_RX1_198 (rb := t0) (a1 := va_rf t1) (a2 := .int t2) (a3 := .int 1) hX dX1_explore_123 (Nat.le_of_ble_eq_true rfl) e2 (hc _ _ _ _ e4) ?_
  refine os_goto (tgt := 146) hX dX1_explore_126 (by decide) ?_
  exact qj_X1_explore_146 hX hc hk76 h
set_option maxHeartbeats 4000000 in
theorem ql_X1_explore_76 {κ : oKv} {n : Nat} {call : oCl} {kc : Nat → List Value → oSt → Option Value × oSt → Prop} {v : Option Value × oSt} {X : Nat → zLv → List Value → oSt → Prop} (hX : oSem RX1 cX1_explore 8 0 none κ kc v X) (hc : ∀ j av s w, call j av s = some w → kc j av s w) : ∀ (f : Nat) (x0 : Option Nat) (x1 : Int32) (x2 : Option Nat) (x3 : Int32) (x4 : Int32) (x5 : Int32) (x6 : Int32) (x7 : Int32) (σ : oSt), ol_X1_explore_76 n call κ f x0 x1 x2 x3 x4 x5 x6 x7 σ = some v → X 76 [some (va_rf x0), some (.int x1), some (va_rf x2), some (.int x3), some (.int x4), some (.int x5), some (.int x6), some (.int x7)] [] σ := by
  intro f
  induction f with
  | zero => intro x0 x1 x2 x3 x4 x5 x6 x7 σ h; cases h
  | succ f hk76 =>
    intro x0 x1 x2 x3 x4 x5 x6 x7 σ h
    rw [ol_X1_explore_76] at h
    refine os_iload hX dX1_explore_76 rfl ?_
    refine os_iload hX dX1_explore_78 rfl ?_
    refine os_icmp_ge (tgt := 178) hX dX1_explore_80 (by decide) (fun c1 => ?_) (fun c1 => ?_)
    · rw [if_pos c1] at h
      exact os_vret hX dX1_explore_178 rfl (Option.some.inj h)
    · rw [if_neg c1] at h
      refine os_aload_n (r := x0) hX dX1_explore_83 rfl rfl ?_
      obtain ⟨a2, e3, h⟩ := obn_e h
      obtain ⟨r6, s4, e5, h⟩ := oin_e h
      refine oc_RX1_217 (rb := x0)  hX dX1_explore_84 (Nat.le_of_ble_eq_true rfl) e3 (hc _ _ _ _ e5) ?_
      refine os_if_ne (tgt := 178) hX dX1_explore_87 (by decide) (fun c7 => ?_) (fun c7 => ?_)
      · rw [if_neg c7] at h
        exact os_vret hX dX1_explore_178 rfl (Option.some.inj h)
      · rw [if_pos c7] at h
        refine os_aload_n (r := x0) hX dX1_explore_90 rfl rfl ?_
        obtain ⟨v8, e9, h⟩ := obn_e h
        refine ow_get (r := x0) hX dX1_explore_91 oF_RX1_12 (ovr_e e9) ?_
        obtain ⟨a10, e11, h⟩ := obn_e h
        obtain ⟨s12, e13, h⟩ := ocv_e h
        refine oc_RX1_220 (rb := v8)  hX dX1_explore_94 (Nat.le_of_ble_eq_true rfl) e11 (hc _ _ _ _ e13) ?_
        refine os_aload_n (r := x2) hX dX1_explore_97 rfl rfl ?_
        obtain ⟨v15, e16, h⟩ := obn_e h
        refine ow_get (r := x2) hX dX1_explore_98 oF_RX1_73 (ovi_e e16) ?_
        refine os_sipush (v := 403) hX dX1_explore_101 (by decide) ?_
        refine os_icmp_ne (tgt := 129) hX dX1_explore_104 (by decide) (fun c17 => ?_) (fun c17 => ?_)
        · rw [if_neg c17] at h
          refine os_aload_n (r := x0) hX dX1_explore_129 rfl rfl ?_
          refine os_aload_n (r := x2) hX dX1_explore_130 rfl rfl ?_
          obtain ⟨v18, e19, h⟩ := obn_e h
          refine ow_get (r := x2) hX dX1_explore_131 oF_RX1_86 (ovr_e e19) ?_
          refine os_iload hX dX1_explore_134 rfl ?_
          obtain ⟨a20, e21, h⟩ := obn_e h
          obtain ⟨r24, s22, e23, h⟩ := orn_e h
          refine oc_RX1_96 (rb := v18) (a1 := .int x7) hX dX1_explore_136 (by simp only [List.map_cons, List.map_nil, List.sum_cons, List.sum_nil, ocat]; exact Nat.le_of_ble_eq_true rfl) e21 (hc _ _ _ _ e23) ?_
          obtain ⟨b25, h⟩ := ogd_e h
          refine ow_cs (r := r24) hX dX1_explore_139 oK_RX1_18 b25 ?_
          refine os_iload_n hX dX1_explore_142 rfl rfl ?_
          obtain ⟨a26, e27, h⟩ := obn_e h
          obtain ⟨s28, e29, h⟩ := ocv_e h
          refine oc_RX1_69 (rb := x0) (a1 := va_rf r24) (a2 := .int x3) hX dX1_explore_143 (Nat.le_of_ble_eq_true rfl) e27 (hc _ _ _ _ e29) ?_
          exact qj_X1_explore_146 hX hc hk76 h
        · rw [if_pos c17] at h
          refine os_aload_n (r := x0) hX dX1_explore_107 rfl rfl ?_
          refine os_aload_n (r := x2) hX dX1_explore_108 rfl rfl ?_
          obtain ⟨v31, e32, h⟩ := obn_e h
          refine ow_get (r := x2) hX dX1_explore_109 oF_RX1_76 (ovr_e e32) ?_
          refine os_iload hX dX1_explore_112 rfl ?_
          refine os_if_ne (tgt := 121) hX dX1_explore_114 (by decide) (fun c33 => ?_) (fun c33 => ?_)
          · rw [if_neg c33] at h
            refine os_iconst (v := (-1)) hX dX1_explore_121 (by decide) ?_
            exact qj_X1_explore_122 hX hc hk76 h
          · rw [if_pos c33] at h
            refine os_iconst (v := 1) hX dX1_explore_117 (by decide) ?_
            refine os_goto (tgt := 122) hX dX1_explore_118 (by decide) ?_
            exact qj_X1_explore_122 hX hc hk76 h
set_option maxHeartbeats 4000000 in
theorem qj_X1_explore_71 {κ : oKv} {n : Nat} {call : oCl} {kc : Nat → List Value → oSt → Option Value × oSt → Prop} {v : Option Value × oSt} {X : Nat → zLv → List Value → oSt → Prop} (hX : oSem RX1 cX1_explore 8 0 none κ kc v X) (hc : ∀ j av s w, call j av s = some w → kc j av s w) {x0 : Option Nat} {x1 : Int32} {x2 : Option Nat} {x3 : Int32} {x4 : Int32} {x5 : Int32} {t0 : Int32} {σ : oSt} (h : oj_X1_explore_71 n call κ x0 x1 x2 x3 x4 x5 t0 σ = some v) : X 71 [some (va_rf x0), some (.int x1), some (va_rf x2), some (.int x3), some (.int x4), some (.int x5), none, none] [.int t0] σ := by
  rw [oj_X1_explore_71] at h
  refine os_istore hX dX1_explore_71 (by decide) rfl ?_
  dsimp only [List.set]
  refine os_iconst (v := 0) hX dX1_explore_73 (by decide) ?_
  refine os_istore hX dX1_explore_74 (by decide) rfl ?_
  dsimp only [List.set]
  exact ql_X1_explore_76 hX hc n _ _ _ _ _ _ _ _ _ h
set_option maxHeartbeats 4000000 in
theorem qb_X1_explore {κ : oKv} {n : Nat} {call : oCl} {kc : Nat → List Value → oSt → Option Value × oSt → Prop} {v : Option Value × oSt} {X : Nat → zLv → List Value → oSt → Prop} (hX : oSem RX1 cX1_explore 8 0 none κ kc v X) (hc : ∀ j av s w, call j av s = some w → kc j av s w) {x0 : Option Nat} {x1 : Int32} {σ : oSt} (h : ob_X1_explore n call κ x0 x1 σ = some v) : X 0 [some (va_rf x0), some (.int x1), none, none, none, none, none, none] [] σ := by
  rw [ob_X1_explore] at h
  refine os_aload_n (r := x0) hX dX1_explore_0 rfl rfl ?_
  obtain ⟨v1, e2, h⟩ := obn_e h
  refine ow_get (r := x0) hX dX1_explore_1 oF_RX1_12 (ovr_e e2) ?_
  obtain ⟨v3, e4, h⟩ := obn_e h
  refine ow_get (r := v1) hX dX1_explore_4 oF_RX1_190 (ovi_e e4) ?_
  refine os_if_eq (tgt := 11) hX dX1_explore_7 (by decide) (fun c5 => ?_) (fun c5 => ?_)
  · rw [if_pos c5] at h
    refine os_iload_n hX dX1_explore_11 rfl rfl ?_
    refine os_aload_n (r := x0) hX dX1_explore_12 rfl rfl ?_
    obtain ⟨v6, e7, h⟩ := obn_e h
    refine ow_get (r := x0) hX dX1_explore_13 oF_RX1_103 (ovi_e e7) ?_
    refine os_icmp_lt (tgt := 24) hX dX1_explore_16 (by decide) (fun c8 => ?_) (fun c8 => ?_)
    · rw [if_pos c8] at h
      refine os_aload_n (r := x0) hX dX1_explore_24 rfl rfl ?_
      obtain ⟨v9, e10, h⟩ := obn_e h
      refine ow_get (r := x0) hX dX1_explore_25 oF_RX1_20 (ovr_e e10) ?_
      refine os_iload_n hX dX1_explore_28 rfl rfl ?_
      obtain ⟨v11, e12, h⟩ := obn_e h
      refine ow_ar (r := v9) (i := x1) hX dX1_explore_29 e12 ?_
      refine os_astore_n (r := v11) hX dX1_explore_30 rfl (by decide) rfl ?_
      dsimp only [List.set]
      refine os_aload_n (r := x0) hX dX1_explore_31 rfl rfl ?_
      obtain ⟨v13, e14, h⟩ := obn_e h
      refine ow_get (r := x0) hX dX1_explore_32 oF_RX1_24 (ovr_e e14) ?_
      refine os_iload_n hX dX1_explore_35 rfl rfl ?_
      obtain ⟨v15, e16, h⟩ := obn_e h
      refine ow_az (r := v13) (i := x1) hX dX1_explore_36 e16 ?_
      refine os_istore_n hX dX1_explore_37 rfl (by decide) (ozlo (i := 2) (r := v11) rfl) ?_
      dsimp only [List.set]
      refine os_aload_n (r := x0) hX dX1_explore_38 rfl rfl ?_
      obtain ⟨v17, e18, h⟩ := obn_e h
      refine ow_get (r := x0) hX dX1_explore_39 oF_RX1_103 (ovi_e e18) ?_
      refine os_istore hX dX1_explore_42 (by decide) rfl ?_
      dsimp only [List.set]
      refine os_aload_n (r := x0) hX dX1_explore_44 rfl rfl ?_
      obtain ⟨v19, e20, h⟩ := obn_e h
      refine ow_get (r := x0) hX dX1_explore_45 oF_RX1_106 (ovi_e e20) ?_
      refine os_istore hX dX1_explore_48 (by decide) rfl ?_
      dsimp only [List.set]
      refine os_aload_n (r := v11) hX dX1_explore_50 rfl rfl ?_
      obtain ⟨v21, e22, h⟩ := obn_e h
      refine ow_get (r := v11) hX dX1_explore_51 oF_RX1_73 (ovi_e e22) ?_
      refine os_sipush (v := 403) hX dX1_explore_54 (by decide) ?_
      refine os_icmp_ne (tgt := 64) hX dX1_explore_57 (by decide) (fun c23 => ?_) (fun c23 => ?_)
      · rw [if_neg c23] at h
        refine os_aload_n (r := v11) hX dX1_explore_64 rfl rfl ?_
        obtain ⟨v24, e25, h⟩ := obn_e h
        refine ow_get (r := v11) hX dX1_explore_65 oF_RX1_86 (ovr_e e25) ?_
        obtain ⟨a26, e27, h⟩ := obn_e h
        obtain ⟨r30, s28, e29, h⟩ := oin_e h
        refine oc_RX1_90 (rb := v24)  hX dX1_explore_68 (Nat.le_of_ble_eq_true rfl) e27 (hc _ _ _ _ e29) ?_
        exact qj_X1_explore_71 hX hc h
      · rw [if_pos c23] at h
        refine os_iconst (v := 2) hX dX1_explore_60 (by decide) ?_
        refine os_goto (tgt := 71) hX dX1_explore_61 (by decide) ?_
        exact qj_X1_explore_71 hX hc h
    · rw [if_neg c8] at h
      refine os_aload_n (r := x0) hX dX1_explore_19 rfl rfl ?_
      obtain ⟨a31, e32, h⟩ := obn_e h
      obtain ⟨s33, e34, h⟩ := ocv_e h
      refine oc_RX1_214 (rb := x0)  hX dX1_explore_20 (Nat.le_of_ble_eq_true rfl) e32 (hc _ _ _ _ e34) ?_
      exact os_vret hX dX1_explore_23 rfl (Option.some.inj h)
  · rw [if_neg c5] at h
    exact os_vret hX dX1_explore_10 rfl (Option.some.inj h)
def oj_X1_isSure_18 (n : Nat) (call : oCl) (κ : oKv) (x0 : Option Nat) (x1 : Option Nat) (x2 : Option Nat) (t0 : Option Nat) (t1 : Int32) (σ : oSt) : oRs :=
  ogd (zbo t1) (
  obn (opf σ t0 3 9 (.int t1)) fun s2 =>
  obn (oob s2 x0 3) fun a4 =>
  ocv (call 57 [va_rf x0, va_rf x1, va_rf none] s2) fun s6 =>
  obn (oob s6 x0 3) fun a9 =>
  ocv (call 56 [va_rf x0, va_rf x2, .int 0] s6) fun s11 =>
  obn (ovr (ofd s11 x0 3 0)) fun v14 =>
  obn (oob s11 v14 8) fun a16 =>
  ocv (call 58 [va_rf v14] s11) fun s18 =>
  obn (oob s18 x0 3) fun a21 =>
  ocv (call 63 [va_rf x0, .int 0] s18) fun s23 =>
  obn (ovi (ofd s23 x0 3 9)) fun v26 =>
  if v26 = 0 then
    some (some (.int 1), s23)
  else
    some (some (.int 0), s23))
def ob_X1_isSure (n : Nat) (call : oCl) (κ : oKv) (x0 : Option Nat) (x1 : Option Nat) (x2 : Option Nat) (σ : oSt) : oRs :=
  obn (opf σ x0 3 8 (va_rf none)) fun s1 =>
  oin (call 39 [va_rf x2] s1) fun r5 s3 =>
  if r5 = 0 then
    oj_X1_isSure_18 n call κ x0 x1 x2 x0 1 s3
  else
    oj_X1_isSure_18 n call κ x0 x1 x2 x0 0 s3
set_option maxHeartbeats 4000000 in
theorem qj_X1_isSure_18 {κ : oKv} {n : Nat} {call : oCl} {kc : Nat → List Value → oSt → Option Value × oSt → Prop} {v : Option Value × oSt} {X : Nat → zLv → List Value → oSt → Prop} (hX : oSem RX1 cX1_isSure 3 0 (some .boolean) κ kc v X) (hc : ∀ j av s w, call j av s = some w → kc j av s w) {x0 : Option Nat} {x1 : Option Nat} {x2 : Option Nat} {t0 : Option Nat} {t1 : Int32} {σ : oSt} (h : oj_X1_isSure_18 n call κ x0 x1 x2 t0 t1 σ = some v) : X 18 [some (va_rf x0), some (va_rf x1), some (va_rf x2)] [.int t1, va_rf t0] σ := by
  rw [oj_X1_isSure_18] at h
  obtain ⟨b1, h⟩ := ogd_e h
  obtain ⟨s2, e3, h⟩ := obn_e h
  refine ow_put (r := t0) (x := .int t1) hX dX1_isSure_18 oF_RX1_65 (by decide) (opn_Z oT_3_9 b1) e3 ?_
  refine os_aload_n (r := x0) hX dX1_isSure_21 rfl rfl ?_
  refine os_aload_n (r := x1) hX dX1_isSure_22 rfl rfl ?_
  refine os_null hX dX1_isSure_23 ?_
  obtain ⟨a4, e5, h⟩ := obn_e h
  obtain ⟨s6, e7, h⟩ := ocv_e h
  refine oc_RX1_50 (rb := x0) (a1 := va_rf x1) (a2 := va_rf none) hX dX1_isSure_24 (Nat.le_of_ble_eq_true rfl) e5 (hc _ _ _ _ e7) ?_
  refine os_aload_n (r := x0) hX dX1_isSure_27 rfl rfl ?_
  refine os_aload_n (r := x2) hX dX1_isSure_28 rfl rfl ?_
  refine os_iconst (v := 0) hX dX1_isSure_29 (by decide) ?_
  obtain ⟨a9, e10, h⟩ := obn_e h
  obtain ⟨s11, e12, h⟩ := ocv_e h
  refine oc_RX1_69 (rb := x0) (a1 := va_rf x2) (a2 := .int 0) hX dX1_isSure_30 (Nat.le_of_ble_eq_true rfl) e10 (hc _ _ _ _ e12) ?_
  refine os_aload_n (r := x0) hX dX1_isSure_33 rfl rfl ?_
  obtain ⟨v14, e15, h⟩ := obn_e h
  refine ow_get (r := x0) hX dX1_isSure_34 oF_RX1_12 (ovr_e e15) ?_
  obtain ⟨a16, e17, h⟩ := obn_e h
  obtain ⟨s18, e19, h⟩ := ocv_e h
  refine oc_RX1_54 (rb := v14)  hX dX1_isSure_37 (Nat.le_of_ble_eq_true rfl) e17 (hc _ _ _ _ e19) ?_
  refine os_aload_n (r := x0) hX dX1_isSure_40 rfl rfl ?_
  refine os_iconst (v := 0) hX dX1_isSure_41 (by decide) ?_
  obtain ⟨a21, e22, h⟩ := obn_e h
  obtain ⟨s23, e24, h⟩ := ocv_e h
  refine oc_RX1_57 (rb := x0) (a1 := .int 0) hX dX1_isSure_42 (Nat.le_of_ble_eq_true rfl) e22 (hc _ _ _ _ e24) ?_
  refine os_aload_n (r := x0) hX dX1_isSure_45 rfl rfl ?_
  obtain ⟨v26, e27, h⟩ := obn_e h
  refine ow_get (r := x0) hX dX1_isSure_46 oF_RX1_65 (ovi_e e27) ?_
  refine os_if_ne (tgt := 56) hX dX1_isSure_49 (by decide) (fun c28 => ?_) (fun c28 => ?_)
  · rw [if_neg c28] at h
    refine os_iconst (v := 0) hX dX1_isSure_56 (by decide) ?_
    exact os_nret (ty := .boolean) hX dX1_isSure_57 rfl rfl (by decide) (Option.some.inj h)
  · rw [if_pos c28] at h
    refine os_iconst (v := 1) hX dX1_isSure_52 (by decide) ?_
    refine os_goto (tgt := 57) hX dX1_isSure_53 (by decide) ?_
    exact os_nret (ty := .boolean) hX dX1_isSure_57 rfl rfl (by decide) (Option.some.inj h)
set_option maxHeartbeats 4000000 in
theorem qb_X1_isSure {κ : oKv} {n : Nat} {call : oCl} {kc : Nat → List Value → oSt → Option Value × oSt → Prop} {v : Option Value × oSt} {X : Nat → zLv → List Value → oSt → Prop} (hX : oSem RX1 cX1_isSure 3 0 (some .boolean) κ kc v X) (hc : ∀ j av s w, call j av s = some w → kc j av s w) {x0 : Option Nat} {x1 : Option Nat} {x2 : Option Nat} {σ : oSt} (h : ob_X1_isSure n call κ x0 x1 x2 σ = some v) : X 0 [some (va_rf x0), some (va_rf x1), some (va_rf x2)] [] σ := by
  rw [ob_X1_isSure] at h
  refine os_aload_n (r := x0) hX dX1_isSure_0 rfl rfl ?_
  refine os_null hX dX1_isSure_1 ?_
  obtain ⟨s1, e2, h⟩ := obn_e h
  refine ow_put (r := x0) (x := va_rf none) hX dX1_isSure_2 oF_RX1_47 (by decide) (orf_n (Or.inl ⟨_, oT_3_8⟩) none) e2 ?_
  refine os_aload_n (r := x0) hX dX1_isSure_5 rfl rfl ?_
  refine os_aload_n (r := x2) hX dX1_isSure_6 rfl rfl ?_
  obtain ⟨r5, s3, e4, h⟩ := oin_e h
  refine oc_RX1_61 (a1 := va_rf x2) hX dX1_isSure_7 (by simp only [List.map_cons, List.map_nil, List.sum_cons, List.sum_nil, ocat]; exact Nat.le_of_ble_eq_true rfl) (hc _ _ _ _ e4) ?_
  refine os_if_ne (tgt := 17) hX dX1_isSure_10 (by decide) (fun c6 => ?_) (fun c6 => ?_)
  · rw [if_neg c6] at h
    refine os_iconst (v := 0) hX dX1_isSure_17 (by decide) ?_
    exact qj_X1_isSure_18 hX hc h
  · rw [if_pos c6] at h
    refine os_iconst (v := 1) hX dX1_isSure_13 (by decide) ?_
    refine os_goto (tgt := 18) hX dX1_isSure_14 (by decide) ?_
    exact qj_X1_isSure_18 hX hc h
def oj_X0_findDoubt_69 (n : Nat) (call : oCl) (κ : oKv) (k2 : Option Nat → Int32 → oSt → oRs) (x0 : Option Nat) (x1 : Int32) (σ : oSt) : oRs :=
  k2 x0 (x1 + 1) σ
def oj_X0_findDoubt_43 (n : Nat) (call : oCl) (κ : oKv) (k2 : Option Nat → Int32 → oSt → oRs) (x0 : Option Nat) (x1 : Int32) (x2 : Option Nat) (σ : oSt) : oRs :=
  obn (ovr (ofd σ x0 2 2)) fun v1 =>
  obn (ovr (ofd σ x2 7 20)) fun v3 =>
  obn (ovr (ofd σ x2 7 17)) fun v5 =>
  obn (oob σ v1 3) fun a7 =>
  oin (call 64 [va_rf v1, va_rf v3, va_rf v5] σ) fun r11 s9 =>
  if r11 = 0 then
    obn (ovi (ofd s9 x2 7 3)) fun v13 =>
    obn (opf s9 x0 2 9 (.int v13)) fun s15 =>
    oj_X0_findDoubt_69 n call κ k2 x0 x1 s15
  else
    oj_X0_findDoubt_69 n call κ k2 x0 x1 s9
def ol_X0_findDoubt_2 (n : Nat) (call : oCl) (κ : oKv) : Nat → Option Nat → Int32 → oSt → oRs
  | 0, _, _, _ => none
  | f + 1, x0, x1, σ =>
    obn (ovr (ofd σ x0 2 6)) fun v1 =>
    obn (oob σ v1 1) fun a3 =>
    oin (call 236 [va_rf v1] σ) fun r7 s5 =>
    if r7 ≤ x1 then
      some (none, s5)
    else
      obn (ovr (ofd s5 x0 2 6)) fun v9 =>
      obn (oob s5 v9 1) fun a11 =>
      orn (call 234 [va_rf v9, .int x1] s5) fun r15 s13 =>
      ogd (ocs s13 r15 7) (
      obn (ovi (ofd s13 x0 2 9)) fun v17 =>
      if v17 < 0 then
        oj_X0_findDoubt_43 n call κ (ol_X0_findDoubt_2 n call κ f) x0 x1 r15 s13
      else
        obn (ovi (ofd s13 r15 7 3)) fun v20 =>
        obn (ovi (ofd s13 x0 2 9)) fun v22 =>
        if v22 ≤ v20 then
          oj_X0_findDoubt_69 n call κ (ol_X0_findDoubt_2 n call κ f) x0 x1 s13
        else
          oj_X0_findDoubt_43 n call κ (ol_X0_findDoubt_2 n call κ f) x0 x1 r15 s13)
def ob_X0_findDoubt (n : Nat) (call : oCl) (κ : oKv) (x0 : Option Nat) (σ : oSt) : oRs :=
  ol_X0_findDoubt_2 n call κ n x0 0 σ
set_option maxHeartbeats 4000000 in
theorem qj_X0_findDoubt_69 {κ : oKv} {n : Nat} {call : oCl} {kc : Nat → List Value → oSt → Option Value × oSt → Prop} {v : Option Value × oSt} {X : Nat → zLv → List Value → oSt → Prop} (hX : oSem RX0 cX0_findDoubt 3 0 none κ kc v X) (hc : ∀ j av s w, call j av s = some w → kc j av s w) {k2 : Option Nat → Int32 → oSt → oRs} (hk2 : ∀ (x0 : Option Nat) (x1 : Int32) (s : oSt), k2 x0 x1 s = some v → X 2 [some (va_rf x0), some (.int x1), none] [] s) {x0 : Option Nat} {x1 : Int32} {σ : oSt} (h : oj_X0_findDoubt_69 n call κ k2 x0 x1 σ = some v) : X 69 [some (va_rf x0), some (.int x1), none] [] σ := by
  rw [oj_X0_findDoubt_69] at h
  refine os_iinc (v := x1 + 1) hX dX0_findDoubt_69 rfl rfl (by decide) (ozlo (i := 0) (r := x0) rfl) ?_
  dsimp only [List.set]
  refine os_goto (tgt := 2) hX dX0_findDoubt_72 (by decide) ?_
  exact hk2 _ _ _ h
set_option maxHeartbeats 4000000 in
theorem qj_X0_findDoubt_43 {κ : oKv} {n : Nat} {call : oCl} {kc : Nat → List Value → oSt → Option Value × oSt → Prop} {v : Option Value × oSt} {X : Nat → zLv → List Value → oSt → Prop} (hX : oSem RX0 cX0_findDoubt 3 0 none κ kc v X) (hc : ∀ j av s w, call j av s = some w → kc j av s w) {k2 : Option Nat → Int32 → oSt → oRs} (hk2 : ∀ (x0 : Option Nat) (x1 : Int32) (s : oSt), k2 x0 x1 s = some v → X 2 [some (va_rf x0), some (.int x1), none] [] s) {x0 : Option Nat} {x1 : Int32} {x2 : Option Nat} {σ : oSt} (h : oj_X0_findDoubt_43 n call κ k2 x0 x1 x2 σ = some v) : X 43 [some (va_rf x0), some (.int x1), some (va_rf x2)] [] σ := by
  rw [oj_X0_findDoubt_43] at h
  refine os_aload_n (r := x0) hX dX0_findDoubt_43 rfl rfl ?_
  obtain ⟨v1, e2, h⟩ := obn_e h
  refine ow_get (r := x0) hX dX0_findDoubt_44 oF_RX0_45 (ovr_e e2) ?_
  refine os_aload_n (r := x2) hX dX0_findDoubt_47 rfl rfl ?_
  obtain ⟨v3, e4, h⟩ := obn_e h
  refine ow_get (r := x2) hX dX0_findDoubt_48 oF_RX0_95 (ovr_e e4) ?_
  refine os_aload_n (r := x2) hX dX0_findDoubt_51 rfl rfl ?_
  obtain ⟨v5, e6, h⟩ := obn_e h
  refine ow_get (r := x2) hX dX0_findDoubt_52 oF_RX0_99 (ovr_e e6) ?_
  obtain ⟨a7, e8, h⟩ := obn_e h
  obtain ⟨r11, s9, e10, h⟩ := oin_e h
  refine oc_RX0_102 (rb := v1) (a1 := va_rf v3) (a2 := va_rf v5) hX dX0_findDoubt_55 (Nat.le_of_ble_eq_true rfl) e8 (hc _ _ _ _ e10) ?_
  refine os_if_ne (tgt := 69) hX dX0_findDoubt_58 (by decide) (fun c12 => ?_) (fun c12 => ?_)
  · rw [if_neg c12] at h
    refine os_weak hX (lw := [some (va_rf x0), some (.int x1), none]) ⟨rfl, rfl, trivial⟩ ?_
    exact qj_X0_findDoubt_69 hX hc hk2 h
  · rw [if_pos c12] at h
    refine os_aload_n (r := x0) hX dX0_findDoubt_61 rfl rfl ?_
    refine os_aload_n (r := x2) hX dX0_findDoubt_62 rfl rfl ?_
    obtain ⟨v13, e14, h⟩ := obn_e h
    refine ow_get (r := x2) hX dX0_findDoubt_63 oF_RX0_92 (ovi_e e14) ?_
    obtain ⟨s15, e16, h⟩ := obn_e h
    refine ow_put (r := x0) (x := .int v13) hX dX0_findDoubt_66 oF_RX0_33 (by decide) (opn_I oT_2_9) e16 ?_
    refine os_weak hX (lw := [some (va_rf x0), some (.int x1), none]) ⟨rfl, rfl, trivial⟩ ?_
    exact qj_X0_findDoubt_69 hX hc hk2 h
set_option maxHeartbeats 4000000 in
theorem ql_X0_findDoubt_2 {κ : oKv} {n : Nat} {call : oCl} {kc : Nat → List Value → oSt → Option Value × oSt → Prop} {v : Option Value × oSt} {X : Nat → zLv → List Value → oSt → Prop} (hX : oSem RX0 cX0_findDoubt 3 0 none κ kc v X) (hc : ∀ j av s w, call j av s = some w → kc j av s w) : ∀ (f : Nat) (x0 : Option Nat) (x1 : Int32) (σ : oSt), ol_X0_findDoubt_2 n call κ f x0 x1 σ = some v → X 2 [some (va_rf x0), some (.int x1), none] [] σ := by
  intro f
  induction f with
  | zero => intro x0 x1 σ h; cases h
  | succ f hk2 =>
    intro x0 x1 σ h
    rw [ol_X0_findDoubt_2] at h
    refine os_iload_n hX dX0_findDoubt_2 rfl rfl ?_
    refine os_aload_n (r := x0) hX dX0_findDoubt_3 rfl rfl ?_
    obtain ⟨v1, e2, h⟩ := obn_e h
    refine ow_get (r := x0) hX dX0_findDoubt_4 oF_RX0_24 (ovr_e e2) ?_
    obtain ⟨a3, e4, h⟩ := obn_e h
    obtain ⟨r7, s5, e6, h⟩ := oin_e h
    refine oc_RX0_86 (rb := v1)  hX dX0_findDoubt_7 (Nat.le_of_ble_eq_true rfl) e4 (hc _ _ _ _ e6) ?_
    refine os_icmp_ge (tgt := 75) hX dX0_findDoubt_10 (by decide) (fun c8 => ?_) (fun c8 => ?_)
    · rw [if_pos c8] at h
      exact os_vret hX dX0_findDoubt_75 rfl (Option.some.inj h)
    · rw [if_neg c8] at h
      refine os_aload_n (r := x0) hX dX0_findDoubt_13 rfl rfl ?_
      obtain ⟨v9, e10, h⟩ := obn_e h
      refine ow_get (r := x0) hX dX0_findDoubt_14 oF_RX0_24 (ovr_e e10) ?_
      refine os_iload_n hX dX0_findDoubt_17 rfl rfl ?_
      obtain ⟨a11, e12, h⟩ := obn_e h
      obtain ⟨r15, s13, e14, h⟩ := orn_e h
      refine oc_RX0_57 (rb := v9) (a1 := .int x1) hX dX0_findDoubt_18 (Nat.le_of_ble_eq_true rfl) e12 (hc _ _ _ _ e14) ?_
      obtain ⟨b16, h⟩ := ogd_e h
      refine ow_cs (r := r15) hX dX0_findDoubt_21 oK_RX0_90 b16 ?_
      refine os_astore_n (r := r15) hX dX0_findDoubt_24 rfl (by decide) rfl ?_
      dsimp only [List.set]
      refine os_aload_n (r := x0) hX dX0_findDoubt_25 rfl rfl ?_
      obtain ⟨v17, e18, h⟩ := obn_e h
      refine ow_get (r := x0) hX dX0_findDoubt_26 oF_RX0_33 (ovi_e e18) ?_
      refine os_if_lt (tgt := 43) hX dX0_findDoubt_29 (by decide) (fun c19 => ?_) (fun c19 => ?_)
      · rw [if_pos c19] at h
        exact qj_X0_findDoubt_43 hX hc hk2 h
      · rw [if_neg c19] at h
        refine os_aload_n (r := r15) hX dX0_findDoubt_32 rfl rfl ?_
        obtain ⟨v20, e21, h⟩ := obn_e h
        refine ow_get (r := r15) hX dX0_findDoubt_33 oF_RX0_92 (ovi_e e21) ?_
        refine os_aload_n (r := x0) hX dX0_findDoubt_36 rfl rfl ?_
        obtain ⟨v22, e23, h⟩ := obn_e h
        refine ow_get (r := x0) hX dX0_findDoubt_37 oF_RX0_33 (ovi_e e23) ?_
        refine os_icmp_ge (tgt := 69) hX dX0_findDoubt_40 (by decide) (fun c24 => ?_) (fun c24 => ?_)
        · rw [if_pos c24] at h
          refine os_weak hX (lw := [some (va_rf x0), some (.int x1), none]) ⟨rfl, rfl, trivial⟩ ?_
          exact qj_X0_findDoubt_69 hX hc hk2 h
        · rw [if_neg c24] at h
          exact qj_X0_findDoubt_43 hX hc hk2 h
set_option maxHeartbeats 4000000 in
theorem qb_X0_findDoubt {κ : oKv} {n : Nat} {call : oCl} {kc : Nat → List Value → oSt → Option Value × oSt → Prop} {v : Option Value × oSt} {X : Nat → zLv → List Value → oSt → Prop} (hX : oSem RX0 cX0_findDoubt 3 0 none κ kc v X) (hc : ∀ j av s w, call j av s = some w → kc j av s w) {x0 : Option Nat} {σ : oSt} (h : ob_X0_findDoubt n call κ x0 σ = some v) : X 0 [some (va_rf x0), none, none] [] σ := by
  rw [ob_X0_findDoubt] at h
  refine os_iconst (v := 0) hX dX0_findDoubt_0 (by decide) ?_
  refine os_istore_n hX dX0_findDoubt_1 rfl (by decide) (ozlo (i := 0) (r := x0) rfl) ?_
  dsimp only [List.set]
  exact ql_X0_findDoubt_2 hX hc n _ _ _ h
def oj_X0_lastChange_69 (n : Nat) (call : oCl) (κ : oKv) (k30 : Int32 → Option Nat → oSt → oRs) (x2 : Int32) (x3 : Option Nat) (σ : oSt) : oRs :=
  obn (ovr (ofd σ x3 10 3)) fun v1 =>
  k30 x2 v1 σ
def ol_X0_lastChange_30 (n : Nat) (call : oCl) (κ : oKv) : Nat → Int32 → Option Nat → oSt → oRs
  | 0, _, _, _ => none
  | f + 1, x2, x3, σ =>
    if x3 = none then
      some (some (.int x2), σ)
    else
      obn (ovr (ofd σ x3 10 0)) fun v2 =>
      if v2 = none then
        oj_X0_lastChange_69 n call κ (ol_X0_lastChange_30 n call κ f) x2 x3 σ
      else
        obn (ovr (ofd σ x3 10 0)) fun v5 =>
        obn (ovr (ofd σ v5 6 4)) fun v7 =>
        if v7 = none then
          oj_X0_lastChange_69 n call κ (ol_X0_lastChange_30 n call κ f) x2 x3 σ
        else
          obn (ovr (ofd σ x3 10 0)) fun v10 =>
          obn (ovr (ofd σ v10 6 4)) fun v12 =>
          obn (ovr (ofd σ v12 4 1)) fun v14 =>
          obn (ovi (ofd σ v14 4 8)) fun v16 =>
          oj_X0_lastChange_69 n call κ (ol_X0_lastChange_30 n call κ f) (if x2 < v16 then v16 else x2) x3 σ
def ob_X0_lastChange (n : Nat) (call : oCl) (κ : oKv) (x0 : Option Nat) (x1 : Int32) (σ : oSt) : oRs :=
  obn (ovr (ofd σ x0 2 4)) fun v1 =>
  obn (oob σ v1 1) fun a3 =>
  orn (call 234 [va_rf v1, .int x1] σ) fun r7 s5 =>
  ogd (ocs s5 r7 4) (
  obn (ovr (ofd s5 r7 4 1)) fun v9 =>
  obn (ovi (ofd s5 v9 4 8)) fun v11 =>
  obn (ovr (ofd s5 x0 2 3)) fun v13 =>
  obn (oob s5 v13 1) fun a15 =>
  orn (call 234 [va_rf v13, .int x1] s5) fun r19 s17 =>
  ogd (ocs s17 r19 10) (
  ol_X0_lastChange_30 n call κ n v11 r19 s17))
set_option maxHeartbeats 4000000 in
theorem qj_X0_lastChange_69 {κ : oKv} {n : Nat} {call : oCl} {kc : Nat → List Value → oSt → Option Value × oSt → Prop} {v : Option Value × oSt} {X : Nat → zLv → List Value → oSt → Prop} (hX : oSem RX0 cX0_lastChange 4 0 (some .int) κ kc v X) (hc : ∀ j av s w, call j av s = some w → kc j av s w) {k30 : Int32 → Option Nat → oSt → oRs} (hk30 : ∀ (x2 : Int32) (x3 : Option Nat) (s : oSt), k30 x2 x3 s = some v → X 30 [none, none, some (.int x2), some (va_rf x3)] [] s) {x2 : Int32} {x3 : Option Nat} {σ : oSt} (h : oj_X0_lastChange_69 n call κ k30 x2 x3 σ = some v) : X 69 [none, none, some (.int x2), some (va_rf x3)] [] σ := by
  rw [oj_X0_lastChange_69] at h
  refine os_aload_n (r := x3) hX dX0_lastChange_69 rfl rfl ?_
  obtain ⟨v1, e2, h⟩ := obn_e h
  refine ow_get (r := x3) hX dX0_lastChange_70 oF_RX0_136 (ovr_e e2) ?_
  refine os_astore_n (r := v1) hX dX0_lastChange_73 rfl (by decide) rfl ?_
  dsimp only [List.set]
  refine os_goto (tgt := 30) hX dX0_lastChange_74 (by decide) ?_
  exact hk30 _ _ _ h
set_option maxHeartbeats 4000000 in
theorem ql_X0_lastChange_30 {κ : oKv} {n : Nat} {call : oCl} {kc : Nat → List Value → oSt → Option Value × oSt → Prop} {v : Option Value × oSt} {X : Nat → zLv → List Value → oSt → Prop} (hX : oSem RX0 cX0_lastChange 4 0 (some .int) κ kc v X) (hc : ∀ j av s w, call j av s = some w → kc j av s w) : ∀ (f : Nat) (x2 : Int32) (x3 : Option Nat) (σ : oSt), ol_X0_lastChange_30 n call κ f x2 x3 σ = some v → X 30 [none, none, some (.int x2), some (va_rf x3)] [] σ := by
  intro f
  induction f with
  | zero => intro x2 x3 σ h; cases h
  | succ f hk30 =>
    intro x2 x3 σ h
    rw [ol_X0_lastChange_30] at h
    refine os_aload_n (r := x3) hX dX0_lastChange_30 rfl rfl ?_
    refine os_ifnull (r := x3) (tgt := 77) hX dX0_lastChange_31 (by decide) (fun c1 => ?_) (fun c1 => ?_)
    · rw [if_pos c1] at h
      refine os_iload_n hX dX0_lastChange_77 rfl rfl ?_
      exact os_iret hX dX0_lastChange_78 rfl (Option.some.inj h)
    · rw [if_neg c1] at h
      refine os_aload_n (r := x3) hX dX0_lastChange_34 rfl rfl ?_
      obtain ⟨v2, e3, h⟩ := obn_e h
      refine ow_get (r := x3) hX dX0_lastChange_35 oF_RX0_126 (ovr_e e3) ?_
      refine os_ifnull (r := v2) (tgt := 69) hX dX0_lastChange_38 (by decide) (fun c4 => ?_) (fun c4 => ?_)
      · rw [if_pos c4] at h
        exact qj_X0_lastChange_69 hX hc hk30 h
      · rw [if_neg c4] at h
        refine os_aload_n (r := x3) hX dX0_lastChange_41 rfl rfl ?_
        obtain ⟨v5, e6, h⟩ := obn_e h
        refine ow_get (r := x3) hX dX0_lastChange_42 oF_RX0_126 (ovr_e e6) ?_
        obtain ⟨v7, e8, h⟩ := obn_e h
        refine ow_get (r := v5) hX dX0_lastChange_45 oF_RX0_69 (ovr_e e8) ?_
        refine os_ifnull (r := v7) (tgt := 69) hX dX0_lastChange_48 (by decide) (fun c9 => ?_) (fun c9 => ?_)
        · rw [if_pos c9] at h
          exact qj_X0_lastChange_69 hX hc hk30 h
        · rw [if_neg c9] at h
          refine os_iload_n hX dX0_lastChange_51 rfl rfl ?_
          refine os_aload_n (r := x3) hX dX0_lastChange_52 rfl rfl ?_
          obtain ⟨v10, e11, h⟩ := obn_e h
          refine ow_get (r := x3) hX dX0_lastChange_53 oF_RX0_126 (ovr_e e11) ?_
          obtain ⟨v12, e13, h⟩ := obn_e h
          refine ow_get (r := v10) hX dX0_lastChange_56 oF_RX0_69 (ovr_e e13) ?_
          obtain ⟨v14, e15, h⟩ := obn_e h
          refine ow_get (r := v12) hX dX0_lastChange_59 oF_RX0_109 (ovr_e e15) ?_
          obtain ⟨v16, e17, h⟩ := obn_e h
          refine ow_get (r := v14) hX dX0_lastChange_62 oF_RX0_123 (ovi_e e17) ?_
          refine os_mmax hX dX0_lastChange_65 ommax_RX0_130 (Nat.le_of_ble_eq_true rfl) ?_
          refine os_istore_n hX dX0_lastChange_68 rfl (by decide) rfl ?_
          dsimp only [List.set]
          exact qj_X0_lastChange_69 hX hc hk30 h
set_option maxHeartbeats 4000000 in
theorem qb_X0_lastChange {κ : oKv} {n : Nat} {call : oCl} {kc : Nat → List Value → oSt → Option Value × oSt → Prop} {v : Option Value × oSt} {X : Nat → zLv → List Value → oSt → Prop} (hX : oSem RX0 cX0_lastChange 4 0 (some .int) κ kc v X) (hc : ∀ j av s w, call j av s = some w → kc j av s w) {x0 : Option Nat} {x1 : Int32} {σ : oSt} (h : ob_X0_lastChange n call κ x0 x1 σ = some v) : X 0 [some (va_rf x0), some (.int x1), none, none] [] σ := by
  rw [ob_X0_lastChange] at h
  refine os_aload_n (r := x0) hX dX0_lastChange_0 rfl rfl ?_
  obtain ⟨v1, e2, h⟩ := obn_e h
  refine ow_get (r := x0) hX dX0_lastChange_1 oF_RX0_18 (ovr_e e2) ?_
  refine os_iload_n hX dX0_lastChange_4 rfl rfl ?_
  obtain ⟨a3, e4, h⟩ := obn_e h
  obtain ⟨r7, s5, e6, h⟩ := orn_e h
  refine oc_RX0_57 (rb := v1) (a1 := .int x1) hX dX0_lastChange_5 (Nat.le_of_ble_eq_true rfl) e4 (hc _ _ _ _ e6) ?_
  obtain ⟨b8, h⟩ := ogd_e h
  refine ow_cs (r := r7) hX dX0_lastChange_8 oK_RX0_61 b8 ?_
  obtain ⟨v9, e10, h⟩ := obn_e h
  refine ow_get (r := r7) hX dX0_lastChange_11 oF_RX0_109 (ovr_e e10) ?_
  obtain ⟨v11, e12, h⟩ := obn_e h
  refine ow_get (r := v9) hX dX0_lastChange_14 oF_RX0_123 (ovi_e e12) ?_
  refine os_istore_n hX dX0_lastChange_17 rfl (by decide) rfl ?_
  dsimp only [List.set]
  refine os_aload_n (r := x0) hX dX0_lastChange_18 rfl rfl ?_
  obtain ⟨v13, e14, h⟩ := obn_e h
  refine ow_get (r := x0) hX dX0_lastChange_19 oF_RX0_12 (ovr_e e14) ?_
  refine os_iload_n hX dX0_lastChange_22 rfl rfl ?_
  obtain ⟨a15, e16, h⟩ := obn_e h
  obtain ⟨r19, s17, e18, h⟩ := orn_e h
  refine oc_RX0_57 (rb := v13) (a1 := .int x1) hX dX0_lastChange_23 (Nat.le_of_ble_eq_true rfl) e16 (hc _ _ _ _ e18) ?_
  obtain ⟨b20, h⟩ := ogd_e h
  refine ow_cs (r := r19) hX dX0_lastChange_26 oK_RX0_73 b20 ?_
  refine os_astore_n (r := r19) hX dX0_lastChange_29 rfl (by decide) rfl ?_
  dsimp only [List.set]
  refine os_weak hX (lw := [none, none, some (.int v11), some (va_rf r19)]) ⟨rfl, rfl, trivial⟩ ?_
  exact ql_X0_lastChange_30 hX hc n _ _ _ h
def ob_X1_weaken (n : Nat) (call : oCl) (κ : oKv) (x0 : Option Nat) (x1 : Option Nat) (x2 : Option Nat) (x3 : Option Nat) (σ : oSt) : oRs :=
  obn (ovr (ofd σ x3 4 1)) fun v1 =>
  obn (ovi (ofd σ v1 4 7)) fun v3 =>
  obn (opf σ x0 3 8 (va_rf x3)) fun s5 =>
  obn (oob s5 x0 3) fun a7 =>
  ocv (call 57 [va_rf x0, va_rf x1, va_rf x2] s5) fun s9 =>
  obn (ovr (ofd s9 x0 3 0)) fun v12 =>
  obn (oob s9 v12 8) fun a14 =>
  ocv (call 58 [va_rf v12] s9) fun s16 =>
  obn (oob s16 x0 3) fun a19 =>
  ocv (call 63 [va_rf x0, .int 0] s16) fun s21 =>
  obn (ovr (ofd s21 x3 4 1)) fun v24 =>
  obn (ovi (ofd s21 v24 4 7)) fun v26 =>
  if v3 ≤ v26 then
    some (some (.int 0), s21)
  else
    some (some (.int 1), s21)
set_option maxHeartbeats 4000000 in
theorem qb_X1_weaken {κ : oKv} {n : Nat} {call : oCl} {kc : Nat → List Value → oSt → Option Value × oSt → Prop} {v : Option Value × oSt} {X : Nat → zLv → List Value → oSt → Prop} (hX : oSem RX1 cX1_weaken 5 0 (some .boolean) κ kc v X) (hc : ∀ j av s w, call j av s = some w → kc j av s w) {x0 : Option Nat} {x1 : Option Nat} {x2 : Option Nat} {x3 : Option Nat} {σ : oSt} (h : ob_X1_weaken n call κ x0 x1 x2 x3 σ = some v) : X 0 [some (va_rf x0), some (va_rf x1), some (va_rf x2), some (va_rf x3), none] [] σ := by
  rw [ob_X1_weaken] at h
  refine os_aload_n (r := x3) hX dX1_weaken_0 rfl rfl ?_
  obtain ⟨v1, e2, h⟩ := obn_e h
  refine ow_get (r := x3) hX dX1_weaken_1 oF_RX1_37 (ovr_e e2) ?_
  obtain ⟨v3, e4, h⟩ := obn_e h
  refine ow_get (r := v1) hX dX1_weaken_4 oF_RX1_43 (ovi_e e4) ?_
  refine os_istore hX dX1_weaken_7 (by decide) (ozlo (i := 3) (r := x3) rfl) ?_
  dsimp only [List.set]
  refine os_aload_n (r := x0) hX dX1_weaken_9 rfl rfl ?_
  refine os_aload_n (r := x3) hX dX1_weaken_10 rfl rfl ?_
  obtain ⟨s5, e6, h⟩ := obn_e h
  refine ow_put (r := x0) (x := va_rf x3) hX dX1_weaken_11 oF_RX1_47 (by decide) (orf_n (Or.inl ⟨_, oT_3_8⟩) x3) e6 ?_
  refine os_aload_n (r := x0) hX dX1_weaken_14 rfl rfl ?_
  refine os_aload_n (r := x1) hX dX1_weaken_15 rfl rfl ?_
  refine os_aload_n (r := x2) hX dX1_weaken_16 rfl rfl ?_
  obtain ⟨a7, e8, h⟩ := obn_e h
  obtain ⟨s9, e10, h⟩ := ocv_e h
  refine oc_RX1_50 (rb := x0) (a1 := va_rf x1) (a2 := va_rf x2) hX dX1_weaken_17 (Nat.le_of_ble_eq_true rfl) e8 (hc _ _ _ _ e10) ?_
  refine os_aload_n (r := x0) hX dX1_weaken_20 rfl rfl ?_
  obtain ⟨v12, e13, h⟩ := obn_e h
  refine ow_get (r := x0) hX dX1_weaken_21 oF_RX1_12 (ovr_e e13) ?_
  obtain ⟨a14, e15, h⟩ := obn_e h
  obtain ⟨s16, e17, h⟩ := ocv_e h
  refine oc_RX1_54 (rb := v12)  hX dX1_weaken_24 (Nat.le_of_ble_eq_true rfl) e15 (hc _ _ _ _ e17) ?_
  refine os_aload_n (r := x0) hX dX1_weaken_27 rfl rfl ?_
  refine os_iconst (v := 0) hX dX1_weaken_28 (by decide) ?_
  obtain ⟨a19, e20, h⟩ := obn_e h
  obtain ⟨s21, e22, h⟩ := ocv_e h
  refine oc_RX1_57 (rb := x0) (a1 := .int 0) hX dX1_weaken_29 (Nat.le_of_ble_eq_true rfl) e20 (hc _ _ _ _ e22) ?_
  refine os_aload_n (r := x3) hX dX1_weaken_32 rfl rfl ?_
  obtain ⟨v24, e25, h⟩ := obn_e h
  refine ow_get (r := x3) hX dX1_weaken_33 oF_RX1_37 (ovr_e e25) ?_
  obtain ⟨v26, e27, h⟩ := obn_e h
  refine ow_get (r := v24) hX dX1_weaken_36 oF_RX1_43 (ovi_e e27) ?_
  refine os_iload hX dX1_weaken_39 rfl ?_
  refine os_icmp_ge (tgt := 48) hX dX1_weaken_41 (by decide) (fun c28 => ?_) (fun c28 => ?_)
  · rw [if_pos c28] at h
    refine os_iconst (v := 0) hX dX1_weaken_48 (by decide) ?_
    exact os_nret (ty := .boolean) hX dX1_weaken_49 rfl rfl (by decide) (Option.some.inj h)
  · rw [if_neg c28] at h
    refine os_iconst (v := 1) hX dX1_weaken_44 (by decide) ?_
    refine os_goto (tgt := 49) hX dX1_weaken_45 (by decide) ?_
    exact os_nret (ty := .boolean) hX dX1_weaken_49 rfl rfl (by decide) (Option.some.inj h)
def oj_X0_weakenAll_140 (n : Nat) (call : oCl) (κ : oKv) (k17 : Option Nat → Option Nat → Int32 → Int32 → Int32 → oSt → oRs) (k33 : Option Nat → Option Nat → Int32 → Int32 → Int32 → Int32 → oSt → oRs) (x0 : Option Nat) (x1 : Option Nat) (x2 : Int32) (x3 : Int32) (x4 : Int32) (x5 : Int32) (σ : oSt) : oRs :=
  k33 x0 x1 x2 x3 x4 (x5 + 1) σ
def ol_X0_weakenAll_33 (n : Nat) (call : oCl) (κ : oKv) (k17 : Option Nat → Option Nat → Int32 → Int32 → Int32 → oSt → oRs) : Nat → Option Nat → Option Nat → Int32 → Int32 → Int32 → Int32 → oSt → oRs
  | 0, _, _, _, _, _, _, _ => none
  | f + 1, x0, x1, x2, x3, x4, x5, σ =>
    obn (oln2 κ σ x1) fun v1 =>
    if v1 ≤ x5 then
      k17 x0 x1 x2 x3 (x4 + 1) σ
    else
      obn (ovr (ofd σ x0 2 5)) fun v4 =>
      obn (oob σ v4 1) fun a6 =>
      orn (call 234 [va_rf v4, .int x5] σ) fun r10 s8 =>
      ogd (ocs s8 r10 4) (
      obn (ovr (ofd s8 r10 4 1)) fun v12 =>
      obn (ovi (ofd s8 v12 4 7)) fun v14 =>
      if v14 ≤ 0 then
        oj_X0_weakenAll_140 n call κ k17 (ol_X0_weakenAll_33 n call κ k17 f) x0 x1 x2 x3 x4 x5 s8
      else
        obn (oob s8 x0 2) fun a17 =>
        oin (call 66 [va_rf x0, .int x5] s8) fun r21 s19 =>
        obn (oai s19 x1 .int x5) fun v22 =>
        if r21 < v22 then
          oj_X0_weakenAll_140 n call κ k17 (ol_X0_weakenAll_33 n call κ k17 f) x0 x1 x2 x3 x4 x5 s19
        else
          obn (osi s19 x1 .int x5 (x2 + 1)) fun s25 =>
          obn (ovr (ofd s25 x0 2 2)) fun v27 =>
          obn (ovr (ofd s25 x0 2 3)) fun v29 =>
          obn (oob s25 v29 1) fun a31 =>
          orn (call 234 [va_rf v29, .int x5] s25) fun r35 s33 =>
          ogd (ocs s33 r35 10) (
          obn (ovr (ofd s33 x0 2 4)) fun v37 =>
          obn (oob s33 v37 1) fun a39 =>
          orn (call 234 [va_rf v37, .int x5] s33) fun r43 s41 =>
          ogd (ocs s41 r43 4) (
          obn (ovr (ofd s41 x0 2 5)) fun v45 =>
          obn (oob s41 v45 1) fun a47 =>
          orn (call 234 [va_rf v45, .int x5] s41) fun r51 s49 =>
          ogd (ocs s49 r51 4) (
          obn (oob s49 v27 3) fun a53 =>
          oin (call 67 [va_rf v27, va_rf r35, va_rf r43, va_rf r51] s49) fun r57 s55 =>
          if r57 = 0 then
            oj_X0_weakenAll_140 n call κ k17 (ol_X0_weakenAll_33 n call κ k17 f) x0 x1 (x2 + 1) x3 x4 x5 s55
          else
            obn (opf s55 v12 4 8 (.int (x2 + 1))) fun s59 =>
            oj_X0_weakenAll_140 n call κ k17 (ol_X0_weakenAll_33 n call κ k17 f) x0 x1 (x2 + 1) 1 x4 x5 s59))))
def ol_X0_weakenAll_17 (n : Nat) (call : oCl) (κ : oKv) : Nat → Option Nat → Option Nat → Int32 → Int32 → Int32 → oSt → oRs
  | 0, _, _, _, _, _, _ => none
  | f + 1, x0, x1, x2, x3, x4, σ =>
    if 1000000 ≤ x4 then
      some (none, σ)
    else
      if x3 = 0 then
        some (none, σ)
      else
        ol_X0_weakenAll_33 n call κ (ol_X0_weakenAll_17 n call κ f) n x0 x1 x2 0 x4 0 σ
def ob_X0_weakenAll (n : Nat) (call : oCl) (κ : oKv) (x0 : Option Nat) (σ : oSt) : oRs :=
  obn (ovr (ofd σ x0 2 5)) fun v1 =>
  obn (oob σ v1 1) fun a3 =>
  oin (call 236 [va_rf v1] σ) fun r7 s5 =>
  ogd (onn r7) (
  olet (onew s5 (.inl (.int, r7.toNatClampNeg, .inl (fun _ => 0))) r7.toNatClampNeg) fun s8 =>
  ol_X0_weakenAll_17 n call κ n x0 (some s5.2.1) 0 1 0 s8)
set_option maxHeartbeats 4000000 in
theorem qj_X0_weakenAll_140 {κ : oKv} {n : Nat} {call : oCl} {kc : Nat → List Value → oSt → Option Value × oSt → Prop} {v : Option Value × oSt} {X : Nat → zLv → List Value → oSt → Prop} (hX : oSem RX0 cX0_weakenAll 7 0 none κ kc v X) (hc : ∀ j av s w, call j av s = some w → kc j av s w) {k17 : Option Nat → Option Nat → Int32 → Int32 → Int32 → oSt → oRs} (hk17 : ∀ (x0 : Option Nat) (x1 : Option Nat) (x2 : Int32) (x3 : Int32) (x4 : Int32) (s : oSt), k17 x0 x1 x2 x3 x4 s = some v → X 17 [some (va_rf x0), some (va_rf x1), some (.int x2), some (.int x3), some (.int x4), none, none] [] s) {k33 : Option Nat → Option Nat → Int32 → Int32 → Int32 → Int32 → oSt → oRs} (hk33 : ∀ (x0 : Option Nat) (x1 : Option Nat) (x2 : Int32) (x3 : Int32) (x4 : Int32) (x5 : Int32) (s : oSt), k33 x0 x1 x2 x3 x4 x5 s = some v → X 33 [some (va_rf x0), some (va_rf x1), some (.int x2), some (.int x3), some (.int x4), some (.int x5), none] [] s) {x0 : Option Nat} {x1 : Option Nat} {x2 : Int32} {x3 : Int32} {x4 : Int32} {x5 : Int32} {σ : oSt} (h : oj_X0_weakenAll_140 n call κ k17 k33 x0 x1 x2 x3 x4 x5 σ = some v) : X 140 [some (va_rf x0), some (va_rf x1), some (.int x2), some (.int x3), some (.int x4), some (.int x5), none] [] σ := by
  rw [oj_X0_weakenAll_140] at h
  refine os_iinc (v := x5 + 1) hX dX0_weakenAll_140 rfl rfl (by decide) rfl ?_
  dsimp only [List.set]
  refine os_goto (tgt := 33) hX dX0_weakenAll_143 (by decide) ?_
  exact hk33 _ _ _ _ _ _ _ h
set_option maxHeartbeats 4000000 in
theorem ql_X0_weakenAll_33 {κ : oKv} {n : Nat} {call : oCl} {kc : Nat → List Value → oSt → Option Value × oSt → Prop} {v : Option Value × oSt} {X : Nat → zLv → List Value → oSt → Prop} (hX : oSem RX0 cX0_weakenAll 7 0 none κ kc v X) (hc : ∀ j av s w, call j av s = some w → kc j av s w) {k17 : Option Nat → Option Nat → Int32 → Int32 → Int32 → oSt → oRs} (hk17 : ∀ (x0 : Option Nat) (x1 : Option Nat) (x2 : Int32) (x3 : Int32) (x4 : Int32) (s : oSt), k17 x0 x1 x2 x3 x4 s = some v → X 17 [some (va_rf x0), some (va_rf x1), some (.int x2), some (.int x3), some (.int x4), none, none] [] s) : ∀ (f : Nat) (x0 : Option Nat) (x1 : Option Nat) (x2 : Int32) (x3 : Int32) (x4 : Int32) (x5 : Int32) (σ : oSt), ol_X0_weakenAll_33 n call κ k17 f x0 x1 x2 x3 x4 x5 σ = some v → X 33 [some (va_rf x0), some (va_rf x1), some (.int x2), some (.int x3), some (.int x4), some (.int x5), none] [] σ := by
  intro f
  induction f with
  | zero => intro x0 x1 x2 x3 x4 x5 σ h; cases h
  | succ f hk33 =>
    intro x0 x1 x2 x3 x4 x5 σ h
    rw [ol_X0_weakenAll_33] at h
    refine os_iload hX dX0_weakenAll_33 rfl ?_
    refine os_aload_n (r := x1) hX dX0_weakenAll_35 rfl rfl ?_
    obtain ⟨v1, e2, h⟩ := obn_e h
    refine ow_len (r := x1) hX dX0_weakenAll_36 e2 ?_
    refine os_icmp_ge (tgt := 146) hX dX0_weakenAll_37 (by decide) (fun c3 => ?_) (fun c3 => ?_)
    · rw [if_pos c3] at h
      refine os_iinc (v := x4 + 1) hX dX0_weakenAll_146 rfl rfl (by decide) rfl ?_
      dsimp only [List.set]
      refine os_goto (tgt := 17) hX dX0_weakenAll_149 (by decide) ?_
      refine os_weak hX (lw := [some (va_rf x0), some (va_rf x1), some (.int x2), some (.int x3), some (.int (x4 + 1)), none, none]) ⟨rfl, rfl, rfl, rfl, rfl, trivial⟩ ?_
      exact hk17 _ _ _ _ _ _ h
    · rw [if_neg c3] at h
      refine os_aload_n (r := x0) hX dX0_weakenAll_40 rfl rfl ?_
      obtain ⟨v4, e5, h⟩ := obn_e h
      refine ow_get (r := x0) hX dX0_weakenAll_41 oF_RX0_21 (ovr_e e5) ?_
      refine os_iload hX dX0_weakenAll_44 rfl ?_
      obtain ⟨a6, e7, h⟩ := obn_e h
      obtain ⟨r10, s8, e9, h⟩ := orn_e h
      refine oc_RX0_57 (rb := v4) (a1 := .int x5) hX dX0_weakenAll_46 (Nat.le_of_ble_eq_true rfl) e7 (hc _ _ _ _ e9) ?_
      obtain ⟨b11, h⟩ := ogd_e h
      refine ow_cs (r := r10) hX dX0_weakenAll_49 oK_RX0_61 b11 ?_
      obtain ⟨v12, e13, h⟩ := obn_e h
      refine ow_get (r := r10) hX dX0_weakenAll_52 oF_RX0_109 (ovr_e e13) ?_
      refine os_astore (r := v12) hX dX0_weakenAll_55 (by decide) rfl ?_
      dsimp only [List.set]
      refine os_aload (r := v12) hX dX0_weakenAll_57 rfl ?_
      obtain ⟨v14, e15, h⟩ := obn_e h
      refine ow_get (r := v12) hX dX0_weakenAll_59 oF_RX0_112 (ovi_e e15) ?_
      refine os_if_le (tgt := 140) hX dX0_weakenAll_62 (by decide) (fun c16 => ?_) (fun c16 => ?_)
      · rw [if_pos c16] at h
        refine os_weak hX (lw := [some (va_rf x0), some (va_rf x1), some (.int x2), some (.int x3), some (.int x4), some (.int x5), none]) ⟨rfl, rfl, rfl, rfl, rfl, rfl, trivial⟩ ?_
        exact qj_X0_weakenAll_140 hX hc hk17 hk33 h
      · rw [if_neg c16] at h
        refine os_aload_n (r := x0) hX dX0_weakenAll_65 rfl rfl ?_
        refine os_iload hX dX0_weakenAll_66 rfl ?_
        obtain ⟨a17, e18, h⟩ := obn_e h
        obtain ⟨r21, s19, e20, h⟩ := oin_e h
        refine oc_RX0_115 (rb := x0) (a1 := .int x5) hX dX0_weakenAll_68 (Nat.le_of_ble_eq_true rfl) e18 (hc _ _ _ _ e20) ?_
        refine os_aload_n (r := x1) hX dX0_weakenAll_71 rfl rfl ?_
        refine os_iload hX dX0_weakenAll_72 rfl ?_
        obtain ⟨v22, e23, h⟩ := obn_e h
        refine ow_ai (r := x1) (i := x5) hX dX0_weakenAll_74 e23 ?_
        refine os_icmp_lt (tgt := 140) hX dX0_weakenAll_75 (by decide) (fun c24 => ?_) (fun c24 => ?_)
        · rw [if_pos c24] at h
          refine os_weak hX (lw := [some (va_rf x0), some (va_rf x1), some (.int x2), some (.int x3), some (.int x4), some (.int x5), none]) ⟨rfl, rfl, rfl, rfl, rfl, rfl, trivial⟩ ?_
          exact qj_X0_weakenAll_140 hX hc hk17 hk33 h
        · rw [if_neg c24] at h
          refine os_iinc (v := x2 + 1) hX dX0_weakenAll_78 rfl rfl (by decide) (ozlo (i := 1) (r := x1) rfl) ?_
          dsimp only [List.set]
          refine os_aload_n (r := x1) hX dX0_weakenAll_81 rfl rfl ?_
          refine os_iload hX dX0_weakenAll_82 rfl ?_
          refine os_iload_n hX dX0_weakenAll_84 rfl rfl ?_
          obtain ⟨s25, e26, h⟩ := obn_e h
          refine ow_si (r := x1) (i := x5) (x := (x2 + 1)) hX dX0_weakenAll_85 e26 ?_
          refine os_aload_n (r := x0) hX dX0_weakenAll_86 rfl rfl ?_
          obtain ⟨v27, e28, h⟩ := obn_e h
          refine ow_get (r := x0) hX dX0_weakenAll_87 oF_RX0_45 (ovr_e e28) ?_
          refine os_aload_n (r := x0) hX dX0_weakenAll_90 rfl rfl ?_
          obtain ⟨v29, e30, h⟩ := obn_e h
          refine ow_get (r := x0) hX dX0_weakenAll_91 oF_RX0_12 (ovr_e e30) ?_
          refine os_iload hX dX0_weakenAll_94 rfl ?_
          obtain ⟨a31, e32, h⟩ := obn_e h
          obtain ⟨r35, s33, e34, h⟩ := orn_e h
          refine oc_RX0_57 (rb := v29) (a1 := .int x5) hX dX0_weakenAll_96 (by simp only [List.map_cons, List.map_nil, List.sum_cons, List.sum_nil, ocat]; exact Nat.le_of_ble_eq_true rfl) e32 (hc _ _ _ _ e34) ?_
          obtain ⟨b36, h⟩ := ogd_e h
          refine ow_cs (r := r35) hX dX0_weakenAll_99 oK_RX0_73 b36 ?_
          refine os_aload_n (r := x0) hX dX0_weakenAll_102 rfl rfl ?_
          obtain ⟨v37, e38, h⟩ := obn_e h
          refine ow_get (r := x0) hX dX0_weakenAll_103 oF_RX0_18 (ovr_e e38) ?_
          refine os_iload hX dX0_weakenAll_106 rfl ?_
          obtain ⟨a39, e40, h⟩ := obn_e h
          obtain ⟨r43, s41, e42, h⟩ := orn_e h
          refine oc_RX0_57 (rb := v37) (a1 := .int x5) hX dX0_weakenAll_108 (by simp only [List.map_cons, List.map_nil, List.sum_cons, List.sum_nil, ocat]; exact Nat.le_of_ble_eq_true rfl) e40 (hc _ _ _ _ e42) ?_
          obtain ⟨b44, h⟩ := ogd_e h
          refine ow_cs (r := r43) hX dX0_weakenAll_111 oK_RX0_61 b44 ?_
          refine os_aload_n (r := x0) hX dX0_weakenAll_114 rfl rfl ?_
          obtain ⟨v45, e46, h⟩ := obn_e h
          refine ow_get (r := x0) hX dX0_weakenAll_115 oF_RX0_21 (ovr_e e46) ?_
          refine os_iload hX dX0_weakenAll_118 rfl ?_
          obtain ⟨a47, e48, h⟩ := obn_e h
          obtain ⟨r51, s49, e50, h⟩ := orn_e h
          refine oc_RX0_57 (rb := v45) (a1 := .int x5) hX dX0_weakenAll_120 (by simp only [List.map_cons, List.map_nil, List.sum_cons, List.sum_nil, ocat]; exact Nat.le_of_ble_eq_true rfl) e48 (hc _ _ _ _ e50) ?_
          obtain ⟨b52, h⟩ := ogd_e h
          refine ow_cs (r := r51) hX dX0_weakenAll_123 oK_RX0_61 b52 ?_
          obtain ⟨a53, e54, h⟩ := obn_e h
          obtain ⟨r57, s55, e56, h⟩ := oin_e h
          refine oc_RX0_119 (rb := v27) (a1 := va_rf r35) (a2 := va_rf r43) (a3 := va_rf r51) hX dX0_weakenAll_126 (Nat.le_of_ble_eq_true rfl) e54 (hc _ _ _ _ e56) ?_
          refine os_if_eq (tgt := 140) hX dX0_weakenAll_129 (by decide) (fun c58 => ?_) (fun c58 => ?_)
          · rw [if_pos c58] at h
            refine os_weak hX (lw := [some (va_rf x0), some (va_rf x1), some (.int (x2 + 1)), some (.int x3), some (.int x4), some (.int x5), none]) ⟨rfl, rfl, rfl, rfl, rfl, rfl, trivial⟩ ?_
            exact qj_X0_weakenAll_140 hX hc hk17 hk33 h
          · rw [if_neg c58] at h
            refine os_aload (r := v12) hX dX0_weakenAll_132 rfl ?_
            refine os_iload_n hX dX0_weakenAll_134 rfl rfl ?_
            obtain ⟨s59, e60, h⟩ := obn_e h
            refine ow_put (r := v12) (x := .int (x2 + 1)) hX dX0_weakenAll_135 oF_RX0_123 (by decide) (opn_I oT_4_8) e60 ?_
            refine os_iconst (v := 1) hX dX0_weakenAll_138 (by decide) ?_
            refine os_istore_n hX dX0_weakenAll_139 rfl (by decide) rfl ?_
            dsimp only [List.set]
            refine os_weak hX (lw := [some (va_rf x0), some (va_rf x1), some (.int (x2 + 1)), some (.int 1), some (.int x4), some (.int x5), none]) ⟨rfl, rfl, rfl, rfl, rfl, rfl, trivial⟩ ?_
            exact qj_X0_weakenAll_140 hX hc hk17 hk33 h
set_option maxHeartbeats 4000000 in
theorem ql_X0_weakenAll_17 {κ : oKv} {n : Nat} {call : oCl} {kc : Nat → List Value → oSt → Option Value × oSt → Prop} {v : Option Value × oSt} {X : Nat → zLv → List Value → oSt → Prop} (hX : oSem RX0 cX0_weakenAll 7 0 none κ kc v X) (hc : ∀ j av s w, call j av s = some w → kc j av s w) : ∀ (f : Nat) (x0 : Option Nat) (x1 : Option Nat) (x2 : Int32) (x3 : Int32) (x4 : Int32) (σ : oSt), ol_X0_weakenAll_17 n call κ f x0 x1 x2 x3 x4 σ = some v → X 17 [some (va_rf x0), some (va_rf x1), some (.int x2), some (.int x3), some (.int x4), none, none] [] σ := by
  intro f
  induction f with
  | zero => intro x0 x1 x2 x3 x4 σ h; cases h
  | succ f hk17 =>
    intro x0 x1 x2 x3 x4 σ h
    rw [ol_X0_weakenAll_17] at h
    refine os_iload hX dX0_weakenAll_17 rfl ?_
    refine os_ldc (x := 1000000) hX dX0_weakenAll_19 oCI_RX0_108 ?_
    refine os_icmp_ge (tgt := 152) hX dX0_weakenAll_21 (by decide) (fun c1 => ?_) (fun c1 => ?_)
    · rw [if_pos c1] at h
      exact os_vret hX dX0_weakenAll_152 rfl (Option.some.inj h)
    · rw [if_neg c1] at h
      refine os_iload_n hX dX0_weakenAll_24 rfl rfl ?_
      refine os_if_eq (tgt := 152) hX dX0_weakenAll_25 (by decide) (fun c2 => ?_) (fun c2 => ?_)
      · rw [if_pos c2] at h
        exact os_vret hX dX0_weakenAll_152 rfl (Option.some.inj h)
      · rw [if_neg c2] at h
        refine os_iconst (v := 0) hX dX0_weakenAll_28 (by decide) ?_
        refine os_istore_n hX dX0_weakenAll_29 rfl (by decide) rfl ?_
        dsimp only [List.set]
        refine os_iconst (v := 0) hX dX0_weakenAll_30 (by decide) ?_
        refine os_istore hX dX0_weakenAll_31 (by decide) rfl ?_
        dsimp only [List.set]
        exact ql_X0_weakenAll_33 hX hc hk17 n _ _ _ _ _ _ _ h
set_option maxHeartbeats 4000000 in
theorem qb_X0_weakenAll {κ : oKv} {n : Nat} {call : oCl} {kc : Nat → List Value → oSt → Option Value × oSt → Prop} {v : Option Value × oSt} {X : Nat → zLv → List Value → oSt → Prop} (hX : oSem RX0 cX0_weakenAll 7 0 none κ kc v X) (hc : ∀ j av s w, call j av s = some w → kc j av s w) {x0 : Option Nat} {σ : oSt} (h : ob_X0_weakenAll n call κ x0 σ = some v) : X 0 [some (va_rf x0), none, none, none, none, none, none] [] σ := by
  rw [ob_X0_weakenAll] at h
  refine os_aload_n (r := x0) hX dX0_weakenAll_0 rfl rfl ?_
  obtain ⟨v1, e2, h⟩ := obn_e h
  refine ow_get (r := x0) hX dX0_weakenAll_1 oF_RX0_21 (ovr_e e2) ?_
  obtain ⟨a3, e4, h⟩ := obn_e h
  obtain ⟨r7, s5, e6, h⟩ := oin_e h
  refine oc_RX0_86 (rb := v1)  hX dX0_weakenAll_4 (Nat.le_of_ble_eq_true rfl) e4 (hc _ _ _ _ e6) ?_
  obtain ⟨b10, h⟩ := ogd_e h
  obtain ⟨s8, e9, h⟩ := olet_e h
  refine os_newI hX dX0_weakenAll_7 (onn_e b10).1 (onn_e b10).2 ?_
  rw [← e9]
  refine os_astore_n (r := (some s5.2.1)) hX dX0_weakenAll_9 rfl (by decide) (ozlo (i := 0) (r := x0) rfl) ?_
  dsimp only [List.set]
  refine os_iconst (v := 0) hX dX0_weakenAll_10 (by decide) ?_
  refine os_istore_n hX dX0_weakenAll_11 rfl (by decide) (ozlo (i := 1) (r := (some s5.2.1)) rfl) ?_
  dsimp only [List.set]
  refine os_iconst (v := 1) hX dX0_weakenAll_12 (by decide) ?_
  refine os_istore_n hX dX0_weakenAll_13 rfl (by decide) rfl ?_
  dsimp only [List.set]
  refine os_iconst (v := 0) hX dX0_weakenAll_14 (by decide) ?_
  refine os_istore hX dX0_weakenAll_15 (by decide) rfl ?_
  dsimp only [List.set]
  exact ql_X0_weakenAll_17 hX hc n _ _ _ _ _ _ h
def ob_X6_init (n : Nat) (call : oCl) (κ : oKv) (x0 : Option Nat) (σ : oSt) : oRs :=
  obn (x0) fun a1 =>
  ogd (onn 0) (
  olet (onew σ (.inl (.long, (0 : Int32).toNatClampNeg, .inr (.inl (fun _ => 0)))) (0 : Int32).toNatClampNeg) fun s3 =>
  obn (opf s3 x0 8 0 (va_rf (some σ.2.1))) fun s6 =>
  some (none, s6))
set_option maxHeartbeats 4000000 in
theorem qb_X6_init {κ : oKv} {n : Nat} {call : oCl} {kc : Nat → List Value → oSt → Option Value × oSt → Prop} {v : Option Value × oSt} {X : Nat → zLv → List Value → oSt → Prop} (hX : oSem RX6 cX6_init 1 2 none κ kc v X) (hc : ∀ j av s w, call j av s = some w → kc j av s w) {x0 : Option Nat} {σ : oSt} (h : ob_X6_init n call κ x0 σ = some v) : X 0 [some (va_rf x0)] [] σ := by
  rw [ob_X6_init] at h
  refine os_aload_n (r := x0) hX dX6_init_0 rfl rfl ?_
  obtain ⟨a1, e2, h⟩ := obn_e h
  refine ow_oI (r := x0) hX dX6_init_1 oI_RX6_1 (Nat.le_of_ble_eq_true rfl) e2 ?_
  refine os_aload_n (r := x0) hX dX6_init_4 rfl rfl ?_
  refine os_iconst (v := 0) hX dX6_init_5 (by decide) ?_
  obtain ⟨b5, h⟩ := ogd_e h
  obtain ⟨s3, e4, h⟩ := olet_e h
  refine os_newJ hX dX6_init_6 (onn_e b5).1 (onn_e b5).2 ?_
  rw [← e4]
  obtain ⟨s6, e7, h⟩ := obn_e h
  refine ow_put (r := x0) (x := va_rf (some σ.2.1)) hX dX6_init_8 oF_RX6_7 (by decide) (orf_n (Or.inr ⟨_, oT_8_0⟩) (some σ.2.1)) e7 ?_
  exact os_vret hX dX6_init_11 rfl (Option.some.inj h)
def ob_X1_init (n : Nat) (call : oCl) (κ : oKv) (x0 : Option Nat) (σ : oSt) : oRs :=
  obn (x0) fun a1 =>
  olet (onew σ (.inr (8, odef 8)) (oq 8).2.2) fun s3 =>
  obn ((some σ.2.1)) fun a5 =>
  ocv (call 69 [va_rf (some σ.2.1)] s3) fun s7 =>
  obn (opf s7 x0 3 0 (va_rf (some σ.2.1))) fun s10 =>
  ogd (onn 40) (
  olet (onew s10 (.inl (.object (oq 7).1, (40 : Int32).toNatClampNeg, .inr (.inr (.inr (.inr (fun _ => none)))))) (40 : Int32).toNatClampNeg) fun s12 =>
  obn (opf s12 x0 3 1 (va_rf (some s10.2.1))) fun s15 =>
  ogd (onn 40) (
  olet (onew s15 (.inl (.boolean, (40 : Int32).toNatClampNeg, .inl (fun _ => 0))) (40 : Int32).toNatClampNeg) fun s17 =>
  obn (opf s17 x0 3 2 (va_rf (some s15.2.1))) fun s20 =>
  ogd (onn 40) (
  olet (onew s20 (.inl (.object (oq 6).1, (40 : Int32).toNatClampNeg, .inr (.inr (.inr (.inr (fun _ => none)))))) (40 : Int32).toNatClampNeg) fun s22 =>
  obn (opf s22 x0 3 4 (va_rf (some s20.2.1))) fun s25 =>
  ogd (onn 40) (
  olet (onew s25 (.inl (.boolean, (40 : Int32).toNatClampNeg, .inl (fun _ => 0))) (40 : Int32).toNatClampNeg) fun s27 =>
  obn (opf s27 x0 3 5 (va_rf (some s25.2.1))) fun s30 =>
  some (none, s30)))))
set_option maxHeartbeats 4000000 in
theorem qb_X1_init {κ : oKv} {n : Nat} {call : oCl} {kc : Nat → List Value → oSt → Option Value × oSt → Prop} {v : Option Value × oSt} {X : Nat → zLv → List Value → oSt → Prop} (hX : oSem RX1 cX1_init 1 2 none κ kc v X) (hc : ∀ j av s w, call j av s = some w → kc j av s w) {x0 : Option Nat} {σ : oSt} (h : ob_X1_init n call κ x0 σ = some v) : X 0 [some (va_rf x0)] [] σ := by
  rw [ob_X1_init] at h
  refine os_aload_n (r := x0) hX dX1_init_0 rfl rfl ?_
  obtain ⟨a1, e2, h⟩ := obn_e h
  refine ow_oI (r := x0) hX dX1_init_1 oI_RX1_3 (Nat.le_of_ble_eq_true rfl) e2 ?_
  refine os_aload_n (r := x0) hX dX1_init_4 rfl rfl ?_
  obtain ⟨s3, e4, h⟩ := olet_e h
  refine os_new hX dX1_init_5 oN_RX1_9 ?_
  rw [← e4]
  refine os_dup hX dX1_init_8 (ocat (some σ.2.1)) ?_
  obtain ⟨a5, e6, h⟩ := obn_e h
  obtain ⟨s7, e8, h⟩ := ocv_e h
  refine oc_RX1_11 (rb := (some σ.2.1))  hX dX1_init_9 (by simp only [List.map_cons, List.map_nil, List.sum_cons, List.sum_nil, ocat]; exact Nat.le_of_ble_eq_true rfl) e6 (hc _ _ _ _ e8) ?_
  obtain ⟨s10, e11, h⟩ := obn_e h
  refine ow_putF (r := x0) (x := va_rf (some σ.2.1)) hX dX1_init_12 oF_RX1_12 (by decide) rfl rfl (orf_n (Or.inl ⟨_, oT_3_0⟩) (some σ.2.1)) e11 ?_
  refine os_aload_n (r := x0) hX dX1_init_15 rfl rfl ?_
  refine os_bipush (v := 40) hX dX1_init_16 (by decide) ?_
  obtain ⟨b14, h⟩ := ogd_e h
  obtain ⟨s12, e13, h⟩ := olet_e h
  refine os_newq hX dX1_init_18 oA_RX1_18 (onn_e b14).1 (onn_e b14).2 ?_
  rw [← e13]
  obtain ⟨s15, e16, h⟩ := obn_e h
  refine ow_putF (r := x0) (x := va_rf (some s10.2.1)) hX dX1_init_21 oF_RX1_20 (by decide) rfl rfl (orf_n (Or.inr ⟨_, oT_3_1⟩) (some s10.2.1)) e16 ?_
  refine os_aload_n (r := x0) hX dX1_init_24 rfl rfl ?_
  refine os_bipush (v := 40) hX dX1_init_25 (by decide) ?_
  obtain ⟨b19, h⟩ := ogd_e h
  obtain ⟨s17, e18, h⟩ := olet_e h
  refine os_newZ hX dX1_init_27 (onn_e b19).1 (onn_e b19).2 ?_
  rw [← e18]
  obtain ⟨s20, e21, h⟩ := obn_e h
  refine ow_putF (r := x0) (x := va_rf (some s15.2.1)) hX dX1_init_29 oF_RX1_24 (by decide) rfl rfl (orf_n (Or.inr ⟨_, oT_3_2⟩) (some s15.2.1)) e21 ?_
  refine os_aload_n (r := x0) hX dX1_init_32 rfl rfl ?_
  refine os_bipush (v := 40) hX dX1_init_33 (by decide) ?_
  obtain ⟨b24, h⟩ := ogd_e h
  obtain ⟨s22, e23, h⟩ := olet_e h
  refine os_newq hX dX1_init_35 oA_RX1_28 (onn_e b24).1 (onn_e b24).2 ?_
  rw [← e23]
  obtain ⟨s25, e26, h⟩ := obn_e h
  refine ow_putF (r := x0) (x := va_rf (some s20.2.1)) hX dX1_init_38 oF_RX1_30 (by decide) rfl rfl (orf_n (Or.inr ⟨_, oT_3_4⟩) (some s20.2.1)) e26 ?_
  refine os_aload_n (r := x0) hX dX1_init_41 rfl rfl ?_
  refine os_bipush (v := 40) hX dX1_init_42 (by decide) ?_
  obtain ⟨b29, h⟩ := ogd_e h
  obtain ⟨s27, e28, h⟩ := olet_e h
  refine os_newZ hX dX1_init_44 (onn_e b29).1 (onn_e b29).2 ?_
  rw [← e28]
  obtain ⟨s30, e31, h⟩ := obn_e h
  refine ow_putF (r := x0) (x := va_rf (some s25.2.1)) hX dX1_init_46 oF_RX1_34 (by decide) rfl rfl (orf_n (Or.inr ⟨_, oT_3_5⟩) (some s25.2.1)) e31 ?_
  exact os_vret hX dX1_init_49 rfl (Option.some.inj h)
def ob_X3_init (n : Nat) (call : oCl) (κ : oKv) (x0 : Option Nat) (σ : oSt) : oRs :=
  obn (x0) fun a1 =>
  ogd (onn 6) (
  olet (onew σ (.inl (.long, (6 : Int32).toNatClampNeg, .inr (.inl (fun _ => 0)))) (6 : Int32).toNatClampNeg) fun s3 =>
  obn (opf s3 x0 5 2 (va_rf (some σ.2.1))) fun s6 =>
  ogd (onn 6) (
  olet (onew s6 (.inl (.array .int, (6 : Int32).toNatClampNeg, .inr (.inr (.inr (.inr (fun _ => none)))))) (6 : Int32).toNatClampNeg) fun s8 =>
  obn (opf s8 x0 5 3 (va_rf (some s6.2.1))) fun s11 =>
  ogd (onn 64) (
  olet (onew s11 (.inl (.long, (64 : Int32).toNatClampNeg, .inr (.inl (fun _ => 0)))) (64 : Int32).toNatClampNeg) fun s13 =>
  obn (opf s13 x0 5 4 (va_rf (some s11.2.1))) fun s16 =>
  ogd (onn 1683) (
  olet (onew s16 (.inl (.object (oq 7).1, (1683 : Int32).toNatClampNeg, .inr (.inr (.inr (.inr (fun _ => none)))))) (1683 : Int32).toNatClampNeg) fun s18 =>
  obn (opf s18 x0 5 6 (va_rf (some s16.2.1))) fun s21 =>
  ogd (onn 1683) (
  olet (onew s21 (.inl (.int, (1683 : Int32).toNatClampNeg, .inl (fun _ => 0))) (1683 : Int32).toNatClampNeg) fun s23 =>
  obn (opf s23 x0 5 7 (va_rf (some s21.2.1))) fun s26 =>
  ogd (onn 1683) (
  olet (onew s26 (.inl (.int, (1683 : Int32).toNatClampNeg, .inl (fun _ => 0))) (1683 : Int32).toNatClampNeg) fun s28 =>
  obn (opf s28 x0 5 8 (va_rf (some s26.2.1))) fun s31 =>
  some (none, s31)))))))
set_option maxHeartbeats 4000000 in
theorem qb_X3_init {κ : oKv} {n : Nat} {call : oCl} {kc : Nat → List Value → oSt → Option Value × oSt → Prop} {v : Option Value × oSt} {X : Nat → zLv → List Value → oSt → Prop} (hX : oSem RX3 cX3_init 1 2 none κ kc v X) (hc : ∀ j av s w, call j av s = some w → kc j av s w) {x0 : Option Nat} {σ : oSt} (h : ob_X3_init n call κ x0 σ = some v) : X 0 [some (va_rf x0)] [] σ := by
  rw [ob_X3_init] at h
  refine os_aload_n (r := x0) hX dX3_init_0 rfl rfl ?_
  obtain ⟨a1, e2, h⟩ := obn_e h
  refine ow_oI (r := x0) hX dX3_init_1 oI_RX3_5 (Nat.le_of_ble_eq_true rfl) e2 ?_
  refine os_aload_n (r := x0) hX dX3_init_4 rfl rfl ?_
  refine os_bipush (v := 6) hX dX3_init_5 (by decide) ?_
  obtain ⟨b5, h⟩ := ogd_e h
  obtain ⟨s3, e4, h⟩ := olet_e h
  refine os_newJ hX dX3_init_7 (onn_e b5).1 (onn_e b5).2 ?_
  rw [← e4]
  obtain ⟨s6, e7, h⟩ := obn_e h
  refine ow_putF (r := x0) (x := va_rf (some σ.2.1)) hX dX3_init_9 oF_RX3_11 (by decide) rfl rfl (orf_n (Or.inr ⟨_, oT_5_2⟩) (some σ.2.1)) e7 ?_
  refine os_aload_n (r := x0) hX dX3_init_12 rfl rfl ?_
  refine os_bipush (v := 6) hX dX3_init_13 (by decide) ?_
  obtain ⟨b10, h⟩ := ogd_e h
  obtain ⟨s8, e9, h⟩ := olet_e h
  refine os_newA hX dX3_init_15 rfl (onn_e b10).1 (onn_e b10).2 ?_
  rw [← e9]
  obtain ⟨s11, e12, h⟩ := obn_e h
  refine ow_putF (r := x0) (x := va_rf (some s6.2.1)) hX dX3_init_18 oF_RX3_17 (by decide) rfl rfl (orf_n (Or.inr ⟨_, oT_5_3⟩) (some s6.2.1)) e12 ?_
  refine os_aload_n (r := x0) hX dX3_init_21 rfl rfl ?_
  refine os_bipush (v := 64) hX dX3_init_22 (by decide) ?_
  obtain ⟨b15, h⟩ := ogd_e h
  obtain ⟨s13, e14, h⟩ := olet_e h
  refine os_newJ hX dX3_init_24 (onn_e b15).1 (onn_e b15).2 ?_
  rw [← e14]
  obtain ⟨s16, e17, h⟩ := obn_e h
  refine ow_put (r := x0) (x := va_rf (some s11.2.1)) hX dX3_init_26 oF_RX3_21 (by decide) (orf_n (Or.inr ⟨_, oT_5_4⟩) (some s11.2.1)) e17 ?_
  refine os_aload_n (r := x0) hX dX3_init_29 rfl rfl ?_
  refine os_sipush (v := 1683) hX dX3_init_30 (by decide) ?_
  obtain ⟨b20, h⟩ := ogd_e h
  obtain ⟨s18, e19, h⟩ := olet_e h
  refine os_newq hX dX3_init_33 oA_RX3_24 (onn_e b20).1 (onn_e b20).2 ?_
  rw [← e19]
  obtain ⟨s21, e22, h⟩ := obn_e h
  refine ow_putF (r := x0) (x := va_rf (some s16.2.1)) hX dX3_init_36 oF_RX3_26 (by decide) rfl rfl (orf_n (Or.inr ⟨_, oT_5_6⟩) (some s16.2.1)) e22 ?_
  refine os_aload_n (r := x0) hX dX3_init_39 rfl rfl ?_
  refine os_sipush (v := 1683) hX dX3_init_40 (by decide) ?_
  obtain ⟨b25, h⟩ := ogd_e h
  obtain ⟨s23, e24, h⟩ := olet_e h
  refine os_newI hX dX3_init_43 (onn_e b25).1 (onn_e b25).2 ?_
  rw [← e24]
  obtain ⟨s26, e27, h⟩ := obn_e h
  refine ow_putF (r := x0) (x := va_rf (some s21.2.1)) hX dX3_init_45 oF_RX3_30 (by decide) rfl rfl (orf_n (Or.inr ⟨_, oT_5_7⟩) (some s21.2.1)) e27 ?_
  refine os_aload_n (r := x0) hX dX3_init_48 rfl rfl ?_
  refine os_sipush (v := 1683) hX dX3_init_49 (by decide) ?_
  obtain ⟨b30, h⟩ := ogd_e h
  obtain ⟨s28, e29, h⟩ := olet_e h
  refine os_newI hX dX3_init_52 (onn_e b30).1 (onn_e b30).2 ?_
  rw [← e29]
  obtain ⟨s31, e32, h⟩ := obn_e h
  refine ow_putF (r := x0) (x := va_rf (some s26.2.1)) hX dX3_init_54 oF_RX3_33 (by decide) rfl rfl (orf_n (Or.inr ⟨_, oT_5_8⟩) (some s26.2.1)) e32 ?_
  exact os_vret hX dX3_init_57 rfl (Option.some.inj h)
def ob_X3_forget (n : Nat) (call : oCl) (κ : oKv) (x0 : Option Nat) (σ : oSt) : oRs :=
  obn (opf σ x0 5 0 (va_rf none)) fun s1 =>
  obn (opf s1 x0 5 16 (.long 0)) fun s3 =>
  some (none, s3)
set_option maxHeartbeats 4000000 in
theorem qb_X3_forget {κ : oKv} {n : Nat} {call : oCl} {kc : Nat → List Value → oSt → Option Value × oSt → Prop} {v : Option Value × oSt} {X : Nat → zLv → List Value → oSt → Prop} (hX : oSem RX3 cX3_forget 1 0 none κ kc v X) (hc : ∀ j av s w, call j av s = some w → kc j av s w) {x0 : Option Nat} {σ : oSt} (h : ob_X3_forget n call κ x0 σ = some v) : X 0 [some (va_rf x0)] [] σ := by
  rw [ob_X3_forget] at h
  refine os_aload_n (r := x0) hX dX3_forget_0 rfl rfl ?_
  refine os_null hX dX3_forget_1 ?_
  obtain ⟨s1, e2, h⟩ := obn_e h
  refine ow_put (r := x0) (x := va_rf none) hX dX3_forget_2 oF_RX3_36 (by decide) (orf_n (Or.inl ⟨_, oT_5_0⟩) none) e2 ?_
  refine os_aload_n (r := x0) hX dX3_forget_5 rfl rfl ?_
  refine os_lconst (v := 0) hX dX3_forget_6 (by decide) ?_
  obtain ⟨s3, e4, h⟩ := obn_e h
  refine ow_put (r := x0) (x := .long 0) hX dX3_forget_7 oF_RX3_40 (by decide) (opn_J oT_5_16) e4 ?_
  exact os_vret hX dX3_forget_10 rfl (Option.some.inj h)
def ob_X3_take (n : Nat) (call : oCl) (κ : oKv) (x0 : Option Nat) (x1 : Option Nat) (x2 : Int32) (σ : oSt) : oRs :=
  obn (opf σ x0 5 0 (va_rf x1)) fun s1 =>
  obn (opf s1 x0 5 1 (.int x2)) fun s3 =>
  obn (ovr (ofd s3 x0 5 2)) fun v5 =>
  ocv (call 241 [va_rf v5, .long 0] s3) fun s7 =>
  some (none, s7)
set_option maxHeartbeats 4000000 in
theorem qb_X3_take {κ : oKv} {n : Nat} {call : oCl} {kc : Nat → List Value → oSt → Option Value × oSt → Prop} {v : Option Value × oSt} {X : Nat → zLv → List Value → oSt → Prop} (hX : oSem RX3 cX3_take 3 0 none κ kc v X) (hc : ∀ j av s w, call j av s = some w → kc j av s w) {x0 : Option Nat} {x1 : Option Nat} {x2 : Int32} {σ : oSt} (h : ob_X3_take n call κ x0 x1 x2 σ = some v) : X 0 [some (va_rf x0), some (va_rf x1), some (.int x2)] [] σ := by
  rw [ob_X3_take] at h
  refine os_aload_n (r := x0) hX dX3_take_0 rfl rfl ?_
  refine os_aload_n (r := x1) hX dX3_take_1 rfl rfl ?_
  obtain ⟨s1, e2, h⟩ := obn_e h
  refine ow_put (r := x0) (x := va_rf x1) hX dX3_take_2 oF_RX3_36 (by decide) (orf_n (Or.inl ⟨_, oT_5_0⟩) x1) e2 ?_
  refine os_aload_n (r := x0) hX dX3_take_5 rfl rfl ?_
  refine os_iload_n hX dX3_take_6 rfl rfl ?_
  obtain ⟨s3, e4, h⟩ := obn_e h
  refine ow_put (r := x0) (x := .int x2) hX dX3_take_7 oF_RX3_44 (by decide) (opn_I oT_5_1) e4 ?_
  refine os_aload_n (r := x0) hX dX3_take_10 rfl rfl ?_
  obtain ⟨v5, e6, h⟩ := obn_e h
  refine ow_get (r := x0) hX dX3_take_11 oF_RX3_11 (ovr_e e6) ?_
  refine os_lconst (v := 0) hX dX3_take_14 (by decide) ?_
  obtain ⟨s7, e8, h⟩ := ocv_e h
  refine oc_RX3_48 (a1 := va_rf v5) (a2 := .long 0) hX dX3_take_15 (Nat.le_of_ble_eq_true rfl) (hc _ _ _ _ e8) ?_
  exact os_vret hX dX3_take_18 rfl (Option.some.inj h)
def oj_X3_set_72 (n : Nat) (call : oCl) (κ : oKv) (t0 : Option Nat) (t1 : Int32) (t2 : Int64) (σ : oSt) : oRs :=
  obn (osj σ t0 t1 t2) fun s1 =>
  some (some (.int 1), s1)
def oj_X3_set_70 (n : Nat) (call : oCl) (κ : oKv) (x3 : Int32) (t0 : Option Nat) (t1 : Int32) (σ : oSt) : oRs :=
  oj_X3_set_72 n call κ t0 t1 x3.toInt64 σ
def oj_X3_set_50 (n : Nat) (call : oCl) (κ : oKv) (x0 : Option Nat) (x1 : Int32) (x2 : Int32) (x3 : Int32) (σ : oSt) : oRs :=
  obn (ovr (ofd σ x0 5 2)) fun v1 =>
  if x2 = 202 then
    if x3 = 0 then
      oj_X3_set_70 n call κ x3 v1 x1 σ
    else
      oj_X3_set_72 n call κ v1 x1 1 σ
  else
    oj_X3_set_70 n call κ x3 v1 x1 σ
def oj_X3_set_40 (n : Nat) (call : oCl) (κ : oKv) (x0 : Option Nat) (x1 : Int32) (x2 : Int32) (x3 : Int32) (σ : oSt) : oRs :=
  obn (ovr (ofd σ x0 5 3)) fun v1 =>
  obn (oar σ v1 x1) fun v3 =>
  ocv (call 242 [va_rf v3, .int 0] σ) fun s5 =>
  oj_X3_set_50 n call κ x0 x1 x2 x3 s5
def ob_X3_set (n : Nat) (call : oCl) (κ : oKv) (x0 : Option Nat) (x1 : Int32) (x2 : Int32) (x3 : Int32) (σ : oSt) : oRs :=
  if x2 = 200 then
    if x3 < 0 then
      some (some (.int 0), σ)
    else
      if x3 ≤ 1000 then
        obn (ovr (ofd σ x0 5 3)) fun v4 =>
        obn (oar σ v4 x1) fun v6 =>
        if v6 = none then
          obn (ovr (ofd σ x0 5 3)) fun v9 =>
          ogd (onn 1000) (
          olet (onew σ (.inl (.int, (1000 : Int32).toNatClampNeg, .inl (fun _ => 0))) (1000 : Int32).toNatClampNeg) fun s11 =>
          obn (osr s11 v9 x1 (some σ.2.1)) fun s14 =>
          oj_X3_set_40 n call κ x0 x1 x2 x3 s14)
        else
          oj_X3_set_40 n call κ x0 x1 x2 x3 σ
      else
        some (some (.int 0), σ)
  else
    oj_X3_set_50 n call κ x0 x1 x2 x3 σ
set_option maxHeartbeats 4000000 in
theorem qj_X3_set_72 {κ : oKv} {n : Nat} {call : oCl} {kc : Nat → List Value → oSt → Option Value × oSt → Prop} {v : Option Value × oSt} {X : Nat → zLv → List Value → oSt → Prop} (hX : oSem RX3 cX3_set 4 0 (some .boolean) κ kc v X) (hc : ∀ j av s w, call j av s = some w → kc j av s w) {t0 : Option Nat} {t1 : Int32} {t2 : Int64} {σ : oSt} (h : oj_X3_set_72 n call κ t0 t1 t2 σ = some v) : X 72 [none, none, none, none] [.long t2, .int t1, va_rf t0] σ := by
  rw [oj_X3_set_72] at h
  obtain ⟨s1, e2, h⟩ := obn_e h
  refine ow_sj (r := t0) (i := t1) (x := t2) hX dX3_set_72 e2 ?_
  refine os_iconst (v := 1) hX dX3_set_73 (by decide) ?_
  exact os_nret (ty := .boolean) hX dX3_set_74 rfl rfl (by decide) (Option.some.inj h)
set_option maxHeartbeats 4000000 in
theorem qj_X3_set_70 {κ : oKv} {n : Nat} {call : oCl} {kc : Nat → List Value → oSt → Option Value × oSt → Prop} {v : Option Value × oSt} {X : Nat → zLv → List Value → oSt → Prop} (hX : oSem RX3 cX3_set 4 0 (some .boolean) κ kc v X) (hc : ∀ j av s w, call j av s = some w → kc j av s w) {x3 : Int32} {t0 : Option Nat} {t1 : Int32} {σ : oSt} (h : oj_X3_set_70 n call κ x3 t0 t1 σ = some v) : X 70 [none, none, none, some (.int x3)] [.int t1, va_rf t0] σ := by
  rw [oj_X3_set_70] at h
  refine os_iload_n hX dX3_set_70 rfl rfl ?_
  refine os_i2l hX dX3_set_71 ?_
  refine os_weak hX (lw := [none, none, none, none]) trivial ?_
  exact qj_X3_set_72 hX hc h
set_option maxHeartbeats 4000000 in
theorem qj_X3_set_50 {κ : oKv} {n : Nat} {call : oCl} {kc : Nat → List Value → oSt → Option Value × oSt → Prop} {v : Option Value × oSt} {X : Nat → zLv → List Value → oSt → Prop} (hX : oSem RX3 cX3_set 4 0 (some .boolean) κ kc v X) (hc : ∀ j av s w, call j av s = some w → kc j av s w) {x0 : Option Nat} {x1 : Int32} {x2 : Int32} {x3 : Int32} {σ : oSt} (h : oj_X3_set_50 n call κ x0 x1 x2 x3 σ = some v) : X 50 [some (va_rf x0), some (.int x1), some (.int x2), some (.int x3)] [] σ := by
  rw [oj_X3_set_50] at h
  refine os_aload_n (r := x0) hX dX3_set_50 rfl rfl ?_
  obtain ⟨v1, e2, h⟩ := obn_e h
  refine ow_get (r := x0) hX dX3_set_51 oF_RX3_11 (ovr_e e2) ?_
  refine os_iload_n hX dX3_set_54 rfl rfl ?_
  refine os_iload_n hX dX3_set_55 rfl rfl ?_
  refine os_sipush (v := 202) hX dX3_set_56 (by decide) ?_
  refine os_icmp_ne (tgt := 70) hX dX3_set_59 (by decide) (fun c3 => ?_) (fun c3 => ?_)
  · rw [if_neg c3] at h
    refine os_weak hX (lw := [none, none, none, some (.int x3)]) ⟨rfl, trivial⟩ ?_
    exact qj_X3_set_70 hX hc h
  · rw [if_pos c3] at h
    refine os_iload_n hX dX3_set_62 rfl rfl ?_
    refine os_if_eq (tgt := 70) hX dX3_set_63 (by decide) (fun c4 => ?_) (fun c4 => ?_)
    · rw [if_pos c4] at h
      refine os_weak hX (lw := [none, none, none, some (.int x3)]) ⟨rfl, trivial⟩ ?_
      exact qj_X3_set_70 hX hc h
    · rw [if_neg c4] at h
      refine os_lconst (v := 1) hX dX3_set_66 (by decide) ?_
      refine os_goto (tgt := 72) hX dX3_set_67 (by decide) ?_
      refine os_weak hX (lw := [none, none, none, none]) trivial ?_
      exact qj_X3_set_72 hX hc h
set_option maxHeartbeats 4000000 in
theorem qj_X3_set_40 {κ : oKv} {n : Nat} {call : oCl} {kc : Nat → List Value → oSt → Option Value × oSt → Prop} {v : Option Value × oSt} {X : Nat → zLv → List Value → oSt → Prop} (hX : oSem RX3 cX3_set 4 0 (some .boolean) κ kc v X) (hc : ∀ j av s w, call j av s = some w → kc j av s w) {x0 : Option Nat} {x1 : Int32} {x2 : Int32} {x3 : Int32} {σ : oSt} (h : oj_X3_set_40 n call κ x0 x1 x2 x3 σ = some v) : X 40 [some (va_rf x0), some (.int x1), some (.int x2), some (.int x3)] [] σ := by
  rw [oj_X3_set_40] at h
  refine os_aload_n (r := x0) hX dX3_set_40 rfl rfl ?_
  obtain ⟨v1, e2, h⟩ := obn_e h
  refine ow_get (r := x0) hX dX3_set_41 oF_RX3_17 (ovr_e e2) ?_
  refine os_iload_n hX dX3_set_44 rfl rfl ?_
  obtain ⟨v3, e4, h⟩ := obn_e h
  refine ow_ar (r := v1) (i := x1) hX dX3_set_45 e4 ?_
  refine os_iconst (v := 0) hX dX3_set_46 (by decide) ?_
  obtain ⟨s5, e6, h⟩ := ocv_e h
  refine oc_RX3_54 (a1 := va_rf v3) (a2 := .int 0) hX dX3_set_47 (Nat.le_of_ble_eq_true rfl) (hc _ _ _ _ e6) ?_
  exact qj_X3_set_50 hX hc h
set_option maxHeartbeats 4000000 in
theorem qb_X3_set {κ : oKv} {n : Nat} {call : oCl} {kc : Nat → List Value → oSt → Option Value × oSt → Prop} {v : Option Value × oSt} {X : Nat → zLv → List Value → oSt → Prop} (hX : oSem RX3 cX3_set 4 0 (some .boolean) κ kc v X) (hc : ∀ j av s w, call j av s = some w → kc j av s w) {x0 : Option Nat} {x1 : Int32} {x2 : Int32} {x3 : Int32} {σ : oSt} (h : ob_X3_set n call κ x0 x1 x2 x3 σ = some v) : X 0 [some (va_rf x0), some (.int x1), some (.int x2), some (.int x3)] [] σ := by
  rw [ob_X3_set] at h
  refine os_iload_n hX dX3_set_0 rfl rfl ?_
  refine os_sipush (v := 200) hX dX3_set_1 (by decide) ?_
  refine os_icmp_ne (tgt := 50) hX dX3_set_4 (by decide) (fun c1 => ?_) (fun c1 => ?_)
  · rw [if_neg c1] at h
    exact qj_X3_set_50 hX hc h
  · rw [if_pos c1] at h
    refine os_iload_n hX dX3_set_7 rfl rfl ?_
    refine os_if_lt (tgt := 18) hX dX3_set_8 (by decide) (fun c2 => ?_) (fun c2 => ?_)
    · rw [if_pos c2] at h
      refine os_iconst (v := 0) hX dX3_set_18 (by decide) ?_
      exact os_nret (ty := .boolean) hX dX3_set_19 rfl rfl (by decide) (Option.some.inj h)
    · rw [if_neg c2] at h
      refine os_iload_n hX dX3_set_11 rfl rfl ?_
      refine os_sipush (v := 1000) hX dX3_set_12 (by decide) ?_
      refine os_icmp_le (tgt := 20) hX dX3_set_15 (by decide) (fun c3 => ?_) (fun c3 => ?_)
      · rw [if_pos c3] at h
        refine os_aload_n (r := x0) hX dX3_set_20 rfl rfl ?_
        obtain ⟨v4, e5, h⟩ := obn_e h
        refine ow_get (r := x0) hX dX3_set_21 oF_RX3_17 (ovr_e e5) ?_
        refine os_iload_n hX dX3_set_24 rfl rfl ?_
        obtain ⟨v6, e7, h⟩ := obn_e h
        refine ow_ar (r := v4) (i := x1) hX dX3_set_25 e7 ?_
        refine os_ifnonnull (r := v6) (tgt := 40) hX dX3_set_26 (by decide) (fun c8 => ?_) (fun c8 => ?_)
        · rw [if_neg c8] at h
          exact qj_X3_set_40 hX hc h
        · rw [if_pos c8] at h
          refine os_aload_n (r := x0) hX dX3_set_29 rfl rfl ?_
          obtain ⟨v9, e10, h⟩ := obn_e h
          refine ow_get (r := x0) hX dX3_set_30 oF_RX3_17 (ovr_e e10) ?_
          refine os_iload_n hX dX3_set_33 rfl rfl ?_
          refine os_sipush (v := 1000) hX dX3_set_34 (by decide) ?_
          obtain ⟨b13, h⟩ := ogd_e h
          obtain ⟨s11, e12, h⟩ := olet_e h
          refine os_newI hX dX3_set_37 (onn_e b13).1 (onn_e b13).2 ?_
          rw [← e12]
          obtain ⟨s14, e15, h⟩ := obn_e h
          refine ow_sr (r := v9) (i := x1) (y := (some σ.2.1)) hX dX3_set_39 e15 ?_
          exact qj_X3_set_40 hX hc h
      · rw [if_neg c3] at h
        refine os_iconst (v := 0) hX dX3_set_18 (by decide) ?_
        exact os_nret (ty := .boolean) hX dX3_set_19 rfl rfl (by decide) (Option.some.inj h)
def ob_X3_setElement (n : Nat) (call : oCl) (κ : oKv) (x0 : Option Nat) (x1 : Int32) (x2 : Int32) (x3 : Int32) (σ : oSt) : oRs :=
  if x2 < 0 then
    some (some (.int 0), σ)
  else
    obn (ovr (ofd σ x0 5 2)) fun v2 =>
    obn (oaj σ v2 x1) fun v4 =>
    if 0 ≤ (lg_cmp x2.toInt64 v4) then
      some (some (.int 0), σ)
    else
      obn (ovr (ofd σ x0 5 3)) fun v7 =>
      obn (oar σ v7 x1) fun v9 =>
      if v9 = none then
        some (some (.int 0), σ)
      else
        obn (ovr (ofd σ x0 5 3)) fun v12 =>
        obn (oar σ v12 x1) fun v14 =>
        obn (osi σ v14 .int x2 x3) fun s16 =>
        some (some (.int 1), s16)
set_option maxHeartbeats 4000000 in
theorem qb_X3_setElement {κ : oKv} {n : Nat} {call : oCl} {kc : Nat → List Value → oSt → Option Value × oSt → Prop} {v : Option Value × oSt} {X : Nat → zLv → List Value → oSt → Prop} (hX : oSem RX3 cX3_setElement 4 0 (some .boolean) κ kc v X) (hc : ∀ j av s w, call j av s = some w → kc j av s w) {x0 : Option Nat} {x1 : Int32} {x2 : Int32} {x3 : Int32} {σ : oSt} (h : ob_X3_setElement n call κ x0 x1 x2 x3 σ = some v) : X 0 [some (va_rf x0), some (.int x1), some (.int x2), some (.int x3)] [] σ := by
  rw [ob_X3_setElement] at h
  refine os_iload_n hX dX3_setElement_0 rfl rfl ?_
  refine os_if_lt (tgt := 25) hX dX3_setElement_1 (by decide) (fun c1 => ?_) (fun c1 => ?_)
  · rw [if_pos c1] at h
    refine os_iconst (v := 0) hX dX3_setElement_25 (by decide) ?_
    exact os_nret (ty := .boolean) hX dX3_setElement_26 rfl rfl (by decide) (Option.some.inj h)
  · rw [if_neg c1] at h
    refine os_iload_n hX dX3_setElement_4 rfl rfl ?_
    refine os_i2l hX dX3_setElement_5 ?_
    refine os_aload_n (r := x0) hX dX3_setElement_6 rfl rfl ?_
    obtain ⟨v2, e3, h⟩ := obn_e h
    refine ow_get (r := x0) hX dX3_setElement_7 oF_RX3_11 (ovr_e e3) ?_
    refine os_iload_n hX dX3_setElement_10 rfl rfl ?_
    obtain ⟨v4, e5, h⟩ := obn_e h
    refine ow_aj (r := v2) (i := x1) hX dX3_setElement_11 e5 ?_
    refine os_lcmp hX dX3_setElement_12 ?_
    refine os_if_ge (tgt := 25) hX dX3_setElement_13 (by decide) (fun c6 => ?_) (fun c6 => ?_)
    · rw [if_pos c6] at h
      refine os_iconst (v := 0) hX dX3_setElement_25 (by decide) ?_
      exact os_nret (ty := .boolean) hX dX3_setElement_26 rfl rfl (by decide) (Option.some.inj h)
    · rw [if_neg c6] at h
      refine os_aload_n (r := x0) hX dX3_setElement_16 rfl rfl ?_
      obtain ⟨v7, e8, h⟩ := obn_e h
      refine ow_get (r := x0) hX dX3_setElement_17 oF_RX3_17 (ovr_e e8) ?_
      refine os_iload_n hX dX3_setElement_20 rfl rfl ?_
      obtain ⟨v9, e10, h⟩ := obn_e h
      refine ow_ar (r := v7) (i := x1) hX dX3_setElement_21 e10 ?_
      refine os_ifnonnull (r := v9) (tgt := 27) hX dX3_setElement_22 (by decide) (fun c11 => ?_) (fun c11 => ?_)
      · rw [if_neg c11] at h
        refine os_aload_n (r := x0) hX dX3_setElement_27 rfl rfl ?_
        obtain ⟨v12, e13, h⟩ := obn_e h
        refine ow_get (r := x0) hX dX3_setElement_28 oF_RX3_17 (ovr_e e13) ?_
        refine os_iload_n hX dX3_setElement_31 rfl rfl ?_
        obtain ⟨v14, e15, h⟩ := obn_e h
        refine ow_ar (r := v12) (i := x1) hX dX3_setElement_32 e15 ?_
        refine os_iload_n hX dX3_setElement_33 rfl rfl ?_
        refine os_iload_n hX dX3_setElement_34 rfl rfl ?_
        obtain ⟨s16, e17, h⟩ := obn_e h
        refine ow_si (r := v14) (i := x2) (x := x3) hX dX3_setElement_35 e17 ?_
        refine os_iconst (v := 1) hX dX3_setElement_36 (by decide) ?_
        exact os_nret (ty := .boolean) hX dX3_setElement_37 rfl rfl (by decide) (Option.some.inj h)
      · rw [if_pos c11] at h
        refine os_iconst (v := 0) hX dX3_setElement_25 (by decide) ?_
        exact os_nret (ty := .boolean) hX dX3_setElement_26 rfl rfl (by decide) (Option.some.inj h)
def oj_X3_room_33 (n : Nat) (call : oCl) (κ : oKv) (x0 : Option Nat) (x1 : Int32) (σ : oSt) : oRs :=
  obn (ovi (ofd σ x0 5 5)) fun v1 =>
  obn (opf σ x0 5 5 (.int (v1 + x1))) fun s3 =>
  obn (ovi (ofd s3 x0 5 5)) fun v5 =>
  some (some (.int (v5 - x1)), s3)
def ob_X3_room (n : Nat) (call : oCl) (κ : oKv) (x0 : Option Nat) (x1 : Int32) (σ : oSt) : oRs :=
  obn (ovi (ofd σ x0 5 5)) fun v1 =>
  obn (ovr (ofd σ x0 5 4)) fun v3 =>
  obn (oln2 κ σ v3) fun v5 =>
  if (v1 + x1) ≤ v5 then
    oj_X3_room_33 n call κ x0 x1 σ
  else
    obn (ovr (ofd σ x0 5 4)) fun v8 =>
    obn (ovi (ofd σ x0 5 5)) fun v10 =>
    orn (call 239 [va_rf v8, .int (2 * (v10 + x1))] σ) fun r14 s12 =>
    obn (opf s12 x0 5 4 (va_rf r14)) fun s15 =>
    oj_X3_room_33 n call κ x0 x1 s15
set_option maxHeartbeats 4000000 in
theorem qj_X3_room_33 {κ : oKv} {n : Nat} {call : oCl} {kc : Nat → List Value → oSt → Option Value × oSt → Prop} {v : Option Value × oSt} {X : Nat → zLv → List Value → oSt → Prop} (hX : oSem RX3 cX3_room 2 0 (some .int) κ kc v X) (hc : ∀ j av s w, call j av s = some w → kc j av s w) {x0 : Option Nat} {x1 : Int32} {σ : oSt} (h : oj_X3_room_33 n call κ x0 x1 σ = some v) : X 33 [some (va_rf x0), some (.int x1)] [] σ := by
  rw [oj_X3_room_33] at h
  refine os_aload_n (r := x0) hX dX3_room_33 rfl rfl ?_
  refine os_dup hX dX3_room_34 (ocat x0) ?_
  obtain ⟨v1, e2, h⟩ := obn_e h
  refine ow_get (r := x0) hX dX3_room_35 oF_RX3_94 (ovi_e e2) ?_
  refine os_iload_n hX dX3_room_38 rfl rfl ?_
  refine os_iadd hX dX3_room_39 ?_
  obtain ⟨s3, e4, h⟩ := obn_e h
  refine ow_put (r := x0) (x := .int (v1 + x1)) hX dX3_room_40 oF_RX3_94 (by decide) (opn_I oT_5_5) e4 ?_
  refine os_aload_n (r := x0) hX dX3_room_43 rfl rfl ?_
  obtain ⟨v5, e6, h⟩ := obn_e h
  refine ow_get (r := x0) hX dX3_room_44 oF_RX3_94 (ovi_e e6) ?_
  refine os_iload_n hX dX3_room_47 rfl rfl ?_
  refine os_isub hX dX3_room_48 ?_
  exact os_iret hX dX3_room_49 rfl (Option.some.inj h)
set_option maxHeartbeats 4000000 in
theorem qb_X3_room {κ : oKv} {n : Nat} {call : oCl} {kc : Nat → List Value → oSt → Option Value × oSt → Prop} {v : Option Value × oSt} {X : Nat → zLv → List Value → oSt → Prop} (hX : oSem RX3 cX3_room 2 0 (some .int) κ kc v X) (hc : ∀ j av s w, call j av s = some w → kc j av s w) {x0 : Option Nat} {x1 : Int32} {σ : oSt} (h : ob_X3_room n call κ x0 x1 σ = some v) : X 0 [some (va_rf x0), some (.int x1)] [] σ := by
  rw [ob_X3_room] at h
  refine os_aload_n (r := x0) hX dX3_room_0 rfl rfl ?_
  obtain ⟨v1, e2, h⟩ := obn_e h
  refine ow_get (r := x0) hX dX3_room_1 oF_RX3_94 (ovi_e e2) ?_
  refine os_iload_n hX dX3_room_4 rfl rfl ?_
  refine os_iadd hX dX3_room_5 ?_
  refine os_aload_n (r := x0) hX dX3_room_6 rfl rfl ?_
  obtain ⟨v3, e4, h⟩ := obn_e h
  refine ow_get (r := x0) hX dX3_room_7 oF_RX3_21 (ovr_e e4) ?_
  obtain ⟨v5, e6, h⟩ := obn_e h
  refine ow_len (r := v3) hX dX3_room_10 e6 ?_
  refine os_icmp_le (tgt := 33) hX dX3_room_11 (by decide) (fun c7 => ?_) (fun c7 => ?_)
  · rw [if_pos c7] at h
    exact qj_X3_room_33 hX hc h
  · rw [if_neg c7] at h
    refine os_aload_n (r := x0) hX dX3_room_14 rfl rfl ?_
    refine os_aload_n (r := x0) hX dX3_room_15 rfl rfl ?_
    obtain ⟨v8, e9, h⟩ := obn_e h
    refine ow_get (r := x0) hX dX3_room_16 oF_RX3_21 (ovr_e e9) ?_
    refine os_iconst (v := 2) hX dX3_room_19 (by decide) ?_
    refine os_aload_n (r := x0) hX dX3_room_20 rfl rfl ?_
    obtain ⟨v10, e11, h⟩ := obn_e h
    refine ow_get (r := x0) hX dX3_room_21 oF_RX3_94 (ovi_e e11) ?_
    refine os_iload_n hX dX3_room_24 rfl rfl ?_
    refine os_iadd hX dX3_room_25 ?_
    refine os_imul hX dX3_room_26 ?_
    obtain ⟨r14, s12, e13, h⟩ := orn_e h
    refine oc_RX3_136 (a1 := va_rf v8) (a2 := .int (2 * (v10 + x1))) hX dX3_room_27 (by simp only [List.map_cons, List.map_nil, List.sum_cons, List.sum_nil, ocat]; exact Nat.le_of_ble_eq_true rfl) (hc _ _ _ _ e13) ?_
    obtain ⟨s15, e16, h⟩ := obn_e h
    refine ow_put (r := x0) (x := va_rf r14) hX dX3_room_30 oF_RX3_21 (by decide) (orf_n (Or.inr ⟨_, oT_5_4⟩) r14) e16 ?_
    exact qj_X3_room_33 hX hc h
def ol_X3_array_18 (n : Nat) (call : oCl) (κ : oKv) : Nat → Option Nat → Int32 → Int32 → Int32 → oSt → oRs
  | 0, _, _, _, _, _ => none
  | f + 1, x0, x1, x2, x3, σ =>
    if x1 < x3 then
      obn (ovi (ofd σ x0 5 14)) fun v2 =>
      obn (opf σ x0 5 14 (.int (v2 + x1))) fun s4 =>
      some (some (.int x2), s4)
    else
      obn (ovr (ofd σ x0 5 4)) fun v6 =>
      obn (osj σ v6 (x2 + x3) 0) fun s8 =>
      ol_X3_array_18 n call κ f x0 x1 x2 (x3 + 1) s8
def ob_X3_array (n : Nat) (call : oCl) (κ : oKv) (x0 : Option Nat) (x1 : Int32) (σ : oSt) : oRs :=
  obn (oob σ x0 5) fun a1 =>
  oin (call 76 [va_rf x0, .int (x1 + 1)] σ) fun r5 s3 =>
  obn (ovr (ofd s3 x0 5 4)) fun v6 =>
  obn (osj s3 v6 r5 x1.toInt64) fun s8 =>
  ol_X3_array_18 n call κ n x0 x1 r5 1 s8
set_option maxHeartbeats 4000000 in
theorem ql_X3_array_18 {κ : oKv} {n : Nat} {call : oCl} {kc : Nat → List Value → oSt → Option Value × oSt → Prop} {v : Option Value × oSt} {X : Nat → zLv → List Value → oSt → Prop} (hX : oSem RX3 cX3_array 4 0 (some .int) κ kc v X) (hc : ∀ j av s w, call j av s = some w → kc j av s w) : ∀ (f : Nat) (x0 : Option Nat) (x1 : Int32) (x2 : Int32) (x3 : Int32) (σ : oSt), ol_X3_array_18 n call κ f x0 x1 x2 x3 σ = some v → X 18 [some (va_rf x0), some (.int x1), some (.int x2), some (.int x3)] [] σ := by
  intro f
  induction f with
  | zero => intro x0 x1 x2 x3 σ h; cases h
  | succ f hk18 =>
    intro x0 x1 x2 x3 σ h
    rw [ol_X3_array_18] at h
    refine os_iload_n hX dX3_array_18 rfl rfl ?_
    refine os_iload_n hX dX3_array_19 rfl rfl ?_
    refine os_icmp_gt (tgt := 38) hX dX3_array_20 (by decide) (fun c1 => ?_) (fun c1 => ?_)
    · rw [if_pos c1] at h
      refine os_aload_n (r := x0) hX dX3_array_38 rfl rfl ?_
      refine os_dup hX dX3_array_39 (ocat x0) ?_
      obtain ⟨v2, e3, h⟩ := obn_e h
      refine ow_get (r := x0) hX dX3_array_40 oF_RX3_103 (ovi_e e3) ?_
      refine os_iload_n hX dX3_array_43 rfl rfl ?_
      refine os_iadd hX dX3_array_44 ?_
      obtain ⟨s4, e5, h⟩ := obn_e h
      refine ow_put (r := x0) (x := .int (v2 + x1)) hX dX3_array_45 oF_RX3_103 (by decide) (opn_I oT_5_14) e5 ?_
      refine os_iload_n hX dX3_array_48 rfl rfl ?_
      exact os_iret hX dX3_array_49 rfl (Option.some.inj h)
    · rw [if_neg c1] at h
      refine os_aload_n (r := x0) hX dX3_array_23 rfl rfl ?_
      obtain ⟨v6, e7, h⟩ := obn_e h
      refine ow_get (r := x0) hX dX3_array_24 oF_RX3_21 (ovr_e e7) ?_
      refine os_iload_n hX dX3_array_27 rfl rfl ?_
      refine os_iload_n hX dX3_array_28 rfl rfl ?_
      refine os_iadd hX dX3_array_29 ?_
      refine os_lconst (v := 0) hX dX3_array_30 (by decide) ?_
      obtain ⟨s8, e9, h⟩ := obn_e h
      refine ow_sj (r := v6) (i := (x2 + x3)) (x := 0) hX dX3_array_31 e9 ?_
      refine os_iinc (v := x3 + 1) hX dX3_array_32 rfl rfl (by decide) rfl ?_
      dsimp only [List.set]
      refine os_goto (tgt := 18) hX dX3_array_35 (by decide) ?_
      exact hk18 _ _ _ _ _ h
set_option maxHeartbeats 4000000 in
theorem qb_X3_array {κ : oKv} {n : Nat} {call : oCl} {kc : Nat → List Value → oSt → Option Value × oSt → Prop} {v : Option Value × oSt} {X : Nat → zLv → List Value → oSt → Prop} (hX : oSem RX3 cX3_array 4 0 (some .int) κ kc v X) (hc : ∀ j av s w, call j av s = some w → kc j av s w) {x0 : Option Nat} {x1 : Int32} {σ : oSt} (h : ob_X3_array n call κ x0 x1 σ = some v) : X 0 [some (va_rf x0), some (.int x1), none, none] [] σ := by
  rw [ob_X3_array] at h
  refine os_aload_n (r := x0) hX dX3_array_0 rfl rfl ?_
  refine os_iload_n hX dX3_array_1 rfl rfl ?_
  refine os_iconst (v := 1) hX dX3_array_2 (by decide) ?_
  refine os_iadd hX dX3_array_3 ?_
  obtain ⟨a1, e2, h⟩ := obn_e h
  obtain ⟨r5, s3, e4, h⟩ := oin_e h
  refine oc_RX3_140 (rb := x0) (a1 := .int (x1 + 1)) hX dX3_array_4 (Nat.le_of_ble_eq_true rfl) e2 (hc _ _ _ _ e4) ?_
  refine os_istore_n hX dX3_array_7 rfl (by decide) rfl ?_
  dsimp only [List.set]
  refine os_aload_n (r := x0) hX dX3_array_8 rfl rfl ?_
  obtain ⟨v6, e7, h⟩ := obn_e h
  refine ow_get (r := x0) hX dX3_array_9 oF_RX3_21 (ovr_e e7) ?_
  refine os_iload_n hX dX3_array_12 rfl rfl ?_
  refine os_iload_n hX dX3_array_13 rfl rfl ?_
  refine os_i2l hX dX3_array_14 ?_
  obtain ⟨s8, e9, h⟩ := obn_e h
  refine ow_sj (r := v6) (i := r5) (x := x1.toInt64) hX dX3_array_15 e9 ?_
  refine os_iconst (v := 1) hX dX3_array_16 (by decide) ?_
  refine os_istore_n hX dX3_array_17 rfl (by decide) rfl ?_
  dsimp only [List.set]
  exact ql_X3_array_18 hX hc n _ _ _ _ _ h
def oj_X3_givenArray_60 (n : Nat) (call : oCl) (κ : oKv) (x2 : Int32) (σ : oSt) : oRs :=
  some (some (.long x2.toInt64), σ)
def ol_X3_givenArray_14 (n : Nat) (call : oCl) (κ : oKv) : Nat → Option Nat → Int32 → Int32 → Int32 → oSt → oRs
  | 0, _, _, _, _, _ => none
  | f + 1, x0, x1, x2, x3, σ =>
    obn (ovr (ofd σ x0 5 2)) fun v1 =>
    obn (oaj σ v1 x1) fun v3 =>
    if 0 ≤ (lg_cmp x3.toInt64 v3) then
      oj_X3_givenArray_60 n call κ x2 σ
    else
      obn (ovr (ofd σ x0 5 3)) fun v6 =>
      obn (oar σ v6 x1) fun v8 =>
      if v8 = none then
        oj_X3_givenArray_60 n call κ x2 σ
      else
        obn (ovr (ofd σ x0 5 4)) fun v11 =>
        obn (ovr (ofd σ x0 5 3)) fun v13 =>
        obn (oar σ v13 x1) fun v15 =>
        obn (oai σ v15 .int x3) fun v17 =>
        obn (osj σ v11 ((x2 + 1) + x3) v17.toInt64) fun s19 =>
        ol_X3_givenArray_14 n call κ f x0 x1 x2 (x3 + 1) s19
def ob_X3_givenArray (n : Nat) (call : oCl) (κ : oKv) (x0 : Option Nat) (x1 : Int32) (σ : oSt) : oRs :=
  obn (ovr (ofd σ x0 5 2)) fun v1 =>
  obn (oaj σ v1 x1) fun v3 =>
  obn (oob σ x0 5) fun a5 =>
  oin (call 77 [va_rf x0, .int v3.toInt32] σ) fun r9 s7 =>
  ol_X3_givenArray_14 n call κ n x0 x1 r9 0 s7
set_option maxHeartbeats 4000000 in
theorem qj_X3_givenArray_60 {κ : oKv} {n : Nat} {call : oCl} {kc : Nat → List Value → oSt → Option Value × oSt → Prop} {v : Option Value × oSt} {X : Nat → zLv → List Value → oSt → Prop} (hX : oSem RX3 cX3_givenArray 4 0 (some .long) κ kc v X) (hc : ∀ j av s w, call j av s = some w → kc j av s w) {x2 : Int32} {σ : oSt} (h : oj_X3_givenArray_60 n call κ x2 σ = some v) : X 60 [none, none, some (.int x2), none] [] σ := by
  rw [oj_X3_givenArray_60] at h
  refine os_iload_n hX dX3_givenArray_60 rfl rfl ?_
  refine os_i2l hX dX3_givenArray_61 ?_
  exact os_lret hX dX3_givenArray_62 rfl (Option.some.inj h)
set_option maxHeartbeats 4000000 in
theorem ql_X3_givenArray_14 {κ : oKv} {n : Nat} {call : oCl} {kc : Nat → List Value → oSt → Option Value × oSt → Prop} {v : Option Value × oSt} {X : Nat → zLv → List Value → oSt → Prop} (hX : oSem RX3 cX3_givenArray 4 0 (some .long) κ kc v X) (hc : ∀ j av s w, call j av s = some w → kc j av s w) : ∀ (f : Nat) (x0 : Option Nat) (x1 : Int32) (x2 : Int32) (x3 : Int32) (σ : oSt), ol_X3_givenArray_14 n call κ f x0 x1 x2 x3 σ = some v → X 14 [some (va_rf x0), some (.int x1), some (.int x2), some (.int x3)] [] σ := by
  intro f
  induction f with
  | zero => intro x0 x1 x2 x3 σ h; cases h
  | succ f hk14 =>
    intro x0 x1 x2 x3 σ h
    rw [ol_X3_givenArray_14] at h
    refine os_iload_n hX dX3_givenArray_14 rfl rfl ?_
    refine os_i2l hX dX3_givenArray_15 ?_
    refine os_aload_n (r := x0) hX dX3_givenArray_16 rfl rfl ?_
    obtain ⟨v1, e2, h⟩ := obn_e h
    refine ow_get (r := x0) hX dX3_givenArray_17 oF_RX3_11 (ovr_e e2) ?_
    refine os_iload_n hX dX3_givenArray_20 rfl rfl ?_
    obtain ⟨v3, e4, h⟩ := obn_e h
    refine ow_aj (r := v1) (i := x1) hX dX3_givenArray_21 e4 ?_
    refine os_lcmp hX dX3_givenArray_22 ?_
    refine os_if_ge (tgt := 60) hX dX3_givenArray_23 (by decide) (fun c5 => ?_) (fun c5 => ?_)
    · rw [if_pos c5] at h
      refine os_weak hX (lw := [none, none, some (.int x2), none]) ⟨rfl, trivial⟩ ?_
      exact qj_X3_givenArray_60 hX hc h
    · rw [if_neg c5] at h
      refine os_aload_n (r := x0) hX dX3_givenArray_26 rfl rfl ?_
      obtain ⟨v6, e7, h⟩ := obn_e h
      refine ow_get (r := x0) hX dX3_givenArray_27 oF_RX3_17 (ovr_e e7) ?_
      refine os_iload_n hX dX3_givenArray_30 rfl rfl ?_
      obtain ⟨v8, e9, h⟩ := obn_e h
      refine ow_ar (r := v6) (i := x1) hX dX3_givenArray_31 e9 ?_
      refine os_ifnull (r := v8) (tgt := 60) hX dX3_givenArray_32 (by decide) (fun c10 => ?_) (fun c10 => ?_)
      · rw [if_pos c10] at h
        refine os_weak hX (lw := [none, none, some (.int x2), none]) ⟨rfl, trivial⟩ ?_
        exact qj_X3_givenArray_60 hX hc h
      · rw [if_neg c10] at h
        refine os_aload_n (r := x0) hX dX3_givenArray_35 rfl rfl ?_
        obtain ⟨v11, e12, h⟩ := obn_e h
        refine ow_get (r := x0) hX dX3_givenArray_36 oF_RX3_21 (ovr_e e12) ?_
        refine os_iload_n hX dX3_givenArray_39 rfl rfl ?_
        refine os_iconst (v := 1) hX dX3_givenArray_40 (by decide) ?_
        refine os_iadd hX dX3_givenArray_41 ?_
        refine os_iload_n hX dX3_givenArray_42 rfl rfl ?_
        refine os_iadd hX dX3_givenArray_43 ?_
        refine os_aload_n (r := x0) hX dX3_givenArray_44 rfl rfl ?_
        obtain ⟨v13, e14, h⟩ := obn_e h
        refine ow_get (r := x0) hX dX3_givenArray_45 oF_RX3_17 (ovr_e e14) ?_
        refine os_iload_n hX dX3_givenArray_48 rfl rfl ?_
        obtain ⟨v15, e16, h⟩ := obn_e h
        refine ow_ar (r := v13) (i := x1) hX dX3_givenArray_49 e16 ?_
        refine os_iload_n hX dX3_givenArray_50 rfl rfl ?_
        obtain ⟨v17, e18, h⟩ := obn_e h
        refine ow_ai (r := v15) (i := x3) hX dX3_givenArray_51 e18 ?_
        refine os_i2l hX dX3_givenArray_52 ?_
        obtain ⟨s19, e20, h⟩ := obn_e h
        refine ow_sj (r := v11) (i := ((x2 + 1) + x3)) (x := v17.toInt64) hX dX3_givenArray_53 e20 ?_
        refine os_iinc (v := x3 + 1) hX dX3_givenArray_54 rfl rfl (by decide) rfl ?_
        dsimp only [List.set]
        refine os_goto (tgt := 14) hX dX3_givenArray_57 (by decide) ?_
        exact hk14 _ _ _ _ _ h
set_option maxHeartbeats 4000000 in
theorem qb_X3_givenArray {κ : oKv} {n : Nat} {call : oCl} {kc : Nat → List Value → oSt → Option Value × oSt → Prop} {v : Option Value × oSt} {X : Nat → zLv → List Value → oSt → Prop} (hX : oSem RX3 cX3_givenArray 4 0 (some .long) κ kc v X) (hc : ∀ j av s w, call j av s = some w → kc j av s w) {x0 : Option Nat} {x1 : Int32} {σ : oSt} (h : ob_X3_givenArray n call κ x0 x1 σ = some v) : X 0 [some (va_rf x0), some (.int x1), none, none] [] σ := by
  rw [ob_X3_givenArray] at h
  refine os_aload_n (r := x0) hX dX3_givenArray_0 rfl rfl ?_
  refine os_aload_n (r := x0) hX dX3_givenArray_1 rfl rfl ?_
  obtain ⟨v1, e2, h⟩ := obn_e h
  refine ow_get (r := x0) hX dX3_givenArray_2 oF_RX3_11 (ovr_e e2) ?_
  refine os_iload_n hX dX3_givenArray_5 rfl rfl ?_
  obtain ⟨v3, e4, h⟩ := obn_e h
  refine ow_aj (r := v1) (i := x1) hX dX3_givenArray_6 e4 ?_
  refine os_l2i hX dX3_givenArray_7 ?_
  obtain ⟨a5, e6, h⟩ := obn_e h
  obtain ⟨r9, s7, e8, h⟩ := oin_e h
  refine oc_RX3_132 (rb := x0) (a1 := .int v3.toInt32) hX dX3_givenArray_8 (Nat.le_of_ble_eq_true rfl) e6 (hc _ _ _ _ e8) ?_
  refine os_istore_n hX dX3_givenArray_11 rfl (by decide) rfl ?_
  dsimp only [List.set]
  refine os_iconst (v := 0) hX dX3_givenArray_12 (by decide) ?_
  refine os_istore_n hX dX3_givenArray_13 rfl (by decide) rfl ?_
  dsimp only [List.set]
  exact ql_X3_givenArray_14 hX hc n _ _ _ _ _ h
